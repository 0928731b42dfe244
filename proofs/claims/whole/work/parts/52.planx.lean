/-! the HANDLERS of a CLASS -/
def hmk (A : MI) (e : Int32) : Nat → Int32
  | 0 => 0
  | k + 1 => if bt e k = true then hmk A e k ||| (1 <<< (A 127 k &&& 31)) else hmk A e k
def hxk (A : MI) (r : Nat → Nat) : Nat → Int32
  | 0 => 0
  | k + 1 => hxk A r k ||| (1 <<< (A 127 (r k) &&& 31))
def onA (A : MI) (c : Nat) : Bool := decide (A 134 c ≠ 0)
def HA (A : MI) (nb c : Nat) : Int32 := hmk A (A 134 c) nb
section PLANX
variable {l : Launch} {w : Nat → Nat} {nb : Nat} {F A F0 A0 : MI} {V : MI → MI → Prop}
def Hd (A : MI) (nb : Nat) (hd : Nat → Nat) : Prop := ∀ b, b < nb → hd b < 10 ∧ A 127 b = nI (hd b)
theorem hd_of (h2 : I2 nb F A) : ∃ hd, Hd A nb hd ∧ ∀ b, b < nb → F 3 (147 + 2 * b) = nI (hd b) := by
  refine ⟨fun b => (A 127 b).toNatClampNeg, fun b hb => ?_, fun b hb => ?_⟩
  all_goals
    obtain ⟨br, ag, si, ha, hB⟩ := h2.2.2.2.1 b hb
    have e1 := hB.2.2.2.2.2.2.2.2.2.2.2
    have e2 := hB.2.2.2.2.2.2.2.2.2.2.1
    have e3 := hB.2.2.2.1
    have e4 : (A 127 b).toNatClampNeg = ha := by rw [e1, nI_clamp (by omega)]
  · show (A 127 b).toNatClampNeg < 10 ∧ A 127 b = nI (A 127 b).toNatClampNeg
    rw [e4]; exact ⟨e3, e1⟩
  · show F 3 (147 + 2 * b) = nI (A 127 b).toNatClampNeg
    rw [e4]; exact e2
theorem hmk_bt {hd : Nat → Nat} (hH : Hd A nb hd) {e : Int32} : ∀ k, k ≤ nb → ∀ x, bt (hmk A e k) x = true ↔ ∃ b, b < k ∧ bt e b = true ∧ hd b = x
  | 0, _, x => by
    unfold hmk
    rw [b_0]
    exact ⟨fun h => (by cases h), fun ⟨b, hb, _⟩ => absurd hb (Nat.not_lt_zero b)⟩
  | k + 1, hk, x => by
    unfold hmk
    have ih := hmk_bt hH (e := e) k (by omega) x
    by_cases z : bt e k = true
    · rw [if_pos z, (hH k (by omega)).2, bit_or (by have := (hH k (by omega)).1; omega), Bool.or_eq_true, ih, decide_eq_true_eq]
      constructor
      · rintro (⟨b, h1, h2, h3⟩ | h)
        · exact ⟨b, by omega, h2, h3⟩
        · exact ⟨k, by omega, z, h.symm⟩
      · rintro ⟨b, h1, h2, h3⟩
        rcases Nat.lt_or_ge b k with y | y
        · exact Or.inl ⟨b, y, h2, h3⟩
        · rw [show b = k by omega] at h3; exact Or.inr h3.symm
    · rw [if_neg z, ih]
      constructor
      · rintro ⟨b, h1, h2, h3⟩
        exact ⟨b, by omega, h2, h3⟩
      · rintro ⟨b, h1, h2, h3⟩
        rcases Nat.lt_or_ge b k with y | y
        · exact ⟨b, y, h2, h3⟩
        · rw [show b = k by omega] at h2; exact absurd h2 z
theorem hxk_bt {hd : Nat → Nat} (hH : Hd A nb hd) {r : Nat → Nat} {n : Nat} (hr : ∀ k, k < n → r k < nb) : ∀ k, k ≤ n → ∀ x, bt (hxk A r k) x = true ↔ ∃ i, i < k ∧ hd (r i) = x
  | 0, _, x => by
    unfold hxk
    rw [b_0]
    exact ⟨fun h => (by cases h), fun ⟨b, hb, _⟩ => absurd hb (Nat.not_lt_zero b)⟩
  | k + 1, hk, x => by
    unfold hxk
    have hrk := hr k (by omega)
    rw [(hH _ hrk).2, bit_or (by have := (hH _ hrk).1; omega), Bool.or_eq_true, hxk_bt hH hr k (by omega) x, decide_eq_true_eq]
    constructor
    · rintro (⟨b, h1, h3⟩ | h)
      · exact ⟨b, by omega, h3⟩
      · exact ⟨k, by omega, h.symm⟩
    · rintro ⟨b, h1, h3⟩
      rcases Nat.lt_or_ge b k with y | y
      · exact Or.inl ⟨b, y, h3⟩
      · rw [show b = k by omega] at h3; exact Or.inr h3.symm
theorem on_H {hd : Nat → Nat} (hH : Hd A nb hd) (h5 : I5 nb F A) {c : Nat} (hc : c < 6) : onA A c = true ↔ HA A nb c ≠ 0 := by
  unfold onA HA
  rw [decide_eq_true_eq]
  constructor
  · intro h z
    apply h
    apply b_ext
    intro b _
    rw [b_0]
    cases y : bt (A 134 c) b
    · rfl
    · have hb := (h5 c hc).2.2.2.2.1 b y
      have := (hmk_bt hH (e := A 134 c) nb (Nat.le_refl nb) (hd b)).mpr ⟨b, hb, y, rfl⟩
      rw [z, b_0] at this; cases this
  · intro h z
    apply h
    apply b_ext
    intro x _
    rw [b_0]
    cases y : bt (hmk A (A 134 c) nb) x
    · rfl
    · obtain ⟨b, -, h2, -⟩ := (hmk_bt hH nb (Nat.le_refl nb) x).mp y
      rw [z, b_0] at h2; cases h2
theorem handlers_loop {c n : Nat} {r : Nat → Nat} {P : Int32 → MI → MI → Prop} (hc : c < 6) (hn : n ≤ 8) (hnb : nb ≤ 20) (hF : F 161 (38 + 14 * c) = nI n) (hR : ∀ k, k < n → A (38 + 14 * c + 12) k = nI (r k)) (hr : ∀ k, k < n → r k < nb) (h3 : ∀ b, b < nb → F 3 (147 + 2 * b) = A 127 b) (hP : P (hxk A r n) F A) : ∀ (d i : Nat) (x2 x3 : Int32), i + d = n → x3 = nI i → x2 = hxk A r i → ZM l mX6_handlersOf 1 w nb (qi P) 4 [(0, .ref (38 + 14 * c)), (1, .ref 4), (2, .int x2), (3, .int x3)] [] F A
  | 0, i, x2, x3, hd, hx, hy => by
    subst hx
    subst hy
    have : i = n := by omega
    subst this
    refine vX6_handlersOf_4 hc ?_
    rw [hF]
    exact ⟨fun _ => ⟨_, rfl, hP⟩, fun h => absurd (Int32.le_refl _) h⟩
  | d + 1, i, x2, x3, hd, hx, hy => by
    subst hx
    subst hy
    have hri := hr i (by omega)
    refine vX6_handlersOf_4 hc ?_
    rw [hF, nI_clamp (by omega), hR i (by omega), nI_clamp (by omega), h3 _ hri]
    exact ⟨fun h => absurd h (nI_ge (a := i) (by omega) (by omega)), fun _ => ⟨vp_in_nI (by omega) (by decide), vp_in_nI (by omega) (by decide), hri, handlers_loop hc hn hnb hF hR hr h3 hP d (i + 1) _ _ (by omega) (by rw [nI_1]) rfl⟩⟩
theorem s_handlers {c : Nat} {P : Int32 → MI → MI → Prop} (hI : Inv w nb F A) (hc : c < 6) (hP : P (HA A nb c) F A) : CM l mX6_handlersOf 1 w nb [.ref (38 + 14 * c), .ref 4] F A (qi P) := by
  obtain ⟨hd, hH, h3⟩ := hd_of hI.2.1
  obtain ⟨g0, g1, g2, g3, g4, g5⟩ := hI.2.2.2.2.1 c hc
  have hr : ∀ k, k < pcn (A 134 c) → rowM A c k < nb := fun k hk => g4 _ (row_mem g3 hk)
  have hXr : ∀ k, k < pcn (A 134 c) → A (38 + 14 * c + 12) k = nI (rowM A c k) := (hI.2.2.2.2.2.2.2.2.1 c hc).2
  have e : hxk A (rowM A c) (pcn (A 134 c)) = HA A nb c := by
    apply b_ext
    intro x _
    have h1 := hxk_bt hH hr (pcn (A 134 c)) (Nat.le_refl _) x
    have h2 := hmk_bt hH (e := A 134 c) nb (Nat.le_refl nb) x
    have h4 : (∃ i, i < pcn (A 134 c) ∧ hd (rowM A c i) = x) ↔ ∃ b, b < nb ∧ bt (A 134 c) b = true ∧ hd b = x := by
      constructor
      · rintro ⟨i, i1, i2⟩
        exact ⟨rowM A c i, hr i i1, row_mem g3 i1, i2⟩
      · rintro ⟨b, b1, b2, b3⟩
        obtain ⟨k, k1, k2⟩ := row_all g3 b2
        exact ⟨k, k1, by rw [k2]; exact b3⟩
    have h5 := h1.trans (h4.trans h2.symm)
    unfold HA
    cases y : bt (hxk A (rowM A c) (pcn (A 134 c))) x
    · cases z : bt (hmk A (A 134 c) nb) x
      · rfl
      · rw [h5.mpr z] at y; cases y
    · rw [h5.mp y]
  refine kX6_handlersOf hc ?_
  generalize rowM A c = r at hr hXr e
  refine handlers_loop (r := r) hc g3 hI.2.1.2.2.1 g2 hXr hr (fun b hb => by rw [h3 b hb, (hH b hb).2]) ?_ (pcn (A 134 c)) 0 0 0 (by omega) rfl rfl
  rw [e]
  exact hP
def PF (A0 A : MI) : Prop := ∀ a j, ¬ (30 ≤ a ∧ a ≤ 33) → A a j = A0 a j
theorem PF.inv (h : PF A0 A) (hw : TW w) (hI : Inv w nb F A0) : Inv w nb F A := hI.frame hw.1 (fun _ _ _ => rfl) (fun a j q => h a j (fun e => q (by unfold scA; omega)))
theorem hmk_cong (h : ∀ j, A 127 j = A0 127 j) (e : Int32) : ∀ k, hmk A e k = hmk A0 e k
  | 0 => rfl
  | k + 1 => by
    unfold hmk
    rw [hmk_cong h e k, h]
theorem PF.H (h : PF A0 A) (c : Nat) : HA A nb c = HA A0 nb c := by
  unfold HA
  rw [h 134 c (by omega), hmk_cong (fun j => h 127 j (by omega))]
theorem planX_l {s : Nat} (hs : 1 ≤ s ∧ s ≤ 3) {on : Nat → Bool} {H : Nat → Int32} (hon : ∀ c, c < 6 → (on c = true ↔ H c ≠ 0)) (hV : ∀ A last g, plan6 on H s = some (last, g) → PF A0 A → (∀ j, j < 6 → A 31 j = if on j = true then nI (g j) else -1) → V F A) : ∀ (k v : Nat) (x5 : Int32) (A : MI), v + k = 6 → x5 = nI v → PF A0 A → FX on H (fun _ => 0) 0 A → (∀ j, j < 6 → on j = false → A 31 j = -1) → plan6 on H s = fsto (fun last => (srch on H s last 6 0 (fun _ => 0)).map (fun g => (last, g))) k v → ZM l mX6_plan 10 w nb (qv V) 61 [(0, .ref 29), (3, .int (nI s)), (4, .int 0), (5, .int x5)] [] F A
  | 0, v, x5, A, hk, hx, h1, h2, h3, e => by
    obtain ⟨q, hq⟩ := plan_ex (on := on) (H := H) hs.1
    rw [e] at hq; cases hq
  | k + 1, v, x5, A, hk, hx, h1, h2, h3, e => by
    subst hx
    refine vX6_plan_61 ⟨fun h => absurd h (nI_ge (a := v) (b := 6) (by omega) (by decide)), fun _ => ⟨fun h => absurd rfl h, fun _ => ?_⟩⟩
    refine fitX hs.2 (by omega) hon 6 0 (fun _ => 0) A _ rfl h2 ⟨fun d _ hd => absurd hd (Nat.not_lt_zero d), fun v => Nat.zero_le s⟩ (fun A' g eg g1 g2 g3 => ?_) (fun A' eg g1 g2 g3 g4 => ?_)
    · have hA' : V F A' := hV A' v g (by
        rw [e]
        conv => lhs; unfold fsto
        rw [eg]
        rfl) (fun a j z => (g1 a j (by omega)).trans (h1 a j z)) (fun j hj => by
        cases o : on j
        · rw [if_neg (by decide), g3 j (Or.inr o)]; exact h3 j hj o
        · rw [if_pos rfl]; exact g2 j hj o (Nat.zero_le j))
      exact vX6_plan_61 ⟨fun _ => ⟨rfl, hA'⟩, fun _ => ⟨fun _ => ⟨rfl, hA'⟩, fun z => absurd z (by decide)⟩⟩
    · refine planX_l hs hon hV k (v + 1) _ A' (by omega) (by rw [nI_1]) (fun a j z => (g1 a j (by omega)).trans (h1 a j z)) ⟨fun j hj => (g1 30 j (by omega)).trans (h2.1 j hj), fun u hu => (g4 u hu).trans (h2.2.1 u hu), fun u hu => (g3 u hu).trans (h2.2.2 u hu)⟩ (fun j hj o => (g2 j (Or.inr o)).trans (h3 j hj o)) ?_
      rw [e]
      conv => lhs; unfold fsto
      rw [eg]
      rfl
theorem planX_0 {s : Nat} (hs : 1 ≤ s ∧ s ≤ 3) (hw : TW w) (hI : Inv w nb F A0) (hV : ∀ A last g, plan6 (onA A0) (HA A0 nb) s = some (last, g) → PF A0 A → (∀ j, j < 6 → A 31 j = if onA A0 j = true then nI (g j) else -1) → V F A) : ∀ (d c : Nat) (x4 : Int32) (A : MI), c + d = 6 → x4 = nI c → PF A0 A → (∀ j, j < c → A 30 j = HA A0 nb j ∧ A 31 j = -1 ∧ A 32 j = 0 ∧ A 33 j = 0) → ZM l mX6_plan 10 w nb (qv V) 3 [(0, .ref 29), (1, .ref 5), (2, .ref 4), (3, .int (nI s)), (4, .int x4)] [] F A
  | 0, c, x4, A, hd, hx, h1, h2 => by
    subst hx
    have : c = 6 := by omega
    subst this
    obtain ⟨hdd, hH, -⟩ := hd_of hI.2.1
    exact vX6_plan_3 ⟨fun _ => planX_l hs (fun c hc => on_H hH hI.2.2.2.2.1 hc) hV 6 0 0 A rfl rfl h1 ⟨fun j hj => (h2 j hj).1, fun v hv => (h2 v hv).2.2.2, fun v hv => (h2 v hv).2.2.1⟩ (fun j hj _ => (h2 j hj).2.1) rfl, fun h => absurd (Int32.le_refl _) h⟩
  | d + 1, c, x4, A, hd, hx, h1, h2 => by
    subst hx
    have hc : c < 6 := by omega
    have hv := vp_in_nI hc (N := 6) (by decide)
    refine vX6_plan_3 ⟨fun h => absurd h (nI_ge (a := c) (b := 6) hc (by decide)), fun _ => ⟨hv, ?_⟩⟩
    rw [nI_clamp (by omega)]
    refine s_handlers (h1.inv hw hI) hc ⟨hv, hv, hv, hv, ?_⟩
    rw [h1.H]
    refine planX_0 hs hw hI hV d (c + 1) _ _ (by omega) (by rw [nI_1]) (fun a j z => by rw [u2_n1 (by omega), u2_n1 (by omega), u2_n1 (by omega), u2_n1 (by omega)]; exact h1 a j z) (fun j hj => ?_)
    by_cases z : j = c
    · rw [z]
      refine ⟨?_, ?_, ?_, u2_s⟩
      · rw [u2_n1 (by decide), u2_n1 (by decide), u2_n1 (by decide), u2_s]
      · rw [u2_n1 (by decide), u2_n1 (by decide), u2_s]
      · rw [u2_n1 (by decide), u2_s]
    · have := h2 j (by omega)
      rw [u2_ne (by omega), u2_ne (by omega), u2_ne (by omega), u2_ne (by omega), u2_ne (by omega), u2_ne (by omega), u2_ne (by omega), u2_ne (by omega), u2_ne (by omega), u2_ne (by omega), u2_ne (by omega), u2_ne (by omega), u2_ne (by omega), u2_ne (by omega), u2_ne (by omega), u2_ne (by omega)]
      exact this
theorem s_plan {s : Nat} (hs : 1 ≤ s ∧ s ≤ 3) (hw : TW w) (hI : Inv w nb F A0) (hV : ∀ A last g, plan6 (onA A0) (HA A0 nb) s = some (last, g) → PF A0 A → (∀ j, j < 6 → A 31 j = if onA A0 j = true then nI (g j) else -1) → V F A) : CM l mX6_plan 10 w nb [.ref 29, .ref 5, .ref 4, .int (nI s)] F A0 (qv V) :=
  kX6_plan (planX_0 hs hw hI hV 6 0 0 A0 rfl rfl (fun _ _ _ => rfl) (fun j hj => absurd hj (Nat.not_lt_zero j)))
end PLANX
