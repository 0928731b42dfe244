/-! TEAMS -/
/-- the least PLACE of b in the CLASSES below c; 0 if it has none -/
def lp (A : MI) (b : Nat) : Nat → Nat
  | 0 => 0
  | c + 1 => if bt (A 134 c) b = true then (if lp A b c = 0 ∨ plq A c b + 1 < lp A b c then plq A c b + 1 else lp A b c) else lp A b c
def tb (q : Nat → Bool) (p : Nat) : Nat → Nat → Nat × Nat → Nat × Nat
  | 0, _, r => r
  | d + 1, b, r => tb q p d (b + 1) (if q b = true ∧ r.1 < 3 then (r.1 + 1, r.2 + p) else r)
theorem tb_full {q : Nat → Bool} {p : Nat} {r : Nat × Nat} (h : 3 ≤ r.1) : ∀ d b, tb q p d b r = r
  | 0, _ => rfl
  | d + 1, b => by
    unfold tb
    rw [if_neg (by omega)]
    exact tb_full h d (b + 1)
theorem tbl3 {q : Nat → Bool} {p : Nat} : ∀ d b r, r.1 ≤ 3 → (tb q p d b r).1 ≤ 3
  | 0, _, r, h => h
  | d + 1, b, r, h => by
    unfold tb
    refine tbl3 d (b + 1) _ ?_
    split
    · show r.1 + 1 ≤ 3; omega
    · exact h
def tp (q : Nat → Nat → Bool) (n : Nat) : Nat → Nat → Nat × Nat → Nat × Nat
  | 0, _, r => r
  | d + 1, p, r => tp q n d (p + 1) (tb (q p) p n 0 r)
theorem lp_le {A : MI} {nb : Nat} {F : MI} (h5 : I5 nb F A) (b : Nat) : ∀ c, c ≤ 6 → lp A b c ≤ 8
  | 0, _ => Nat.zero_le 8
  | c + 1, hc => by
    have ih := lp_le h5 b c (by omega)
    have hp := (h5 c (by omega)).2.2.2.1
    unfold lp
    split
    · rename_i hb
      have := (plq_ent hp).mpr hb
      split
      · omega
      · exact ih
    · exact ih
def tq5 (A : MI) (s : Nat) (p b : Nat) : Bool := decide (A 126 b = nI s) && decide (lp A b 6 = p)
section TEAM
variable {l : Launch} {w : Nat → Nat} {nb : Nat} {F A F0 A0 : MI} {P : Int32 → MI → MI → Prop}
def lpI (n : Nat) : Int32 := if n = 0 then -1 else nI n
theorem m1_ne {n : Nat} (h : n < 2 ^ 31) : ¬ nI n = -1 := by
  intro e
  have := congrArg Int32.toInt e
  rw [nI_toInt h] at this
  have e1 : (-1 : Int32).toInt = -1 := rfl
  omega
theorem least_loop {b : Nat} (hI : Inv w nb F A) (hb : b < 2 ^ 31) (hP : P (lpI (lp A b 6)) F A) : ∀ (d c : Nat) (x2 x3 : Int32), c + d = 6 → x3 = nI c → x2 = lpI (lp A b c) → ZM l mX7_leastPlace 2 w nb (qi P) 4 [(0, .ref 1), (1, .int (nI b)), (2, .int x2), (3, .int x3)] [] F A
  | 0, c, x2, x3, hd, hx, hy => by
    have : c = 6 := by omega
    subst this
    subst hx
    subst hy
    exact vX7_leastPlace_4 ⟨fun _ => ⟨_, rfl, hP⟩, fun h => absurd (Int32.le_refl _) h⟩
  | d + 1, c, x2, x3, hd, hx, hy => by
    subst hx
    have hc : c < 6 := by omega
    have hp := (hI.2.2.2.2.1 c hc).2.2.2.1
    have hl := lp_le hI.2.2.2.2.1 b c (by omega)
    refine vX7_leastPlace_4 ⟨fun h => absurd h (nI_ge (a := c) (b := 6) hc (by decide)), fun _ => ⟨vp_in_nI hc (by decide), ?_⟩⟩
    rw [nI_clamp (by omega)]
    refine s_placeOf hc hI.2.2.2.2.1 hI.2.2.2.2.2.2.2.2.1 hb ?_
    have next : ∀ x2, x2 = lpI (lp A b (c + 1)) → ZM l mX7_leastPlace 2 w nb (qi P) 42 [(0, .ref 1), (1, .int (nI b)), (2, .int x2), (3, .int (nI c))] [] F A := fun x2 e => vX7_leastPlace_42 (least_loop hI hb hP d (c + 1) _ _ (by omega) (by rw [nI_1]) e)
    cases hbt : bt (A 134 c) b
    · rw [pl_out hp hbt]
      refine ⟨fun _ => next _ ?_, fun h => absurd rfl h⟩
      rw [hy]
      conv => rhs; unfold lp
      rw [hbt, if_neg (by decide)]
    · have hq := (plq_ent hp).mpr hbt
      rw [pl_in hp hbt]
      refine ⟨fun h => absurd h (m1_ne (by omega)), fun _ => ?_⟩
      have e : lp A b (c + 1) = if lp A b c = 0 ∨ plq A c b + 1 < lp A b c then plq A c b + 1 else lp A b c := by
        conv => lhs; unfold lp
        rw [hbt, if_pos rfl]
      have up : (lp A b c = 0 ∨ plq A c b + 1 < lp A b c) → ZM l mX7_leastPlace 2 w nb (qi P) 39 [(0, .ref 1), (1, .int (nI b)), (3, .int (nI c)), (4, .int (nI (plq A c b + 1)))] [] F A := fun z => vX7_leastPlace_39 (next _ (by rw [e, if_pos z]; unfold lpI; rw [if_neg (by omega)]))
      rw [hy]
      by_cases z : lp A b c = 0
      · unfold lpI
        rw [if_pos z]
        exact ⟨fun _ => up (Or.inl z), fun h => absurd rfl h⟩
      · have el : lpI (lp A b c) = nI (lp A b c) := by unfold lpI; rw [if_neg z]
        rw [el]
        refine ⟨fun h => absurd h (m1_ne (by omega)), fun _ => ⟨fun h => next _ ?_, fun h => up (Or.inr ?_)⟩⟩
        · rw [e, if_neg (fun y => by rcases y with y | y; exact z y; exact nI_ge y (by omega) h), el]
        · rcases Nat.lt_or_ge (plq A c b + 1) (lp A b c) with y | y
          · exact y
          · exact absurd (nI_le y (by omega)) h
theorem teamX_b {s p : Nat} (hI : Inv w nb F A) (hs : s < 10) (hp1 : 1 ≤ p) (hp8 : p ≤ 8) : ∀ (d b : Nat) (x5 : Int32) (r : Nat × Nat), b + d = nb → x5 = nI b → r.1 ≤ 3 → ZM l mX7_team 3 w nb (qi P) 81 [(0, .ref 1), (1, .int (nI s)), (2, .int (nI (tb (tq5 A s p) p d b r).1)), (3, .int (nI (tb (tq5 A s p) p d b r).2)), (4, .int (nI p))] [] F A → ZM l mX7_team 3 w nb (qi P) 28 [(0, .ref 1), (1, .int (nI s)), (2, .int (nI r.1)), (3, .int (nI r.2)), (4, .int (nI p)), (5, .int x5)] [] F A
  | 0, b, x5, r, hd, hx, hr, kk => by
    subst hx
    refine vX7_team_28 ?_
    rw [hI.2.1.1]
    have : b = nb := by omega
    rw [this]
    exact ⟨fun _ => kk, fun h => absurd (Int32.le_refl _) h⟩
  | d + 1, b, x5, r, hd, hx, hr, kk => by
    subst hx
    obtain ⟨h1, h2, h3, h4, -⟩ := hI.2.1
    obtain ⟨br, ag, si, ha, hB⟩ := h4 b (by omega)
    refine vX7_team_28 ?_
    rw [h1]
    refine ⟨fun h => absurd h (nI_ge (a := b) (b := nb) (by omega) (by omega)), fun _ => ⟨fun h => ?_, fun h => ?_⟩⟩
    · have h3' : 3 ≤ r.1 := by
        rcases Nat.lt_or_ge r.1 3 with z | z
        · exact absurd h (nI_ge (b := 3) z (by decide))
        · exact z
      rw [tb_full h3'] at kk
      exact kk
    · have hr3 : r.1 < 3 := by
        rcases Nat.lt_or_ge r.1 3 with z | z
        · exact z
        · exact absurd (nI_le (a := 3) z (by omega)) h
      have no : tq5 A s p b = false → ZM l mX7_team 3 w nb (qi P) 75 [(0, .ref 1), (1, .int (nI s)), (2, .int (nI r.1)), (3, .int (nI r.2)), (4, .int (nI p)), (5, .int (nI b))] [] F A := fun z => by
        refine vX7_team_75 (teamX_b hI hs hp1 hp8 d (b + 1) _ r (by omega) (by rw [nI_1]) hr ?_)
        have e : tb (tq5 A s p) p (d + 1) b r = tb (tq5 A s p) p d (b + 1) r := by
          conv => lhs; unfold tb
          rw [if_neg (fun y => by rw [z] at y; exact absurd y.1 (by decide))]
        rw [e] at kk
        exact kk
      rw [nI_clamp (by omega), hB.2.2.2.2.2.2.2.2.1, ← hB.2.2.2.2.2.2.2.2.2.1]
      refine ⟨vp_in_nI (by omega) (by decide), by omega, fun h => no (by unfold tq5; simp [h]), fun h => kX7_leastPlace (least_loop hI (by omega) ?_ 6 0 (-1) 0 rfl rfl rfl)⟩
      have hl := lp_le hI.2.2.2.2.1 b 6 (by omega)
      have key : lpI (lp A b 6) = nI p ↔ lp A b 6 = p := by
        unfold lpI
        by_cases z : lp A b 6 = 0
        · rw [if_pos z, z]
          exact ⟨fun y => absurd y.symm (m1_ne (by omega)), fun y => by omega⟩
        · rw [if_neg z]
          exact nI_eq (by omega) (by omega)
      rw [key]
      refine ⟨fun z => no (by unfold tq5; simp [z]), fun z => ?_⟩
      have e : tb (tq5 A s p) p (d + 1) b r = tb (tq5 A s p) p d (b + 1) (r.1 + 1, r.2 + p) := by
        conv => lhs; unfold tb
        rw [if_pos ⟨by unfold tq5; simp [h, z], hr3⟩]
      rw [e] at kk
      rw [nI_1, nI_add]
      exact vX7_team_75 (teamX_b hI hs hp1 hp8 d (b + 1) _ (r.1 + 1, r.2 + p) (by omega) (by rw [nI_1]) hr3 kk)
theorem teamX_p {s : Nat} (hI : Inv w nb F A) (hs : s < 10) : ∀ (d p : Nat) (x4 : Int32) (r : Nat × Nat), p + d = 9 → 1 ≤ p → x4 = nI p → r.1 ≤ 3 → (P (if (tp (tq5 A s) nb d p r).1 = 3 then nI (tp (tq5 A s) nb d p r).2 else -1) F A) → ZM l mX7_team 3 w nb (qi P) 18 [(0, .ref 1), (1, .int (nI s)), (2, .int (nI r.1)), (3, .int (nI r.2)), (4, .int x4)] [] F A
  | 0, p, x4, r, hd, hp, hx, hr, kk => by
    subst hx
    have : p = 9 := by omega
    subst this
    have k3 : nI r.1 = 3 ↔ r.1 = 3 := nI_eq (b := 3) (by omega) (by omega)
    refine vX7_team_18 ⟨fun _ => ?_, fun h => absurd (by decide) h⟩
    rw [k3]
    have kk2 : P (if r.1 = 3 then nI r.2 else -1) F A := kk
    refine ⟨fun z => ⟨_, rfl, ?_⟩, fun z => ⟨_, rfl, ?_⟩⟩
    · rw [if_neg z] at kk2; exact kk2
    · rw [if_pos z] at kk2; exact kk2
  | d + 1, p, x4, r, hd, hp, hx, hr, kk => by
    subst hx
    refine vX7_team_18 ⟨fun h => ?_, fun _ => ?_⟩
    · have := i_lt.mp h
      rw [nI_toInt (by omega)] at this
      have e8 : (8 : Int32).toInt = 8 := rfl
      omega
    · refine teamX_b hI hs hp (by omega) nb 0 0 r (by omega) rfl hr (vX7_team_81 ?_)
      exact teamX_p hI hs d (p + 1) _ _ (by omega) (by omega) (by rw [nI_1]) (tbl3 _ _ _ hr) kk
/-! M's ranks -/
def lpk (A : MI) (c k b : Nat) : Nat := if bt (A 134 c) b = true ∧ plq A c b < k then (if lp A b c = 0 ∨ plq A c b + 1 < lp A b c then plq A c b + 1 else lp A b c) else lp A b c
theorem lpk_all {c : Nat} (hp : pcn (A 134 c) ≤ 8) (b : Nat) : lpk A c (pcn (A 134 c)) b = lp A b (c + 1) := by
  unfold lpk
  conv => rhs; unfold lp
  by_cases z : bt (A 134 c) b = true
  · rw [if_pos ⟨z, (plq_ent hp).mpr z⟩, if_pos z]
  · rw [if_neg (fun y => z y.1), if_neg z]
def RJ (F0 A0 F A : MI) : Prop := (∀ f a, ¬ (f = 345 ∧ a = 122) → F f a = F0 f a) ∧ ∀ a j, ¬ ((140 ≤ a ∧ a ≤ 143) ∨ a = 146) → A a j = A0 a j
theorem RJ.inv (h : RJ F0 A0 F A) (hw : TW w) (hI : Inv w nb F0 A0) : Inv w nb F A := hI.frame hw.1 (fun f a q => h.1 f a (fun e => q (by unfold scF; omega))) (fun a j q => h.2 a j (fun e => q (by unfold scA; omega)))
theorem ranks_k {c : Nat} {Q : MI → MI → Prop} (hI0 : Inv w nb F0 A0) (hc : c < 6) (kk : ∀ F A, RJ F0 A0 F A → (∀ b, b < 20 → A 146 b = nI (lp A0 b (c + 1))) → ZM l mX8_ranks 4 w nb (qv Q) 23 [(0, .ref 122), (1, .int (nI (c + 1)))] [] F A) : ∀ (d k : Nat) (x2 : Int32) (F A : MI), k + d = pcn (A0 134 c) → x2 = nI k → RJ F0 A0 F A → F 345 122 = nI (pcn (A0 134 c)) → (∀ k, k < pcn (A0 134 c) → A 143 k = nI (rowM A0 c k)) → (∀ b, b < 20 → A 146 b = nI (lpk A0 c k b)) → ZM l mX8_ranks 4 w nb (qv Q) 36 [(0, .ref 122), (1, .int (nI c)), (2, .int x2)] [] F A
  | 0, k, x2, F, A, hd, hx, hJ, hF, hR, hL => by
    subst hx
    have hp := (hI0.2.2.2.2.1 c hc).2.2.2.1
    have : k = pcn (A0 134 c) := by omega
    rw [this] at hL
    refine vX8_ranks_36 ?_
    rw [hF, this, nI_1]
    exact ⟨fun _ => kk F A hJ (fun b hb => by rw [hL b hb, lpk_all hp]), fun h => absurd (Int32.le_refl _) h⟩
  | d + 1, k, x2, F, A, hd, hx, hJ, hF, hR, hL => by
    subst hx
    have hp := (hI0.2.2.2.2.1 c hc).2.2.2.1
    have hk : k < pcn (A0 134 c) := by omega
    have hm := row_mem hp hk
    have hr20 : rowM A0 c k < 20 := by have := (hI0.2.2.2.2.1 c hc).2.2.2.2.1 _ hm; have := hI0.2.1.2.2.1; omega
    have hq := plq_row hp hk
    have hll := lp_le hI0.2.2.2.2.1 (rowM A0 c k) c (by omega)
    generalize hrr : rowM A0 c k = r at hm hr20 hq hll
    have hv := vp_in_nI hr20 (N := 20) (by decide)
    have hvk := vp_in_nI (n := k) (N := 8) (by omega) (by decide)
    have e0 : lpk A0 c k r = lp A0 r c := by unfold lpk; rw [if_neg (by rw [hq]; omega)]
    have e1 : lpk A0 c (k + 1) r = if lp A0 r c = 0 ∨ k + 1 < lp A0 r c then k + 1 else lp A0 r c := by unfold lpk; rw [if_pos ⟨hm, by omega⟩, hq]
    have e2 : ∀ b, b ≠ r → lpk A0 c (k + 1) b = lpk A0 c k b := fun b hb => by
      unfold lpk
      by_cases z : bt (A0 134 c) b = true
      · have : plq A0 c b ≠ k := fun y => by
          have h1 := plq_yes (A := A0) (c := c) (b := b) ((plq_ent hp).mpr z)
          rw [y, hrr] at h1
          exact hb h1.symm
        by_cases y : plq A0 c b < k
        · have h1 : bt (A0 134 c) b = true ∧ plq A0 c b < k + 1 := ⟨z, by omega⟩
          have h2 : bt (A0 134 c) b = true ∧ plq A0 c b < k := ⟨z, y⟩
          simp only [if_pos h1, if_pos h2]
        · have h1 : ¬ (bt (A0 134 c) b = true ∧ plq A0 c b < k + 1) := by omega
          have h2 : ¬ (bt (A0 134 c) b = true ∧ plq A0 c b < k) := by omega
          rw [if_neg h1, if_neg h2]
      · rw [if_neg (fun y => z y.1), if_neg (fun y => z y.1)]
    have next : ∀ A', RJ F0 A0 F A' → (∀ k, k < pcn (A0 134 c) → A' 143 k = nI (rowM A0 c k)) → (∀ b, b < 20 → A' 146 b = nI (lpk A0 c (k + 1) b)) → ZM l mX8_ranks 4 w nb (qv Q) 89 [(0, .ref 122), (1, .int (nI c)), (2, .int (nI k))] [] F A' := fun A' j1 j2 j3 => vX8_ranks_89 (ranks_k hI0 hc kk d (k + 1) _ F A' (by omega) (by rw [nI_1]) j1 hF j2 j3)
    have put : (lp A0 r c = 0 ∨ k + 1 < lp A0 r c) → ZM l mX8_ranks 4 w nb (qv Q) 75 [(0, .ref 122), (1, .int (nI c)), (2, .int (nI k))] [] F A := fun z => by
      refine vX8_ranks_75 ?_
      rw [nI_clamp (by omega), hR k hk, hrr, nI_clamp (by omega), nI_1]
      refine ⟨hvk, hv, next _ ⟨hJ.1, fun a j q => (u2_n1 (by omega)).trans (hJ.2 a j q)⟩ (fun k hk => (u2_n1 (by decide)).trans (hR k hk)) (fun b hb => ?_)⟩
      by_cases y : b = r
      · rw [y, u2_s, e1, if_pos z]
      · rw [u2_n2 y, e2 b y]; exact hL b hb
    refine vX8_ranks_36 ?_
    rw [hF, nI_clamp (by omega), hR k hk, hrr, nI_clamp (by omega), hL r hr20, e0, nI_1]
    refine ⟨fun h => absurd h (nI_ge (a := k) (by omega) (by omega)), fun _ => ⟨hvk, hv, fun h => put (Or.inl ((nI_eq (b := 0) (by omega) (by omega)).mp h)), fun h => ⟨hvk, hv, fun h2 => next A hJ hR (fun b hb => ?_), fun h2 => put (Or.inr ?_)⟩⟩⟩
    · by_cases y : b = r
      · rw [y, e1, if_neg, ← e0, hL r hr20]
        rintro (z | z)
        · rw [z] at h; exact h rfl
        · rw [nI_1] at h2; exact nI_ge z (by omega) h2
      · rw [e2 b y]; exact hL b hb
    · rcases Nat.lt_or_ge (k + 1) (lp A0 r c) with y | y
      · exact y
      · rw [nI_1] at h2; exact absurd (nI_le y (by omega)) h2
theorem lp_cong (a0 : ∀ j, A 134 j = A0 134 j) (a2 : ∀ j, A 137 j = A0 137 j) (a3 : ∀ j, A 138 j = A0 138 j) (b : Nat) : ∀ c, lp A b c = lp A0 b c
  | 0 => rfl
  | c + 1 => by
    have e1 : (fun k => rowM A c k == b) = (fun k => rowM A0 c k == b) := funext fun k => by rw [rowM_cong a0 a2 a3]
    have e2 : plq A c b = plq A0 c b := by
      unfold plq
      rw [e1, a0]
    unfold lp
    rw [lp_cong a0 a2 a3 b c, e2, a0]
theorem ranks_c {Q : MI → MI → Prop} (hw : TW w) (hI0 : Inv w nb F0 A0) (kk : ∀ F A, RJ F0 A0 F A → (∀ b, b < 20 → A 146 b = nI (lp A0 b 6)) → Q F A) : ∀ (d c : Nat) (x1 : Int32) (F A : MI), c + d = 6 → x1 = nI c → RJ F0 A0 F A → (∀ b, b < 20 → A 146 b = nI (lp A0 b c)) → ZM l mX8_ranks 4 w nb (qv Q) 23 [(0, .ref 122), (1, .int x1)] [] F A
  | 0, c, x1, F, A, hd, hx, hJ, hL => by
    subst hx
    have : c = 6 := by omega
    subst this
    exact vX8_ranks_23 ⟨fun _ => ⟨rfl, kk F A hJ hL⟩, fun h => absurd (Int32.le_refl _) h⟩
  | d + 1, c, x1, F, A, hd, hx, hJ, hL => by
    subst hx
    have hc : c < 6 := by omega
    have hI1 := hJ.inv hw hI0
    have e134 : A 134 c = A0 134 c := hJ.2 _ _ (by omega)
    have a0 : ∀ j, A 134 j = A0 134 j := fun j => hJ.2 _ _ (by omega)
    have a2 : ∀ j, A 137 j = A0 137 j := fun j => hJ.2 _ _ (by omega)
    have a3 : ∀ j, A 138 j = A0 138 j := fun j => hJ.2 _ _ (by omega)
    refine vX8_ranks_23 ⟨fun h => absurd h (nI_ge (a := c) (b := 6) hc (by decide)), fun _ => s_joins hI1 hc (fun F1 A1 hJ1 j1 j2 j3 j4 j5 => ?_)⟩
    rw [e134] at j1 j5
    refine ranks_k (F0 := F0) (A0 := A0) hI0 hc (fun F2 A2 k1 k2 => ranks_c hw hI0 kk d (c + 1) _ F2 A2 (by omega) rfl k1 k2) (pcn (A0 134 c)) 0 0 F1 A1 (by omega) rfl ⟨fun f a q => (hJ1.1 f a q).trans (hJ.1 f a q), fun a j q => (hJ1.2 a j (by omega)).trans (hJ.2 a j q)⟩ j1 (fun k hk => by rw [j5 k hk, rowM_cong a0 a2 a3]) (fun b hb => ?_)
    rw [hJ1.2 _ _ (by omega), hL b hb]
    unfold lpk
    rw [if_neg (by omega)]
theorem ranks_0 {Q : MI → MI → Prop} (kk : ∀ A, RJ F0 A0 F0 A → (∀ b, b < 20 → A 146 b = 0) → ZM l mX8_ranks 4 w nb (qv Q) 23 [(0, .ref 122), (1, .int 0)] [] F0 A) : ∀ (d b : Nat) (x1 : Int32) (A : MI), b + d = 20 → x1 = nI b → RJ F0 A0 F0 A → (∀ b', b' < b → A 146 b' = 0) → ZM l mX8_ranks 4 w nb (qv Q) 2 [(0, .ref 122), (1, .int x1)] [] F0 A
  | 0, b, x1, A, hd, hx, hJ, hL => by
    subst hx
    have : b = 20 := by omega
    subst this
    exact vX8_ranks_2 ⟨fun _ => kk A hJ hL, fun h => absurd (Int32.le_refl _) h⟩
  | d + 1, b, x1, A, hd, hx, hJ, hL => by
    subst hx
    refine vX8_ranks_2 ⟨fun h => absurd h (nI_ge (a := b) (b := 20) (by omega) (by decide)), fun _ => ⟨vp_in_nI (by omega) (by decide), ?_⟩⟩
    rw [nI_clamp (by omega)]
    refine ranks_0 kk d (b + 1) _ _ (by omega) (by rw [nI_1]) ⟨hJ.1, fun a j q => (u2_n1 (by omega)).trans (hJ.2 a j q)⟩ (fun b' hb' => ?_)
    by_cases y : b' = b
    · rw [y, u2_s]
    · rw [u2_n2 y]; exact hL b' (by omega)
theorem s_ranks {Q : MI → MI → Prop} (hw : TW w) (hI0 : Inv w nb F0 A0) (kk : ∀ F A, RJ F0 A0 F A → (∀ b, b < 20 → A 146 b = nI (lp A0 b 6)) → Q F A) : CM l mX8_ranks 4 w nb [.ref 122] F0 A0 (qv Q) :=
  kX8_ranks (ranks_0 (A0 := A0) (fun A hJ hL => ranks_c hw hI0 kk 6 0 0 F0 A rfl rfl hJ hL) 20 0 0 A0 rfl rfl ⟨fun _ _ _ => rfl, fun _ _ _ => rfl⟩ (fun b hb => absurd hb (Nat.not_lt_zero b)))
theorem teamM_b {s p : Nat} (hn : F 322 122 = nI nb) (hnb : nb ≤ 20) (hs : s < 10) (hp1 : 1 ≤ p) (hp8 : p ≤ 8) (h126 : ∀ b, A 126 b = A0 126 b) (hl : ∀ b, lp A0 b 6 ≤ 8) (hL : ∀ b, b < 20 → A 146 b = nI (lp A0 b 6)) : ∀ (d b : Nat) (x5 : Int32) (r : Nat × Nat), b + d = nb → x5 = nI b → r.1 ≤ 3 → ZM l mX8_team 5 w nb (qi P) 23 [(0, .ref 122), (1, .int (nI s)), (2, .int (nI (tb (tq5 A0 s p) p d b r).1)), (3, .int (nI (tb (tq5 A0 s p) p d b r).2)), (4, .int (nI (p + 1)))] [] F A → ZM l mX8_team 5 w nb (qi P) 33 [(0, .ref 122), (1, .int (nI s)), (2, .int (nI r.1)), (3, .int (nI r.2)), (4, .int (nI p)), (5, .int x5)] [] F A
  | 0, b, x5, r, hd, hx, hr, kk => by
    subst hx
    refine vX8_team_33 ?_
    have : b = nb := by omega
    rw [hn, this, nI_1]
    exact ⟨fun _ => kk, fun h => absurd (Int32.le_refl _) h⟩
  | d + 1, b, x5, r, hd, hx, hr, kk => by
    subst hx
    refine vX8_team_33 ?_
    have no : ¬ (tq5 A0 s p b = true ∧ r.1 < 3) → ZM l mX8_team 5 w nb (qi P) 81 [(0, .ref 122), (1, .int (nI s)), (2, .int (nI r.1)), (3, .int (nI r.2)), (4, .int (nI p)), (5, .int (nI b))] [] F A := fun z => by
      refine vX8_team_81 (teamM_b hn hnb hs hp1 hp8 h126 hl hL d (b + 1) _ r (by omega) (by rw [nI_1]) hr ?_)
      have e : tb (tq5 A0 s p) p (d + 1) b r = tb (tq5 A0 s p) p d (b + 1) r := by
        conv => lhs; unfold tb
        rw [if_neg z]
      rw [e] at kk
      exact kk
    have hv := vp_in_nI (n := b) (N := 20) (by omega) (by decide)
    have kp : nI (lp A0 b 6) = nI p ↔ lp A0 b 6 = p := nI_eq (by have := hl b; omega) (by omega)
    have k3 : nI r.1 = 3 ↔ r.1 = 3 := nI_eq (b := 3) (by omega) (by omega)
    rw [hn, nI_clamp (by omega), h126, hL b (by omega), kp, k3]
    refine ⟨fun h => absurd h (nI_ge (a := b) (b := nb) (by omega) (by omega)), fun _ => ⟨hv, fun h => no (by unfold tq5; simp [h]), fun h => ⟨hv, fun h2 => no (by unfold tq5; simp [h2]), fun h2 => ⟨fun h3 => ?_, fun h3 => no (by omega)⟩⟩⟩⟩
    have e : tb (tq5 A0 s p) p (d + 1) b r = tb (tq5 A0 s p) p d (b + 1) (r.1 + 1, r.2 + p) := by
      conv => lhs; unfold tb
      rw [if_pos ⟨by unfold tq5; simp [h, h2], by omega⟩]
    rw [e] at kk
    rw [nI_1, nI_add]
    exact vX8_team_81 (teamM_b hn hnb hs hp1 hp8 h126 hl hL d (b + 1) _ (r.1 + 1, r.2 + p) (by omega) (by rw [nI_1]) (show r.1 + 1 ≤ 3 by omega) kk)
theorem teamM_p {s : Nat} (hn : F 322 122 = nI nb) (hnb : nb ≤ 20) (hs : s < 10) (h126 : ∀ b, A 126 b = A0 126 b) (hl : ∀ b, lp A0 b 6 ≤ 8) (hL : ∀ b, b < 20 → A 146 b = nI (lp A0 b 6)) : ∀ (d p : Nat) (x4 : Int32) (r : Nat × Nat), p + d = 9 → 1 ≤ p → x4 = nI p → r.1 ≤ 3 → (P (if (tp (tq5 A0 s) nb d p r).1 = 3 then nI (tp (tq5 A0 s) nb d p r).2 else -1) F A) → ZM l mX8_team 5 w nb (qi P) 23 [(0, .ref 122), (1, .int (nI s)), (2, .int (nI r.1)), (3, .int (nI r.2)), (4, .int x4)] [] F A
  | 0, p, x4, r, hd, hp, hx, hr, kk => by
    subst hx
    have : p = 9 := by omega
    subst this
    refine vX8_team_23 ⟨fun _ => ?_, fun h => absurd (by decide) h⟩
    have kk2 : P (if r.1 = 3 then nI r.2 else -1) F A := kk
    refine ⟨fun z => ⟨_, rfl, ?_⟩, fun z => ⟨_, rfl, ?_⟩⟩
    · have : r.1 = 3 := by
        rcases Nat.lt_or_ge r.1 3 with y | y
        · exact absurd z (nI_ge (b := 3) y (by decide))
        · omega
      rw [if_pos this] at kk2; exact kk2
    · rw [if_neg (fun y => z (by rw [y]; decide))] at kk2; exact kk2
  | d + 1, p, x4, r, hd, hp, hx, hr, kk => by
    subst hx
    refine vX8_team_23 ⟨fun h => ?_, fun _ => ?_⟩
    · have := i_lt.mp h
      rw [nI_toInt (by omega)] at this
      have e8 : (8 : Int32).toInt = 8 := rfl
      omega
    · refine teamM_b hn hnb hs hp (by omega) h126 hl hL nb 0 0 r (by omega) rfl hr ?_
      exact teamM_p hn hnb hs h126 hl hL d (p + 1) _ _ (by omega) (by omega) rfl (tbl3 _ _ _ hr) kk
theorem op_team {x1 : Int32} (hw : TW w) (hI : Inv w nb F A) : CM l mX7_team 3 w nb [.ref 1, .int x1] F A (qi fun r F A => CM l mX8_team 5 w nb [.ref 122, .int x1] F A (qi fun r' F A => r = r' ∧ Inv w nb F A)) := by
  obtain ⟨hn1, hn2, hn3, -⟩ := hI.2.1
  refine kX7_team (s_below (n := 10) rfl (by decide) (fun s hs e => n1 ?_) (fun h => n0 ⟨-1, rfl, kX8_team (s_lies (a := 0) (b := 9) rfl rfl (by decide) (by decide) (fun j _ hj e1 => absurd ⟨j, by omega, e1⟩ h) (fun _ => n0 ⟨-1, rfl, rfl, hI⟩))⟩))
  subst e
  refine teamX_p hI hs 8 1 1 (0, 0) rfl (by decide) rfl (by decide) ?_
  refine kX8_team (s_lies (a := 0) (b := 9) rfl rfl (by decide) (by decide) (fun j _ hj e1 => n1 ?_) (fun h => absurd ⟨s, by omega, by omega, rfl⟩ h))
  refine s_ranks hw hI (fun F1 A1 hJ hL => ?_)
  exact teamM_p (A0 := A) ((hJ.1 _ _ (by omega)).trans hn2) hn3 hs (fun b => hJ.2 _ _ (by omega)) (fun b => lp_le hI.2.2.2.2.1 b 6 (by decide)) hL 8 1 1 (0, 0) rfl (by decide) rfl (by decide) ⟨rfl, hJ.inv hw hI⟩
end TEAM
