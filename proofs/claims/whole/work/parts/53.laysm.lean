section LAYSM
variable {l : Launch} {w : Nat → Nat} {nb : Nat} {F A F0 A0 : MI} {V : MI → MI → Prop} {P : Int32 → MI → MI → Prop} {on : Nat → Bool} {H : Nat → Int32} {s last : Nat}
/-- M's words of the search -/
def MH (A0 : MI) (H : Nat → Int32) (h : Nat → Nat) (A : MI) : Prop := (∀ a j, ¬ (144 ≤ a ∧ a ≤ 145) → A a j = A0 a j) ∧ (∀ c, c < 6 → A 144 c = H c) ∧ ∀ c, c < 6 → A 145 c = nI (h c)
theorem MH.cong {h g : Nat → Nat} (m : MH A0 H h A) (e : ∀ k, k < 6 → g k = h k) : MH A0 H g A := ⟨m.1, m.2.1, fun c hc => by rw [e c hc]; exact m.2.2 c hc⟩
theorem MH.put {h : Nat → Nat} (m : MH A0 H h A) (c v : Nat) : MH A0 H (up1 h c v) (u2 A 145 c (nI v)) := by
  refine ⟨fun a j q => (u2_n1 (by omega)).trans (m.1 a j q), fun d hd => (u2_n1 (by decide)).trans (m.2.1 d hd), fun d hd => ?_⟩
  by_cases z : d = c
  · rw [z, u2_s, up1_s]
  · rw [u2_n2 z, up1_n z]; exact m.2.2 d hd
def gpart (on : Nat → Bool) (H : Nat → Int32) (s : Nat) (h : Nat → Nat) (c : Nat) : Prop := on c = true → (∀ d, d < 6 → on d = true → h d = h c → d ≠ c → H c &&& H d = 0) ∧ cnth on h (h c) 6 ≤ s
theorem good_part {h : Nat → Nat} : goodB on H s h = true ↔ ∀ c, c < 6 → gpart on H s h c := good_iff
theorem isGood_d {h : Nat → Nat} {c : Nat} (hc : c < 6) (hs : s ≤ 3) (oc : on c = true) (ho : ∀ c, c < 6 → (on c = true ↔ A 134 c ≠ 0)) (hF : F 323 122 = nI s) (hM : MH A0 H h A) (hb : ∀ c, c < 6 → h c < 100) (k1 : gpart on H s h c → ZM l mX8_isGood 1 w nb (qi P) 99 [(0, .ref 122), (1, .int (nI c))] [] F A) (k0 : ¬ gpart on H s h c → P 0 F A) : ∀ (e d : Nat) (x2 x3 : Int32), d + e = 6 → x3 = nI d → x2 = nI (cnth on h (h c) d) → (∀ k, k < d → on k = true → h k = h c → k ≠ c → H c &&& H k = 0) → ZM l mX8_isGood 1 w nb (qi P) 24 [(0, .ref 122), (1, .int (nI c)), (2, .int x2), (3, .int x3)] [] F A
  | 0, d, x2, x3, he, hx, hy, hk => by
    have : d = 6 := by omega
    subst this
    subst hx
    subst hy
    have hle := fb_ct_le (fun d => on d && (h d == h c)) 6
    refine vX8_isGood_24 ⟨fun _ => ?_, fun q => absurd (Int32.le_refl _) q⟩
    rw [hF]
    refine ⟨fun q => k1 (fun _ => ⟨fun d hd od ed ne => hk d hd od ed ne, ?_⟩), fun q => ⟨0, rfl, k0 (fun g => ?_)⟩⟩
    · rcases Nat.lt_or_ge s (cnth on h (h c) 6) with z | z
      · exact absurd q (nI_ge z (by unfold cnth; omega))
      · exact z
    · exact q (nI_le (g oc).2 (by omega))
  | e + 1, d, x2, x3, he, hx, hy, hk => by
    subst hx
    subst hy
    have hd : d < 6 := by omega
    have hv := vp_in_nI hd (N := 6) (by decide)
    have hvc := vp_in_nI hc (N := 6) (by decide)
    have skip : ¬ (on d = true ∧ h d = h c) → ZM l mX8_isGood 1 w nb (qi P) 83 [(0, .ref 122), (1, .int (nI c)), (2, .int (nI (cnth on h (h c) d))), (3, .int (nI d))] [] F A := fun z => by
      refine vX8_isGood_83 (isGood_d hc hs oc ho hF hM hb k1 k0 e (d + 1) _ _ (by omega) (by rw [nI_1]) (by rw [cnth_succ, if_neg z, Nat.add_zero]) (fun k hk1 ok ek nk => ?_))
      rcases Nat.lt_or_ge k d with y | y
      · exact hk k y ok ek nk
      · rw [show k = d by omega] at ok ek; exact absurd ⟨ok, ek⟩ z
    have take : on d = true → h d = h c → (d ≠ c → H c &&& H d = 0) → ZM l mX8_isGood 1 w nb (qi P) 80 [(0, .ref 122), (1, .int (nI c)), (2, .int (nI (cnth on h (h c) d))), (3, .int (nI d))] [] F A := fun z1 z2 z3 => by
      refine vX8_isGood_80 (vX8_isGood_83 (isGood_d hc hs oc ho hF hM hb k1 k0 e (d + 1) _ _ (by omega) (by rw [nI_1]) (by rw [cnth_succ, if_pos ⟨z1, z2⟩, nI_1]) (fun k hk1 ok ek nk => ?_)))
      rcases Nat.lt_or_ge k d with y | y
      · exact hk k y ok ek nk
      · rw [show k = d by omega] at nk ⊢; exact z3 nk
    refine vX8_isGood_24 ⟨fun q => absurd q (nI_ge (a := d) (b := 6) hd (by decide)), fun _ => ⟨hv, ?_⟩⟩
    rw [nI_clamp (by omega), nI_clamp (by omega), hM.2.2 d hd, hM.2.2 c hc, hM.2.1 d hd, hM.2.1 c hc, nI_eq (by have := hb d hd; omega) (by have := hb c hc; omega), nI_eq (by omega) (by omega)]
    refine ⟨fun q => skip (fun z => (ho d hd).mp z.1 q), fun q => ⟨hv, hvc, fun q2 => ⟨fun q3 => take ((ho d hd).mpr q) q2 (fun y => absurd q3 y), fun q3 => ⟨hvc, hv, fun q4 => take ((ho d hd).mpr q) q2 (fun _ => q4), fun q4 => ⟨0, rfl, k0 (fun g => ?_)⟩⟩⟩, fun q2 => skip (fun z => q2 z.2)⟩⟩
    exact q4 ((g oc).1 d hd ((ho d hd).mpr q) q2 q3)
theorem isGood_c {h : Nat → Nat} (hs : s ≤ 3) (ho : ∀ c, c < 6 → (on c = true ↔ A 134 c ≠ 0)) (hF : F 323 122 = nI s) (hM : MH A0 H h A) (hb : ∀ c, c < 6 → h c < 100) (k1 : goodB on H s h = true → P 1 F A) (k0 : goodB on H s h = false → P 0 F A) : ∀ (e c : Nat) (x1 : Int32), c + e = 6 → x1 = nI c → (∀ k, k < c → gpart on H s h k) → ZM l mX8_isGood 1 w nb (qi P) 2 [(0, .ref 122), (1, .int x1)] [] F A
  | 0, c, x1, he, hx, hk => by
    have : c = 6 := by omega
    subst this
    subst hx
    exact vX8_isGood_2 ⟨fun _ => ⟨1, rfl, k1 (good_part.mpr hk)⟩, fun q => absurd (Int32.le_refl _) q⟩
  | e + 1, c, x1, he, hx, hk => by
    subst hx
    have hc : c < 6 := by omega
    have next : gpart on H s h c → ZM l mX8_isGood 1 w nb (qi P) 99 [(0, .ref 122), (1, .int (nI c))] [] F A := fun g => by
      refine vX8_isGood_99 (isGood_c hs ho hF hM hb k1 k0 e (c + 1) _ (by omega) (by rw [nI_1]) (fun k hk1 => ?_))
      rcases Nat.lt_or_ge k c with y | y
      · exact hk k y
      · rw [show k = c by omega]; exact g
    refine vX8_isGood_2 ⟨fun q => absurd q (nI_ge (a := c) (b := 6) hc (by decide)), fun _ => ⟨vp_in_nI hc (by decide), ?_⟩⟩
    rw [nI_clamp (by omega)]
    refine ⟨fun q => ?_, fun q => next (fun o => absurd q ((ho c hc).mp o))⟩
    refine isGood_d hc hs ((ho c hc).mpr q) ho hF hM hb next (fun g => k0 ?_) 6 0 0 0 rfl rfl rfl (fun k hk1 => absurd hk1 (Nat.not_lt_zero k))
    cases z : goodB on H s h
    · rfl
    · exact absurd (good_part.mp z c hc) g
theorem s_isGood {h : Nat → Nat} (hs : s ≤ 3) (ho : ∀ c, c < 6 → (on c = true ↔ A 134 c ≠ 0)) (hF : F 323 122 = nI s) (hM : MH A0 H h A) (hb : ∀ c, c < 6 → h c < 100) (k1 : goodB on H s h = true → P 1 F A) (k0 : goodB on H s h = false → P 0 F A) : CM l mX8_isGood 1 w nb [.ref 122] F A (qi P) :=
  kX8_isGood (isGood_c hs ho hF hM hb k1 k0 6 0 0 rfl rfl (fun k hk => absurd hk (Nat.not_lt_zero k)))
/-- those from c up to m at their last -/
def hmm (on : Nat → Bool) (last c m : Nat) (h : Nat → Nat) : Nat → Nat := fun k => if c ≤ k ∧ k < m ∧ on k = true then last else h k
theorem next_down {c : Nat} {h : Nat → Nat} (hl : last < 6) (ho : ∀ c, c < 6 → (on c = true ↔ A0 134 c ≠ 0)) (hz : ∀ k, c ≤ k → h k = 0) (kk : ∀ A, MH A0 H h A → ZM l mX8_isNext 1 w nb (qi P) 2 [(0, .ref 122), (1, .int (nI last)), (2, .int (nI c + (-1)))] [] F A) : ∀ (e m : Nat) (x2 : Int32) (A : MI), m = c + e → m ≤ 6 → x2 = nI m + (-1) → MH A0 H (hmm on last c m h) A → ZM l mX8_isNext 1 w nb (qi P) 2 [(0, .ref 122), (1, .int (nI last)), (2, .int x2)] [] F A
  | 0, m, x2, A, he, hm, hx, hM => by
    have : m = c := by omega
    subst this
    subst hx
    refine kk A (hM.cong (fun k hk => ?_))
    unfold hmm
    rw [if_neg (by omega)]
  | e + 1, m, x2, A, he, hm, hx, hM => by
    obtain ⟨j, rfl⟩ : ∃ j, m = j + 1 := ⟨c + e, by omega⟩
    have ej : nI (j + 1) + (-1) = nI j := by
      have : nI (j + 1) + (-1) = nI (j + 1) - 1 := by rw [Int32.sub_eq_add_neg]
      rw [this]; exact nI_p j
    rw [ej] at hx
    subst hx
    have hj : j < 6 := by omega
    have hv := vp_in_nI hj (N := 6) (by decide)
    refine vX8_isNext_2 ⟨fun q => absurd q (nI_pos (by omega)), fun _ => ⟨hv, ?_⟩⟩
    rw [nI_clamp (by omega), hM.1 134 j (by omega), hM.2.2 j hj]
    have down : ∀ A', MH A0 H (hmm on last c j h) A' → ZM l mX8_isNext 1 w nb (qi P) 47 [(0, .ref 122), (1, .int (nI last)), (2, .int (nI j))] [] F A' := fun A' q => vX8_isNext_47 (next_down hl ho hz kk e j _ A' (by omega) (by omega) rfl q)
    refine ⟨fun q => ?_, fun q => down A (hM.cong (fun k hk => ?_))⟩
    · have oj := (ho j hj).mpr q
      have e1 : hmm on last c (j + 1) h j = last := by unfold hmm; rw [if_pos ⟨by omega, by omega, oj⟩]
      rw [e1, nI_1]
      refine ⟨hv, hv, hv, fun _ => ⟨hv, down _ ?_⟩, fun z => absurd (nI_lt (by omega) (by omega)) z⟩
      have := (hM.put j (last + 1)).put j 0
      refine this.cong (fun k hk => ?_)
      by_cases z : k = j
      · rw [z, up1_s]
        unfold hmm
        rw [if_neg (by omega)]
        exact hz j (by omega)
      · rw [up1_n z, up1_n z]
        unfold hmm
        by_cases y : c ≤ k ∧ k < j ∧ on k = true
        · rw [if_pos y, if_pos ⟨y.1, by omega, y.2.2⟩]
        · rw [if_neg y, if_neg (fun u => y ⟨u.1, by omega, u.2.2⟩)]
    · unfold hmm
      by_cases y : c ≤ k ∧ k < j ∧ on k = true
      · rw [if_pos y, if_pos ⟨y.1, by omega, y.2.2⟩]
      · rw [if_neg y, if_neg (fun u => ?_)]
        by_cases z : k = j
        · rw [z] at u; exact (ho j hj).mp u.2.2 q
        · exact y ⟨u.1, by omega, u.2.2⟩
def at123 (l : Launch) (w : Nat → Nat) (nb : Nat) (P : Int32 → MI → MI → Prop) (last : Nat) (x3 : Int32) (F A : MI) : Prop := ZM l mX8_lays 2 w nb (qi P) 123 [(0, .ref 122), (1, .int 1), (2, .int (nI last)), (3, .int x3)] [] F A
def nextM (l : Launch) (w : Nat → Nat) (nb : Nat) (P : Int32 → MI → MI → Prop) (last : Nat) (F A : MI) : Prop := CM l mX8_isNext 1 w nb [.ref 122, .int (nI last)] F A (qi fun r2 F2 A2 => at123 l w nb P last r2 F2 A2)
theorem scan_v {d c : Nat} {h : Nat → Nat} (hl : last < 6) (ho : ∀ c, c < 6 → (on c = true ↔ A0 134 c ≠ 0)) (hd : c + (d + 1) = 6) (oc : on c = true) (hz : ∀ k, c ≤ k → h k = 0) (hb : ∀ k, h k ≤ last)
    (ih : ∀ (h : Nat → Nat) (A : MI), MH A0 H h A → (∀ k, c + 1 ≤ k → h k = 0) → (∀ k, h k ≤ last) → (∀ A' g, srch on H s last d (c + 1) h = some g → MH A0 H g A' → P (nI last) F A') → (srch on H s last d (c + 1) h = none → ∀ A', MH A0 H (hmm on last (c + 1) 6 h) A' → nextM l w nb P last F A') → at123 l w nb P last 1 F A)
    (kf : ∀ A' g, srch on H s last (d + 1) c h = some g → MH A0 H g A' → P (nI last) F A') (kn : srch on H s last (d + 1) c h = none → ∀ A', MH A0 H (hmm on last c 6 h) A' → nextM l w nb P last F A') : ∀ (k v : Nat) (A : MI), v + (k + 1) = last + 1 → MH A0 H (up1 h c v) A → srch on H s last (d + 1) c h = fsto (fun v => srch on H s last d (c + 1) (up1 h c v)) (k + 1) v → at123 l w nb P last 1 F A
  | 0, v, A, hk, hM, e => by
    have hvl : v = last := by omega
    refine ih (up1 h c v) A hM (fun k hk1 => by rw [up1_n (by omega)]; exact hz k (by omega)) (fun k => ?_) (fun A' g eg q => kf A' g ?_ q) (fun eg A' q => kn ?_ A' (q.cong (fun k hk1 => ?_)))
    · by_cases z : k = c
      · rw [z, up1_s]; omega
      · rw [up1_n z]; exact hb k
    · rw [e]; unfold fsto; rw [eg]
    · rw [e]; unfold fsto; rw [eg]; rfl
    · unfold hmm
      by_cases z : k = c
      · rw [z, if_pos ⟨Nat.le_refl c, by omega, oc⟩, if_neg (by omega), up1_s, hvl]
      · rw [up1_n z]
        by_cases y : c ≤ k ∧ k < 6 ∧ on k = true
        · rw [if_pos y, if_pos ⟨by omega, y.2.1, y.2.2⟩]
        · rw [if_neg y, if_neg (fun u => y ⟨by omega, u.2.1, u.2.2⟩)]
  | k + 1, v, A, hk, hM, e => by
    refine ih (up1 h c v) A hM (fun k hk1 => by rw [up1_n (by omega)]; exact hz k (by omega)) (fun k => ?_) (fun A' g eg q => kf A' g ?_ q) (fun eg A' q => ?_)
    · by_cases z : k = c
      · rw [z, up1_s]; omega
      · rw [up1_n z]; exact hb k
    · rw [e]; unfold fsto; rw [eg]
    · have e2 : srch on H s last (d + 1) c h = fsto (fun v => srch on H s last d (c + 1) (up1 h c v)) (k + 1) (v + 1) := by
        rw [e]
        conv => lhs; unfold fsto
        rw [eg]
      refine kX8_isNext (next_down (c := c + 1) (h := up1 h c v) hl ho (fun k hk1 => by rw [up1_n (by omega)]; exact hz k (by omega)) (fun A2 q2 => ?_) (6 - (c + 1)) 6 5 A' (by omega) (Nat.le_refl 6) rfl q)
      have ec : nI (c + 1) + (-1) = nI c := by
        have : nI (c + 1) + (-1) = nI (c + 1) - 1 := by rw [Int32.sub_eq_add_neg]
        rw [this]; exact nI_p c
      rw [ec]
      have hc : c < 6 := by omega
      have hv := vp_in_nI hc (N := 6) (by decide)
      refine vX8_isNext_2 ⟨fun q => absurd q (nI_pos (by omega)), fun _ => ⟨hv, ?_⟩⟩
      rw [nI_clamp (by omega), q2.1 134 c (by omega), q2.2.2 c hc, up1_s, nI_1]
      refine ⟨fun _ => ⟨hv, hv, hv, fun z => ?_, fun _ => ⟨1, rfl, ?_⟩⟩, fun z => absurd z ((ho c hc).mp oc)⟩
      · have := i_lt.mp z
        rw [nI_toInt (by omega), nI_toInt (by omega)] at this
        omega
      · refine scan_v hl ho hd oc hz hb ih kf kn k (v + 1) _ (by omega) ((q2.put c (v + 1)).cong (fun k hk1 => ?_)) e2
        by_cases z : k = c
        · rw [z, up1_s, up1_s]
        · rw [up1_n z, up1_n z, up1_n z]
theorem scanM (hl : last < 6) (hs : s ≤ 3) (ho : ∀ c, c < 6 → (on c = true ↔ A0 134 c ≠ 0)) (hF : F 323 122 = nI s) : ∀ (d c : Nat) (h : Nat → Nat) (A : MI), c + d = 6 → MH A0 H h A → (∀ k, c ≤ k → h k = 0) → (∀ k, h k ≤ last) → (∀ A' g, srch on H s last d c h = some g → MH A0 H g A' → P (nI last) F A') → (srch on H s last d c h = none → ∀ A', MH A0 H (hmm on last c 6 h) A' → nextM l w nb P last F A') → at123 l w nb P last 1 F A
  | 0, c, h, A, hd, hM, hz, hb, kf, kn => by
    refine vX8_lays_123 (z1 (s_isGood (on := on) (h := h) hs (fun c hc => by rw [hM.1 134 c (by omega)]; exact ho c hc) hF hM (fun c hc => by have := hb c; omega) (fun g => z1 ⟨_, rfl, kf A h ?_ hM⟩) (fun g => z0 ?_)))
    · unfold srch; rw [if_pos g]
    · refine kn ?_ A (hM.cong (fun k hk => ?_))
      · unfold srch; rw [if_neg (by rw [g]; decide)]
      · unfold hmm; rw [if_neg (by omega)]
  | d + 1, c, h, A, hd, hM, hz, hb, kf, kn => by
    by_cases oc : on c = true
    · refine scan_v hl ho hd oc hz hb (fun h A a1 a2 a3 a4 a5 => scanM hl hs ho hF d (c + 1) h A (by omega) a1 a2 a3 a4 a5) kf kn last 0 A (by omega) (hM.cong (fun k hk => ?_)) ?_
      · by_cases z : k = c
        · rw [z, up1_s, hz c (Nat.le_refl c)]
        · rw [up1_n z]
      · conv => lhs; unfold srch
        rw [if_pos oc]
    · have e : srch on H s last (d + 1) c h = srch on H s last d (c + 1) h := by
        conv => lhs; unfold srch
        rw [if_neg oc]
      rw [e] at kf kn
      refine scanM hl hs ho hF d (c + 1) h A (by omega) hM (fun k hk => hz k (by omega)) hb kf (fun eg A' q => kn eg A' (q.cong (fun k hk => ?_)))
      unfold hmm
      by_cases y : c ≤ k ∧ k < 6 ∧ on k = true
      · by_cases z : k = c
        · rw [z] at y; exact absurd y.2.2 oc
        · rw [if_pos y, if_pos ⟨by omega, y.2⟩]
      · rw [if_neg y, if_neg (fun u => y ⟨by omega, u.2⟩)]
theorem lays_zero {x2 : Int32} (kk : ∀ A, MH A0 H (fun _ => 0) A → ZM l mX8_lays 2 w nb (qi P) 123 [(0, .ref 122), (1, .int 1), (2, .int x2), (3, .int 1)] [] F A) : ∀ (d c : Nat) (x3 : Int32) (A : MI), c + d = 6 → x3 = nI c → (∀ a j, ¬ (144 ≤ a ∧ a ≤ 145) → A a j = A0 a j) → (∀ c, c < 6 → A 144 c = H c) → (∀ j, j < c → A 145 j = 0) → ZM l mX8_lays 2 w nb (qi P) 102 [(0, .ref 122), (1, .int 1), (2, .int x2), (3, .int x3)] [] F A
  | 0, c, x3, A, hd, hx, h1, h2, h3 => by
    subst hx
    have : c = 6 := by omega
    subst this
    exact vX8_lays_102 ⟨fun _ => kk A ⟨h1, h2, h3⟩, fun h => absurd (Int32.le_refl _) h⟩
  | d + 1, c, x3, A, hd, hx, h1, h2, h3 => by
    subst hx
    refine vX8_lays_102 ⟨fun h => absurd h (nI_ge (a := c) (b := 6) (by omega) (by decide)), fun _ => ⟨vp_in_nI (by omega) (by decide), ?_⟩⟩
    rw [nI_clamp (by omega)]
    refine lays_zero kk d (c + 1) _ _ (by omega) (by rw [nI_1]) (fun a j q => (u2_n1 (by omega)).trans (h1 a j q)) (fun j hj => (u2_n1 (by decide)).trans (h2 j hj)) (fun j hj => ?_)
    by_cases z : j = c
    · rw [z, u2_s]
    · rw [u2_n2 z]; exact h3 j (by omega)
theorem lays_last (hs : 1 ≤ s ∧ s ≤ 3) (ho : ∀ c, c < 6 → (on c = true ↔ A0 134 c ≠ 0)) (hF : F 323 122 = nI s) (kP : ∀ A last g, plan6 on H s = some (last, g) → MH A0 H g A → P (nI last) F A) : ∀ (k v : Nat) (x2 : Int32) (A : MI), v + k = 6 → x2 = nI v → (∀ a j, ¬ (144 ≤ a ∧ a ≤ 145) → A a j = A0 a j) → (∀ c, c < 6 → A 144 c = H c) → plan6 on H s = fsto (fun last => (srch on H s last 6 0 (fun _ => 0)).map (fun g => (last, g))) k v → ZM l mX8_lays 2 w nb (qi P) 90 [(0, .ref 122), (1, .int 1), (2, .int x2)] [] F A
  | 0, v, x2, A, hk, hx, h1, h2, e => by
    obtain ⟨q, hq⟩ := plan_ex (on := on) (H := H) hs.1
    rw [e] at hq; cases hq
  | k + 1, v, x2, A, hk, hx, h1, h2, e => by
    subst hx
    refine vX8_lays_90 ⟨fun h => absurd h (nI_ge (a := v) (b := 6) (by omega) (by decide)), fun _ => z1 ?_⟩
    refine lays_zero (A0 := A0) (H := H) (fun A1 q1 => ?_) 6 0 0 A rfl rfl h1 h2 (fun j hj => absurd hj (Nat.not_lt_zero j))
    refine scanM (A0 := A0) (by omega) hs.2 ho hF 6 0 (fun _ => 0) A1 rfl q1 (fun _ _ => rfl) (fun _ => Nat.zero_le v) (fun A' g eg q => kP A' v g ?_ q) (fun eg A' q => ?_)
    · rw [e]; unfold fsto; rw [eg]; rfl
    · refine kX8_isNext (next_down (c := 0) (h := fun _ => 0) (by omega) ho (fun _ _ => rfl) (fun A2 q2 => ?_) 6 6 5 A' rfl (Nat.le_refl 6) rfl q)
      refine vX8_isNext_2 ⟨fun _ => ⟨0, rfl, ?_⟩, fun z => absurd (by decide) z⟩
      refine vX8_lays_123 (z0 ?_)
      refine lays_last hs ho hF kP k (v + 1) _ A2 (by omega) (by rw [nI_1]) q2.1 q2.2.1 ?_
      rw [e]
      conv => lhs; unfold fsto
      rw [eg]
      rfl
/-- the HANDLERS, and whether there is a CLASS at all -/
def anyB (on : Nat → Bool) (c : Nat) : Int32 := if al (fun d => !on d) c = true then 0 else 1
theorem any_succ {c : Nat} : anyB on (c + 1) = if on c = true then 1 else anyB on c := by
  have e : al (fun d => !on d) (c + 1) = (al (fun d => !on d) c && !on c) := rfl
  unfold anyB
  rw [e]
  cases o : on c
  · simp
  · simp
theorem lays_b {c : Nat} {x1 : Int32} (hc : c < 6) (hnb : nb ≤ 20) (hF : F 322 122 = nI nb) (h134 : ∀ j, A0 134 j = A0 134 j) (kk : ∀ A, (∀ a j, ¬ (a = 144 ∧ j = c) → A a j = A0 a j) → A 144 c = HA A0 nb c → ZM l mX8_lays 2 w nb (qi P) 4 [(0, .ref 122), (1, .int x1), (2, .int (nI (c + 1)))] [] F A) : ∀ (d b : Nat) (x3 : Int32) (A : MI), b + d = nb → x3 = nI b → (∀ a j, ¬ (a = 144 ∧ j = c) → A a j = A0 a j) → A 144 c = hmk A0 (A0 134 c) b → ZM l mX8_lays 2 w nb (qi P) 38 [(0, .ref 122), (1, .int x1), (2, .int (nI c)), (3, .int x3)] [] F A
  | 0, b, x3, A, hd, hx, h1, h2 => by
    subst hx
    have : b = nb := by omega
    refine vX8_lays_38 ?_
    rw [hF, this, nI_1]
    exact ⟨fun _ => kk A h1 (by rw [h2, this]; rfl), fun h => absurd (Int32.le_refl _) h⟩
  | d + 1, b, x3, A, hd, hx, h1, h2 => by
    subst hx
    have hv := vp_in_nI hc (N := 6) (by decide)
    have hvb := vp_in_nI (n := b) (N := 20) (by omega) (by decide)
    refine vX8_lays_38 ?_
    rw [hF, nI_clamp (by omega), nI_clamp (by omega), h1 134 c (by omega)]
    refine ⟨fun h => absurd h (nI_ge (a := b) (b := nb) (by omega) (by omega)), fun _ => ⟨hv, s_has (by omega) (fun q => z1 ⟨hv, hvb, hv, ?_⟩) (fun q => z0 ?_)⟩⟩
    · refine vX8_lays_76 (lays_b hc hnb hF h134 kk d (b + 1) _ _ (by omega) (by rw [nI_1]) (fun a j z => (u2_ne z).trans (h1 a j z)) ?_)
      rw [u2_s, h2, h1 127 b (by omega)]
      conv => rhs; unfold hmk
      rw [if_pos q]
    · refine vX8_lays_76 (lays_b hc hnb hF h134 kk d (b + 1) _ A (by omega) (by rw [nI_1]) h1 ?_)
      rw [h2]
      conv => rhs; unfold hmk
      rw [if_neg (by rw [q]; decide)]
theorem lays_c (hnb : nb ≤ 20) (hF : F 322 122 = nI nb) (kk : ∀ A, (∀ a j, ¬ (144 ≤ a ∧ a ≤ 145) → A a j = A0 a j) → (∀ c, c < 6 → A 144 c = HA A0 nb c) → ZM l mX8_lays 2 w nb (qi P) 90 [(0, .ref 122), (1, .int (anyB (onA A0) 6)), (2, .int 0)] [] F A) : ∀ (d c : Nat) (x1 x2 : Int32) (A : MI), c + d = 6 → x2 = nI c → x1 = anyB (onA A0) c → (∀ a j, ¬ (144 ≤ a ∧ a ≤ 145) → A a j = A0 a j) → (∀ j, j < c → A 144 j = HA A0 nb j) → ZM l mX8_lays 2 w nb (qi P) 4 [(0, .ref 122), (1, .int x1), (2, .int x2)] [] F A
  | 0, c, x1, x2, A, hd, hx, hy, h1, h2 => by
    subst hx
    subst hy
    have : c = 6 := by omega
    subst this
    exact vX8_lays_4 ⟨fun _ => kk A h1 h2, fun h => absurd (Int32.le_refl _) h⟩
  | d + 1, c, x1, x2, A, hd, hx, hy, h1, h2 => by
    subst hx
    have hc : c < 6 := by omega
    have hv := vp_in_nI hc (N := 6) (by decide)
    refine vX8_lays_4 ⟨fun h => absurd h (nI_ge (a := c) (b := 6) hc (by decide)), fun _ => ⟨hv, ?_⟩⟩
    rw [nI_clamp (by omega), h1 134 c (by omega)]
    have go : ∀ s0 : Int32, s0 = anyB (onA A0) (c + 1) → ZM l mX8_lays 2 w nb (qi P) 35 [(0, .ref 122), (2, .int (nI c))] [.int s0] F (u2 A 144 c 0) := fun s0 e => by
      refine vX8_lays_35 ?_
      have hcg : ∀ j, (u2 A 144 c 0) 127 j = A0 127 j := fun j => (u2_n1 (by decide)).trans (h1 127 j (by omega))
      have h134 : ∀ j, (u2 A 144 c 0) 134 j = A0 134 j := fun j => (u2_n1 (by decide)).trans (h1 134 j (by omega))
      refine lays_b (A0 := u2 A 144 c 0) hc hnb hF (fun _ => rfl) (fun A2 q1 q2 => ?_) nb 0 0 _ (by omega) rfl (fun _ _ _ => rfl) u2_s
      refine lays_c hnb hF kk d (c + 1) _ _ A2 (by omega) rfl e (fun a j z => (q1 a j (by omega)).trans ((u2_n1 (by omega)).trans (h1 a j z))) (fun j hj => ?_)
      by_cases z : j = c
      · rw [z, q2]
        unfold HA
        rw [h134, hmk_cong hcg]
      · rw [q1 144 j (by omega), u2_n2 z]; exact h2 j (by omega)
    have e1 : anyB (onA A0) (c + 1) = if A0 134 c ≠ 0 then 1 else anyB (onA A0) c := by
      rw [any_succ]
      unfold onA
      by_cases z : A0 134 c ≠ 0
      · simp [z]
      · simp [z]
    have e01 : anyB (onA A0) c = 0 ∨ anyB (onA A0) c = 1 := by unfold anyB; split; exact Or.inl rfl; exact Or.inr rfl
    refine ⟨fun q => vX8_lays_30 (go 1 ?_), fun q => ⟨hv, fun q2 => go 0 ?_, fun q2 => vX8_lays_30 (go 1 ?_)⟩⟩
    · rw [e1]
      split
      · rfl
      · rcases e01 with z | z
        · rw [hy] at q; exact absurd z q
        · exact z.symm
    · rw [e1, if_neg (fun z => z q2), ← hy, q]
    · rw [e1, if_pos q2]
theorem any_iff : anyB on 6 = 1 ↔ ∃ c, c < 6 ∧ on c = true := by
  unfold anyB
  by_cases z : al (fun d => !on d) 6 = true
  · rw [if_pos z]
    rw [al_iff] at z
    refine ⟨fun h => absurd h (by decide), fun ⟨c, hc, o⟩ => ?_⟩
    have := z c hc
    rw [o] at this; cases this
  · rw [if_neg z]
    refine ⟨fun _ => ?_, fun _ => rfl⟩
    refine Classical.byContradiction (fun q => z (al_iff.mpr (fun c hc => ?_)))
    cases o : on c
    · rfl
    · exact absurd ⟨c, hc, o⟩ q
theorem s_lays (hs : 1 ≤ s ∧ s ≤ 3) (h2 : F 322 122 = nI nb) (hnb : nb ≤ 20) (h3 : F 323 122 = nI s) (k0 : (¬ ∃ c, c < 6 ∧ onA A0 c = true) → ∀ A, (∀ a j, ¬ (144 ≤ a ∧ a ≤ 145) → A a j = A0 a j) → P (-1) F A) (kP : (∃ c, c < 6 ∧ onA A0 c = true) → ∀ A last g, plan6 (onA A0) (HA A0 nb) s = some (last, g) → MH A0 (HA A0 nb) g A → P (nI last) F A) : CM l mX8_lays 2 w nb [.ref 122] F A0 (qi P) := by
  refine kX8_lays (lays_c hnb h2 (fun A q1 q2 => ?_) 6 0 0 0 A0 rfl rfl rfl (fun _ _ _ => rfl) (fun j hj => absurd hj (Nat.not_lt_zero j)))
  by_cases z : ∃ c, c < 6 ∧ onA A0 c = true
  · rw [any_iff.mpr z]
    exact lays_last hs (fun c hc => by unfold onA; exact decide_eq_true_iff) h3 (kP z) 6 0 0 A rfl rfl q1 q2 rfl
  · have e : anyB (onA A0) 6 = 0 := by
      have e01 : anyB (onA A0) 6 = 0 ∨ anyB (onA A0) 6 = 1 := by unfold anyB; split; exact Or.inl rfl; exact Or.inr rfl
      rcases e01 with y | y
      · exact y
      · exact absurd (any_iff.mp y) z
    rw [e]
    exact vX8_lays_90 ⟨fun _ => ⟨_, rfl, k0 z A q1⟩, fun _ => z0 ⟨_, rfl, k0 z A q1⟩⟩
end LAYSM
