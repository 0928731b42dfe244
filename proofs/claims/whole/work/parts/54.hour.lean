section HOUR
variable {l : Launch} {w : Nat → Nat} {nb : Nat} {F A F0 A0 : MI} {V : MI → MI → Prop} {P : Int32 → MI → MI → Prop}
theorem MF_inv (hw : TW w) (hI : Inv w nb F A0) (h : ∀ a j, ¬ (144 ≤ a ∧ a ≤ 145) → A a j = A0 a j) : Inv w nb F A := hI.frame hw.1 (fun _ _ _ => rfl) (fun a j q => h a j (fun e => q (by unfold scA; omega)))
theorem PF.on (h : PF A0 A) : onA A = onA A0 := by
  funext c
  unfold onA
  rw [h 134 c (by omega)]
theorem op_hour {x1 : Int32} (hw : TW w) (hI : Inv w nb F A) : CM l mX7_hour 11 w nb [.ref 1, .int x1] F A (qi fun r F A => CM l mX8_hour 3 w nb [.ref 122, .int x1] F A (qi fun r' F A => r = r' ∧ Inv w nb F A)) := by
  obtain ⟨s, hs1, hs2, s1, s2⟩ := hI.2.2.1
  refine kX7_hour (s_below (n := 6) rfl (by decide) (fun c hc e => n1 ?_) (fun h => n0 ⟨-1, rfl, kX8_hour (s_isClass (fun c hc e => absurd ⟨c, hc, e⟩ h) (fun _ => z0 ⟨-1, rfl, rfl, hI⟩))⟩))
  subst e
  rw [s1]
  refine s_plan ⟨hs1, hs2⟩ hw hI (fun A1 last g e1 e2 e3 => ⟨vp_in_nI hc (by decide), ?_⟩)
  rw [nI_clamp (by omega), e3 c hc]
  have hI1 := e2.inv hw hI
  have eH : HA A1 nb = HA A nb := funext (fun c => e2.H c)
  refine ⟨_, rfl, kX8_hour (s_isClass (fun c' _ _ => z1 ⟨vp_in_nI hc (by decide), ?_⟩) (fun h => absurd ⟨c, hc, rfl⟩ h))⟩
  rw [nI_clamp (by omega), e2 134 c (by omega)]
  refine ⟨fun q => ⟨-1, rfl, ?_, hI1⟩, fun q => ?_⟩
  · rw [if_neg]
    unfold onA
    rw [decide_eq_true_eq]
    exact fun z => z q
  · have oc : onA A c = true := by unfold onA; rw [decide_eq_true_eq]; exact q
    rw [if_pos oc]
    refine s_lays (A0 := A1) ⟨hs1, hs2⟩ hI1.2.1.2.1 hI1.2.1.2.2.1 s2 (fun h => absurd ⟨c, hc, by rw [e2.on]; exact oc⟩ h) (fun _ A2 last2 g2 q1 q2 => ?_)
    rw [e2.on, eH, e1] at q1
    cases q1
    have hlt := (plan_ok e1).1
    refine ⟨fun _ => ⟨vp_in_nI hc (by decide), _, rfl, ?_, MF_inv hw hI1 q2.1⟩, fun z => absurd z (m1_ne (by omega))⟩
    rw [q2.2.2 c hc]
theorem last_loop {g : Nat → Nat} {on : Nat → Bool} {last : Nat} (hl : last < 6) (hg : ∀ c, c < 6 → on c = true → g c ≤ last) (hA : ∀ j, j < 6 → A 31 j = if on j = true then nI (g j) else -1) (y : Int32) (hP : P y F A) : ∀ (d c : Nat) (x1 x2 : Int32), c + d = 6 → x2 = nI c → (x1 = -1 ∨ ∃ u, u ≤ last ∧ x1 = nI u) → (y = -1 → x1 = -1 ∧ ∀ k, c ≤ k → k < 6 → on k = false) → (y ≠ -1 → y = nI last ∧ (x1 = nI last ∨ ∃ k, c ≤ k ∧ k < 6 ∧ on k = true ∧ g k = last)) → ZM l mX6_lastHour 2 w nb (qi P) 4 [(0, .ref 29), (1, .int x1), (2, .int x2)] [] F A
  | 0, c, x1, x2, hd, hx, h1, h2, h3 => by
    subst hx
    have : c = 6 := by omega
    subst this
    refine vX6_lastHour_4 ⟨fun _ => ⟨_, rfl, ?_⟩, fun h => absurd (Int32.le_refl _) h⟩
    by_cases z : y = -1
    · rw [(h2 z).1, ← z]; exact hP
    · obtain ⟨q1, q2⟩ := h3 z
      rcases q2 with q2 | ⟨k, k1, k2, -⟩
      · rw [q2, ← q1]; exact hP
      · omega
  | d + 1, c, x1, x2, hd, hx, h1, h2, h3 => by
    subst hx
    have hc : c < 6 := by omega
    refine vX6_lastHour_4 ⟨fun h => absurd h (nI_ge (a := c) (b := 6) hc (by decide)), fun _ => ⟨vp_in_nI hc (by decide), ?_⟩⟩
    rw [nI_clamp (by omega), hA c hc]
    have em : (-1 : Int32).toInt = -1 := rfl
    refine last_loop hl hg hA y hP d (c + 1) _ _ (by omega) (by rw [nI_1]) ?_ (fun z => ?_) (fun z => ?_)
    · cases o : on c
      · rw [if_neg (by decide : ¬ false = true)]
        split
        · exact Or.inl rfl
        · exact h1
      · rw [if_pos rfl]
        split
        · exact Or.inr ⟨g c, hg c hc o, rfl⟩
        · exact h1
    · obtain ⟨q1, q2⟩ := h2 z
      rw [q2 c (Nat.le_refl c) hc, if_neg (by decide : ¬ false = true), q1]
      refine ⟨?_, fun k k1 k2 => q2 k (by omega) k2⟩
      split <;> rfl
    · obtain ⟨q1, q2⟩ := h3 z
      refine ⟨q1, ?_⟩
      rcases q2 with q2 | ⟨k, k1, k2, k3, k4⟩
      · left
        rw [q2, if_neg]
        intro q
        have q := i_lt.mp q
        rw [nI_toInt (by omega)] at q
        cases o : on c
        · rw [o, if_neg (by decide : ¬ false = true), em] at q; omega
        · have := hg c hc o
          rw [o, if_pos rfl, nI_toInt (by omega)] at q; omega
      · rcases Nat.lt_or_ge c k with y2 | y2
        · exact Or.inr ⟨k, by omega, k2, k3, k4⟩
        · have : k = c := by omega
          subst this
          left
          rw [k3, if_pos rfl, k4]
          split
          · rfl
          · rename_i q
            rcases h1 with u | ⟨u, u1, u2⟩
            · rw [u, i_lt, em, nI_toInt (by omega)] at q; omega
            · rw [u2]
              rw [u2, i_lt, nI_toInt (by omega), nI_toInt (by omega)] at q
              congr 1; omega
theorem op_count3 (hw : TW w) (hI : Inv w nb F A) (Q : PM) (hQ : ∀ r F A, CM l mX8_lays 2 w nb [.ref 122] F A (qi fun r' F A => r = r' ∧ Inv w nb F A) → Inv w nb F A → Q (some (.int r)) F A) : CM l mX6_plan 10 w nb [.ref 29, .ref 5, .ref 4, .int (F 289 1)] F A (qv fun F2 A2 => CM l mX6_lastHour 2 w nb [.ref 29] F2 A2 (qi fun r3 F3 A3 => Q (some (.int r3)) F3 A3)) := by
  obtain ⟨s, hs1, hs2, s1, s2⟩ := hI.2.2.1
  rw [s1]
  refine s_plan ⟨hs1, hs2⟩ hw hI (fun A1 last g e1 e2 e3 => ?_)
  have hI1 := e2.inv hw hI
  have eH : HA A1 nb = HA A nb := funext (fun c => e2.H c)
  have hlt := (plan_ok e1).1
  by_cases ho : ∃ c, c < 6 ∧ onA A c = true
  · obtain ⟨m1, m2⟩ := plan_max e1 ho
    refine kX6_lastHour (last_loop (P := fun r3 F3 A3 => Q (some (.int r3)) F3 A3) (last := last) hlt m1 e3 (nI last) (hQ _ F A1 ?_ hI1) 6 0 _ _ rfl rfl (Or.inl rfl) (fun z => absurd z (m1_ne (by omega))) (fun _ => ⟨rfl, Or.inr ?_⟩))
    · refine s_lays (A0 := A1) ⟨hs1, hs2⟩ hI1.2.1.2.1 hI1.2.1.2.2.1 s2 (fun h => absurd (by rw [e2.on]; exact ho) h) (fun _ A2 last2 g2 q1 q2 => ?_)
      rw [e2.on, eH, e1] at q1
      cases q1
      exact ⟨rfl, MF_inv hw hI1 q2.1⟩
    · obtain ⟨c, c1, c2, c3⟩ := m2
      exact ⟨c, Nat.zero_le c, c1, c2, c3⟩
  · have off : ∀ c, c < 6 → onA A c = false := fun c hc => by
      cases z : onA A c
      · rfl
      · exact absurd ⟨c, hc, z⟩ ho
    refine kX6_lastHour (last_loop (P := fun r3 F3 A3 => Q (some (.int r3)) F3 A3) (last := last) (g := g) (on := onA A) hlt (fun c hc o => by rw [off c hc] at o; cases o) e3 (-1) (hQ _ F A1 ?_ hI1) 6 0 _ _ rfl rfl (Or.inl rfl) (fun _ => ⟨rfl, fun k _ hk => off k hk⟩) (fun z => absurd rfl z))
    refine s_lays (A0 := A1) ⟨hs1, hs2⟩ hI1.2.1.2.1 hI1.2.1.2.2.1 s2 (fun h A2 q => ⟨rfl, MF_inv hw hI1 q⟩) (fun h => absurd (by rw [e2.on] at h; exact h) ho)
/-! count -/
def oct (A : MI) (c : Nat) : Nat → Nat := fb_ct (fun j => decide (A 137 (6 * j + c) ≠ 0))
theorem t_pos {t : Nat} (ht : t ≤ 8) : ¬ nI t ≤ 0 ↔ nI t ≠ 0 := by
  by_cases z : t = 0
  · rw [z]; decide
  · exact ⟨fun _ => nI_ne0 (by omega) (by omega), fun _ => nI_nle (by omega) (by omega)⟩
theorem orders_loop {c : Nat} (hc : c < 6) (h8 : I8 A) (hP : P (nI (oct A c 6)) F A) : ∀ (d j : Nat) (x1 x2 : Int32), j + d = 6 → x2 = nI j → x1 = nI (oct A c j) → ZM l mX4_countOrders 1 w nb (qi P) 4 [(0, .ref (38 + 14 * c)), (1, .int x1), (2, .int x2)] [] F A
  | 0, j, x1, x2, hd, hx, hy => by
    subst hx
    subst hy
    have : j = 6 := by omega
    subst this
    exact vX4_countOrders_4 hc ⟨fun _ => ⟨_, rfl, hP⟩, fun h => absurd (Int32.le_refl _) h⟩
  | d + 1, j, x1, x2, hd, hx, hy => by
    subst hx
    subst hy
    have hj : j < 6 := by omega
    obtain ⟨t, ht, e1, e2, -⟩ := h8 c j hc hj
    have es : oct A c (j + 1) = oct A c j + (if A 137 (6 * j + c) ≠ 0 then 1 else 0) := by
      unfold oct
      rw [fb_ct_succ]
      by_cases z : A 137 (6 * j + c) ≠ 0
      · simp [z]
      · simp [z]
    refine vX4_countOrders_4 hc ⟨fun h => absurd h (nI_ge (a := j) (b := 6) hj (by decide)), fun _ => ⟨vp_in_nI hj (by decide), ?_⟩⟩
    rw [nI_clamp (by omega), e1]
    rw [e2] at es
    refine ⟨fun q => vX4_countOrders_22 hc (orders_loop hc h8 hP d (j + 1) _ _ (by omega) (by rw [nI_1]) ?_), fun q => vX4_countOrders_22 hc (orders_loop hc h8 hP d (j + 1) _ _ (by omega) (by rw [nI_1]) ?_)⟩
    · rw [es, if_neg (fun z => ((t_pos ht).mpr z) q)]; rfl
    · rw [es, if_pos ((t_pos ht).mp q), nI_1]
theorem countsM_loop {c : Nat} {x1 : Int32} (hc : c < 6) (hx : x1 - 20 = nI c) (h8 : I8 A) (hP : P (nI (oct A c 6)) F A) : ∀ (d j : Nat) (x2 x3 : Int32), j + d = 6 → x3 = nI j → x2 = nI (oct A c j) → ZM l mX8_count 3 w nb (qi P) 37 [(0, .ref 122), (1, .int x1), (2, .int x2), (3, .int x3)] [] F A
  | 0, j, x2, x3, hd, h3, hy => by
    subst h3
    subst hy
    have : j = 6 := by omega
    subst this
    exact vX8_count_37 ⟨fun _ => ⟨_, rfl, hP⟩, fun h => absurd (Int32.le_refl _) h⟩
  | d + 1, j, x2, x3, hd, h3, hy => by
    subst h3
    subst hy
    have hj : j < 6 := by omega
    obtain ⟨t, ht, e1, e2, -⟩ := h8 c j hc hj
    have es : oct A c (j + 1) = oct A c j + (if A 137 (6 * j + c) ≠ 0 then 1 else 0) := by
      unfold oct
      rw [fb_ct_succ]
      by_cases z : A 137 (6 * j + c) ≠ 0
      · simp [z]
      · simp [z]
    refine vX8_count_37 ⟨fun h => absurd h (nI_ge (a := j) (b := 6) hj (by decide)), fun _ => ?_⟩
    rw [hx]
    refine kX8_counts ?_
    rw [ix_td, nI_clamp (by omega), e2]
    rw [e2] at es
    refine ⟨vp_in_nI (by omega) (by decide), fun q => ⟨0, rfl, z0 (vX8_count_61 (countsM_loop hc hx h8 hP d (j + 1) _ _ (by omega) (by rw [nI_1]) ?_))⟩, fun q => ⟨1, rfl, z1 (vX8_count_61 (countsM_loop hc hx h8 hP d (j + 1) _ _ (by omega) (by rw [nI_1]) ?_))⟩⟩
    · rw [es, if_neg (fun z => ((t_pos ht).mpr z) q)]
      exact Int32.add_zero _
    · rw [es, if_pos ((t_pos ht).mp q), nI_1]
theorem sub_in {x : Int32} {a : Nat} (ha : a ≤ 100) : (nI a ≤ x ∧ x < nI (a + 6)) ↔ ∃ c, c < 6 ∧ x - nI a = nI c := by
  have h1 := nI_toInt (n := a) (by omega)
  have h2 := nI_toInt (n := a + 6) (by omega)
  rw [i_le, i_lt, h1, h2]
  constructor
  · rintro ⟨q1, q2⟩
    have e : (x - nI a).toInt = x.toInt - a := by rw [fb_subI (by omega) (by omega), h1]
    obtain ⟨c, hc, ec⟩ := (bel_iff (x := x - nI a) (n := 6) (by decide)).mpr ⟨by omega, by omega⟩
    exact ⟨c, hc, ec⟩
  · rintro ⟨c, hc, e⟩
    have ex : x = nI (a + c) := by
      have : x = x - nI a + nI a := by rw [Int32.sub_add_cancel]
      rw [this, e, nI_add, Nat.add_comm]
    rw [ex, nI_toInt (by omega)]
    omega
end HOUR
