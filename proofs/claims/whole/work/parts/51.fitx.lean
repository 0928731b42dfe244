section FITX
variable {l : Launch} {w : Nat → Nat} {nb : Nat} {F A F0 A0 : MI} {V : MI → MI → Prop} {on : Nat → Bool} {H : Nat → Int32} {s last : Nat}
def FX (on : Nat → Bool) (H : Nat → Int32) (h : Nat → Nat) (c : Nat) (A : MI) : Prop := (∀ j, j < 6 → A 30 j = H j) ∧ (∀ v, v < 6 → A 33 v = nI (cnth on h v c)) ∧ ∀ v, v < 6 → A 32 v = uni on H h v c
def K1 (on : Nat → Bool) (r : Option (Nat → Nat)) (c : Nat) (A : MI) (P : Int32 → MI → MI → Prop) (F : MI) : Prop := ∀ A' g, r = some g → (∀ a j, ¬ (31 ≤ a ∧ a ≤ 33) → A' a j = A a j) → (∀ j, j < 6 → on j = true → c ≤ j → A' 31 j = nI (g j)) → (∀ j, (j < c ∨ on j = false) → A' 31 j = A 31 j) → P 1 F A'
def K0 (on : Nat → Bool) (r : Option (Nat → Nat)) (c : Nat) (A : MI) (P : Int32 → MI → MI → Prop) (F : MI) : Prop := ∀ A', r = none → (∀ a j, ¬ (31 ≤ a ∧ a ≤ 33) → A' a j = A a j) → (∀ j, (j < c ∨ on j = false) → A' 31 j = A 31 j) → (∀ v, v < 6 → A' 32 v = A 32 v) → (∀ v, v < 6 → A' 33 v = A 33 v) → P 0 F A'
theorem fitX_v {d c : Nat} {h : Nat → Nat} {P : Int32 → MI → MI → Prop} (hs3 : s ≤ 3) (hl : last < 6) (hd : c + (d + 1) = 6) (oc : on c = true) (hX : FX on H h c A) (hG : PG on H s h c)
    (ih : ∀ (h : Nat → Nat) (A : MI) (P : Int32 → MI → MI → Prop), FX on H h (c + 1) A → PG on H s h (c + 1) → K1 on (srch on H s last d (c + 1) h) (c + 1) A P F → K0 on (srch on H s last d (c + 1) h) (c + 1) A P F → CM l mX6_fitFrom (d + 3) w nb [.ref 29, .int (nI (c + 1)), .int (nI last), .int (nI s)] F A (qi P))
    (k1 : K1 on (srch on H s last (d + 1) c h) c A P F) (k0 : K0 on (srch on H s last (d + 1) c h) c A P F) : ∀ (k v : Nat) (x5 : Int32) (A1 : MI), v + k = last + 1 → x5 = nI v → (∀ a j, ¬ (31 ≤ a ∧ a ≤ 33) → A1 a j = A a j) → (∀ j, (j < c ∨ on j = false) → A1 31 j = A 31 j) → (∀ v, v < 6 → A1 32 v = A 32 v) → (∀ v, v < 6 → A1 33 v = A 33 v) → srch on H s last (d + 1) c h = fsto (fun v => srch on H s last d (c + 1) (up1 h c v)) k v → ZM l mX6_fitFrom (d + 4) w nb (qi P) 34 [(0, .ref 29), (1, .int (nI c)), (2, .int (nI last)), (3, .int (nI s)), (4, .int (H c)), (5, .int x5)] [] F A1
  | 0, v, x5, A1, hk, hx, f1, f2, f3, f4, e => by
    subst hx
    refine vX6_fitFrom_34 (L' := d + 3) (by omega) ⟨fun _ => ⟨0, rfl, k0 A1 (by rw [e]; rfl) f1 f2 f3 f4⟩, fun q => absurd (nI_lt (by omega) (by omega)) q⟩
  | k + 1, v, x5, A1, hk, hx, f1, f2, f3, f4, e => by
    subst hx
    have hv6 : v < 6 := by omega
    have hv := vp_in_nI hv6 (N := 6) (by decide)
    have hvc := vp_in_nI (n := c) (N := 6) (by omega) (by decide)
    have next : ∀ A2, (∀ a j, ¬ (31 ≤ a ∧ a ≤ 33) → A2 a j = A a j) → (∀ j, (j < c ∨ on j = false) → A2 31 j = A 31 j) → (∀ v, v < 6 → A2 32 v = A 32 v) → (∀ v, v < 6 → A2 33 v = A 33 v) → srch on H s last d (c + 1) (up1 h c v) = none → ZM l mX6_fitFrom (d + 4) w nb (qi P) 134 [(0, .ref 29), (1, .int (nI c)), (2, .int (nI last)), (3, .int (nI s)), (4, .int (H c)), (5, .int (nI v))] [] F A2 := fun A2 g1 g2 g3 g4 q => by
      refine vX6_fitFrom_134 (L' := d + 3) (by omega) (fitX_v hs3 hl hd oc hX hG ih k1 k0 k (v + 1) _ A2 (by omega) (by rw [nI_1]) g1 g2 g3 g4 ?_)
      rw [e]
      conv => lhs; unfold fsto
      rw [q]
    have hcn := fb_ct_le (fun d => on d && (h d == v)) c
    have e33 : A1 33 v = nI (cnth on h v c) := by rw [f4 v hv6, hX.2.1 v hv6]
    have e32 : A1 32 v = uni on H h v c := by rw [f3 v hv6, hX.2.2 v hv6]
    refine vX6_fitFrom_34 (L' := d + 3) (by omega) ⟨fun q => ?_, fun _ => ?_⟩
    · have := i_lt.mp q
      rw [nI_toInt (by omega), nI_toInt (by omega)] at this
      omega
    rw [nI_clamp (by omega), nI_clamp (by omega), e33, e32]
    refine ⟨hv, fun q => next A1 f1 f2 f3 f4 (cut_none hd oc (fun z => nI_ge z.1 (by omega) q)), fun q => ⟨hv, fun q2 => next A1 f1 f2 f3 f4 (cut_none hd oc (fun z => q2 z.2)), fun q2 => ⟨hvc, hv, hv, hv, hv, ?_⟩⟩⟩
    have hr : cnth on h v c < s := by
      rcases Nat.lt_or_ge (cnth on h v c) s with z | z
      · exact z
      · exact absurd (nI_le z (by unfold cnth; omega)) q
    have hG2 := hG.on hr q2
    rw [nI_1, nI_1]
    generalize hA2 : u2 (u2 (u2 A1 31 c (nI v)) 33 v (nI (cnth on h v c + 1))) 32 v (uni on H h v c ||| H c) = A2
    have a30 : ∀ a j, ¬ (31 ≤ a ∧ a ≤ 33) → A2 a j = A a j := fun a j z => by rw [← hA2, u2_n1 (by omega), u2_n1 (by omega), u2_n1 (by omega)]; exact f1 a j z
    have a31 : ∀ j, j ≠ c → A2 31 j = A1 31 j := fun j z => by rw [← hA2, u2_n1 (by omega), u2_n1 (by omega), u2_n2 z]
    have a31c : A2 31 c = nI v := by rw [← hA2, u2_n1 (by omega), u2_n1 (by omega), u2_s]
    have a32 : ∀ u, u ≠ v → A2 32 u = A1 32 u := fun u z => by rw [← hA2, u2_n2 z, u2_n1 (by omega), u2_n1 (by omega)]
    have a32v : A2 32 v = uni on H h v c ||| H c := by rw [← hA2, u2_s]
    have a33 : ∀ u, u ≠ v → A2 33 u = A1 33 u := fun u z => by rw [← hA2, u2_n1 (by omega), u2_n2 z, u2_n1 (by omega)]
    have a33v : A2 33 v = nI (cnth on h v c + 1) := by rw [← hA2, u2_n1 (by omega), u2_s]
    have hX2 : FX on H (up1 h c v) (c + 1) A2 := by
      refine ⟨fun j hj => by rw [a30 30 j (by omega)]; exact hX.1 j hj, fun u hu => ?_, fun u hu => ?_⟩
      · rw [cnth_succ, up1_s, cnth_cong (h := h) (fun k hk _ => up1_n (by omega))]
        by_cases z : u = v
        · rw [z, a33v, if_pos ⟨oc, rfl⟩]
        · rw [a33 u z, if_neg (fun y => z y.2.symm), f4 u hu, hX.2.1 u hu, Nat.add_zero]
      · unfold uni
        rw [up1_s, uni_cong (h := h) (fun k hk => up1_n (by omega))]
        by_cases z : u = v
        · rw [z, a32v, if_pos ⟨oc, rfl⟩]
        · rw [a32 u z, if_neg (fun y => z y.2.symm), f3 u hu, hX.2.2 u hu]
    refine ih (up1 h c v) A2 _ hX2 hG2 (fun A3 g eg g1 g2 g3 => ⟨fun z => absurd z (by decide), fun _ => ⟨1, rfl, k1 A3 g ?_ (fun a j z => (g1 a j z).trans (a30 a j z)) (fun j hj oj hcj => ?_) (fun j hj => ?_)⟩⟩) (fun A3 eg g1 g2 g3 g4 => ⟨fun _ => ⟨hv, hv, hv, hv, ?_⟩, fun z => absurd rfl z⟩)
    · rw [e]
      conv => lhs; unfold fsto
      rw [eg]
    · rcases Nat.lt_or_ge c j with z | z
      · exact g2 j hj oj (by omega)
      · rw [show j = c by omega, g3 c (Or.inl (by omega)), a31c, (srch_some (by omega) eg).2.2 c (Or.inl (by omega)), up1_s]
    · have hjc : j ≠ c := fun z => by
        rcases hj with y | y
        · omega
        · rw [z, oc] at y; cases y
      rw [g3 j (hj.imp (fun y => by omega) id), a31 j hjc]
      exact f2 j hj
    · have e11 : nI (cnth on h v c + 1) - 1 = nI (cnth on h v c) := nI_p _
      rw [g4 v hv6, a33v, e11]
      rw [g3 v hv6, a32v, uni_back q2]
      refine next _ (fun a j z => by rw [u2_n1 (by omega), u2_n1 (by omega), g1 a j z]; exact a30 a j z) (fun j hj => ?_) (fun u hu => ?_) (fun u hu => ?_) eg
      · have hjc : j ≠ c := fun z => by
          rcases hj with y | y
          · omega
          · rw [z, oc] at y; cases y
        rw [u2_n1 (by decide), u2_n1 (by decide), g2 j (hj.imp (fun y => by omega) id), a31 j hjc]
        exact f2 j hj
      · by_cases z : u = v
        · rw [z, u2_s, hX.2.2 v hv6]
        · rw [u2_n2 z, u2_n1 (by decide), g3 u hu, a32 u z, f3 u hu]
      · by_cases z : u = v
        · rw [z, u2_n1 (by decide), u2_s, hX.2.1 v hv6]
        · rw [u2_n1 (by decide), u2_n2 z, g4 u hu, a33 u z, f4 u hu]
theorem fitX (hs3 : s ≤ 3) (hl : last < 6) (hon : ∀ c, c < 6 → (on c = true ↔ H c ≠ 0)) : ∀ (d c : Nat) (h : Nat → Nat) (A : MI) (P : Int32 → MI → MI → Prop), c + d = 6 → FX on H h c A → PG on H s h c → K1 on (srch on H s last d c h) c A P F → K0 on (srch on H s last d c h) c A P F → CM l mX6_fitFrom (d + 3) w nb [.ref 29, .int (nI c), .int (nI last), .int (nI s)] F A (qi P)
  | 0, c, h, A, P, hd, hX, hG, k1, k0 => by
    have : c = 6 := by omega
    subst this
    refine kX6_fitFrom (L' := 0) (by omega) ⟨fun q => absurd q (by decide), fun _ => ⟨1, rfl, k1 A h ?_ (fun _ _ _ => rfl) (fun j hj _ _ => by omega) (fun _ _ => rfl)⟩⟩
    unfold srch
    rw [if_pos hG.good]
  | d + 1, c, h, A, P, hd, hX, hG, k1, k0 => by
    have hc : c < 6 := by omega
    refine kX6_fitFrom (L' := d + 3) (by omega) ⟨fun _ => ⟨vp_in_nI hc (by decide), ?_⟩, fun q => absurd (nI_lt (b := 6) hc (by decide)) q⟩
    rw [nI_clamp (by omega), hX.1 c hc]
    refine ⟨fun q => ?_, fun q => ?_⟩
    · have oc := (hon c hc).mpr q
      refine fitX_v hs3 hl hd oc hX hG (fun h A P a1 a2 a3 a4 => fitX hs3 hl hon d (c + 1) h A P (by omega) a1 a2 a3 a4) k1 k0 (last + 1) 0 0 A (by omega) rfl (fun _ _ _ => rfl) (fun _ _ => rfl) (fun _ _ => rfl) (fun _ _ => rfl) ?_
      conv => lhs; unfold srch
      rw [if_pos oc]
    · have oc : on c = false := by
        cases z : on c
        · rfl
        · exact absurd q ((hon c hc).mp z)
      have e : srch on H s last (d + 1) c h = srch on H s last d (c + 1) h := by
        conv => lhs; unfold srch
        rw [if_neg (by rw [oc]; decide)]
      rw [e] at k1 k0
      rw [nI_1]
      refine fitX hs3 hl hon d (c + 1) h A _ (by omega) ⟨hX.1, fun v hv => ?_, fun v hv => ?_⟩ (hG.off oc) (fun A' g q1 q2 q3 q4 => ⟨Or.inr rfl, 1, rfl, k1 A' g q1 q2 (fun j hj oj hcj => q3 j hj oj ?_) (fun j hj => q4 j (hj.imp (fun y => by omega) id))⟩) (fun A' q1 q2 q3 q4 q5 => ⟨Or.inl rfl, 0, rfl, k0 A' q1 q2 (fun j hj => q3 j (hj.imp (fun y => by omega) id)) q4 q5⟩)
      · rw [cnth_succ, if_neg (by rw [oc]; simp), Nat.add_zero]; exact hX.2.1 v hv
      · unfold uni
        rw [if_neg (by rw [oc]; simp)]; exact hX.2.2 v hv
      · rcases Nat.lt_or_ge c j with z | z
        · exact z
        · rw [show j = c by omega, oc] at oj; cases oj
end FITX
