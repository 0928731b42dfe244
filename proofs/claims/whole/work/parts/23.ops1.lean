section OPS1
variable {l : Launch} {w : Nat → Nat} {nb : Nat} {F A : MI}
theorem nbel_lt {x : Int32} {n : Nat} (hn : n < 2 ^ 31) (h : ¬ Bel x n) (h2 : ¬ x < 0) (h3 : ¬ nI n ≤ x) : False := by
  rw [bel_iff hn] at h
  rw [i_lt] at h2
  rw [i_le, nI_toInt hn] at h3
  have e0 : (0 : Int32).toInt = 0 := rfl
  omega
theorem op_sand {x1 : Int32} (hw : TW w) (hI : Inv w nb F A) : CM l mX7_sand 1 w nb [.ref 1, .int x1] F A (qi fun r F A => CM l mX8_sand 2 w nb [.ref 122, .int x1] F A (qi fun r' F A => r = r' ∧ Inv w nb F A)) := by
  have key : ∀ r F A, (¬ ∃ j, 1 ≤ j ∧ j ≤ 3 ∧ x1 = nI j) → r = 0 → Inv w nb F A → CM l mX8_sand 2 w nb [.ref 122, .int x1] F A (qi fun r' F A => r = r' ∧ Inv w nb F A) := fun r F A hx hr hI =>
    kX8_sand (s_lies (a := 1) (b := 3) rfl rfl (by decide) (by decide) (fun j h1 h2 e => absurd ⟨j, h1, h2, e⟩ hx) (fun _ => n0 ⟨0, rfl, hr, hI⟩))
  refine kX7_sand ⟨fun h => ⟨0, rfl, key 0 F A ?_ rfl hI⟩, fun h => ⟨fun h2 => ⟨1, rfl, ?_⟩, fun h2 => ⟨0, rfl, key 0 F A ?_ rfl hI⟩⟩⟩
  · rintro ⟨j, h1, h2, rfl⟩
    exact absurd h (nI_nlt (a := j) (b := 1) h1 (by omega))
  · refine kX8_sand (s_lies (a := 1) (b := 3) rfl rfl (by decide) (by decide) (fun j h1 h3 e => n1 ⟨1, rfl, rfl, ?_⟩) (fun hx => absurd ?_ hx))
    · exact hI.exc hw (fun f a => (f = 289 ∧ a = 1) ∨ (f = 323 ∧ a = 122)) (fun a => a = 0) (fun f a q => (u2_ne (by omega)).trans ((u2_ne (by omega)).trans (rfl))) (fun a j q => rfl) (Or.inl ⟨by omega, by omega, by omega, by omega⟩) (Or.inl ⟨by omega, by omega, fun k i => by omega, fun a _ _ => by omega, fun i => by omega⟩) (Or.inr (⟨j, h1, h3, by rw [u2_n1 (by decide), u2_s]; exact e, by rw [u2_s]; exact e⟩)) (Or.inl ⟨by omega, by omega⟩) (Or.inl ⟨fun k c _ _ _ => by omega, by omega, by omega⟩) (Or.inl ⟨⟨by omega, by omega, by omega⟩, fun d _ => ⟨by omega, by omega, by omega⟩, fun a _ _ => by omega⟩) (Or.inl ⟨fun c _ => by omega, by omega⟩) (Or.inl ⟨by omega, fun c d _ _ _ => by omega, by omega, by omega⟩) (Or.inl ⟨fun c _ => by omega, by omega, fun c _ => by omega, by omega, by omega⟩) (Or.inl (fun a _ _ => by omega))
    · rw [i_lt] at h
      have a2 := i_le.mp h2
      have e1 : (1 : Int32).toInt = 1 := rfl
      have e3 : (3 : Int32).toInt = 3 := rfl
      obtain ⟨j, hj, e⟩ := (bel_iff (x := x1) (n := 4) (by decide)).mpr ⟨by omega, by omega⟩
      subst e
      have := nI_toInt (n := j) (by omega)
      exact ⟨j, by omega, by omega, rfl⟩
  · rintro ⟨j, h1, h3, rfl⟩
    exact absurd (nI_le (a := j) (b := 3) h3 (by decide)) h2
theorem ix_cut {c j : Nat} (hj : 1 ≤ j) : ((3 * nI c) + nI j) - 1 = nI (3 * c + (j - 1)) := by
  rw [nI_lit 3, pk_mul, nI_add, nI_lit 1, pk_sub (by omega)]
  congr 1; omega
theorem op_cut {x1 x2 x3 : Int32} (hw : TW w) (hI : Inv w nb F A) : CM l mX7_cut 3 w nb [.ref 1, .int x1, .int x2, .int x3] F A (qi fun r F A => CM l mX8_cut 3 w nb [.ref 122, .int x1, .int x2, .int x3] F A (qi fun r' F A => r = r' ∧ Inv w nb F A)) := by
  have bad : ∀ F A, Inv w nb F A → (¬ Bel x1 6 ∨ (¬ ∃ j, 1 ≤ j ∧ j ≤ 3 ∧ x2 = nI j) ∨ ¬ ∃ j, 0 ≤ j ∧ j ≤ 15 ∧ x3 = nI j) → CM l mX8_cut 3 w nb [.ref 122, .int x1, .int x2, .int x3] F A (qi fun r' F A => 0 = r' ∧ Inv w nb F A) := by
    intro F A hI hb
    refine kX8_cut (s_isClass (fun c hc e => z1 ?_) (fun _ => z0 ⟨0, rfl, rfl, hI⟩))
    refine s_lies (a := 1) (b := 3) rfl rfl (by decide) (by decide) (fun j h1 h2 e2 => z1 ?_) (fun _ => z0 ⟨0, rfl, rfl, hI⟩)
    refine s_lies (a := 0) (b := 15) rfl rfl (by decide) (by decide) (fun k h3 h4 e3 => ?_) (fun _ => n0 ⟨0, rfl, rfl, hI⟩)
    rcases hb with q | q | q
    · exact absurd ⟨c, hc, e⟩ q
    · exact absurd ⟨j, h1, h2, e2⟩ q
    · exact absurd ⟨k, h3, h4, e3⟩ q
  refine kX7_cut (s_classAt (fun c hc e => ⟨fun h => ⟨0, rfl, bad F A hI (Or.inr (Or.inl ?_))⟩, fun h => ⟨fun h2 => ⟨0, rfl, bad F A hI (Or.inr (Or.inl ?_))⟩, fun h2 => ?_⟩⟩) (fun h => ⟨0, rfl, bad F A hI (Or.inl h)⟩))
  · rintro ⟨j, h1, h2, rfl⟩
    exact absurd h (nI_nlt (a := j) (b := 1) h1 (by omega))
  · rintro ⟨j, h1, h3, rfl⟩
    exact absurd h2 (nI_nlt (a := 3) (b := j) h3 (by decide))
  · refine s_below (n := 16) rfl (by decide) (fun v hv e3 => n1 ?_) (fun h3 => n0 ⟨0, rfl, bad F A hI (Or.inr (Or.inr (fun ⟨k, _, q, e⟩ => h3 ⟨k, by omega, e⟩)))⟩)
    have e1 : (1 : Int32).toInt = 1 := rfl
    have e4 : (3 : Int32).toInt = 3 := rfl
    rw [i_lt] at h h2
    obtain ⟨j, hj, e2⟩ := (bel_iff (x := x2) (n := 4) (by decide)).mpr ⟨by omega, by omega⟩
    subst e2
    have ej := nI_toInt (n := j) (by omega)
    subst e
    subst e3
    have q1 : 1 ≤ j := by omega
    have es : nI j - 1 = nI (j - 1) := by rw [nI_lit 1, pk_sub q1]
    rw [es, nI_clamp (by omega)]
    refine ⟨vp_in_nI (by omega) (by decide), 1, rfl, ?_⟩
    refine kX8_cut (s_isClass (fun c' hc' e => z1 ?_) (fun q => absurd ⟨c, hc, rfl⟩ q))
    refine s_lies (a := 1) (b := 3) rfl rfl (by decide) (by decide) (fun j' h1 h2 e2 => z1 ?_) (fun q => absurd ⟨j, q1, by omega, rfl⟩ q)
    refine s_lies (a := 0) (b := 15) rfl rfl (by decide) (by decide) (fun k h3 h4 e3 => n1 ?_) (fun q => absurd ⟨v, by omega, by omega, rfl⟩ q)
    rw [ix_cut q1, nI_clamp (by omega)]
    refine ⟨vp_in_nI (by omega) (by decide), 1, rfl, rfl, ?_⟩
    refine hI.exc hw (fun f a => a = 0) (fun a => a = 139 ∨ a = 38 + 14 * c + 13) (fun f a q => rfl) (fun a j q => (u2_n1 (by omega)).trans ((u2_n1 (by omega)).trans (rfl))) (Or.inl ⟨by omega, by omega, by omega, by omega⟩) (Or.inl ⟨by omega, by omega, fun k i => by omega, fun a _ _ => by omega, fun i => by omega⟩) (Or.inl ⟨by omega, by omega⟩) (Or.inl ⟨by omega, by omega⟩) (Or.inl ⟨fun k c _ _ _ => by omega, by omega, by omega⟩) (Or.inl ⟨⟨by omega, by omega, by omega⟩, fun d _ => ⟨by omega, by omega, by omega⟩, fun a _ _ => by omega⟩) (Or.inr (?_)) (Or.inl ⟨by omega, fun c d _ _ _ => by omega, by omega, by omega⟩) (Or.inl ⟨fun c _ => by omega, by omega, fun c _ => by omega, by omega, by omega⟩) (Or.inl (fun a _ _ => by omega))
    intro c2 i2 hc2 hi2
    by_cases e : c2 = c ∧ i2 = j - 1
    · obtain ⟨rfl, rfl⟩ := e
      exact ⟨v, by omega, by rw [u2_n1 (by omega), u2_s], by rw [u2_s]⟩
    · obtain ⟨v2, g1, g2, g3⟩ := hI.2.2.2.2.2.2.1 c2 i2 hc2 hi2
      exact ⟨v2, g1, by rw [u2_n1 (by omega), u2_ne (by omega)]; exact g2, by rw [u2_n2 (by omega), u2_n1 (by omega)]; exact g3⟩
end OPS1
