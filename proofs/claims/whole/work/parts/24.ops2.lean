section OPS2
variable {l : Launch} {w : Nat → Nat} {nb : Nat} {F A : MI}
theorem op_bar {x1 x2 : Int32} (hw : TW w) (hI : Inv w nb F A) : CM l mX7_bar 3 w nb [.ref 1, .int x1, .int x2] F A (qi fun r F A => CM l mX8_bar 3 w nb [.ref 122, .int x1, .int x2] F A (qi fun r' F A => r = r' ∧ Inv w nb F A)) := by
  obtain ⟨hn1, hn2, hn3, -⟩ := hI.2.1
  have bad : (¬ Bel x1 6 ∨ ¬ Bel x2 nb) → CM l mX8_bar 3 w nb [.ref 122, .int x1, .int x2] F A (qi fun r' F A => 0 = r' ∧ Inv w nb F A) := by
    intro hb
    refine kX8_bar (s_lies (a := 0) (b := 5) rfl rfl (by decide) (by decide) (fun c _ hc e => z1 ?_) (fun _ => z0 ⟨0, rfl, rfl, hI⟩))
    refine s_isBeast hn2 hn3 (fun i hi e2 => ?_) (fun _ => z0 ⟨0, rfl, rfl, hI⟩)
    rcases hb with q | q
    · exact absurd ⟨c, by omega, e⟩ q
    · exact absurd ⟨i, hi, e2⟩ q
  refine kX7_bar (s_below (n := 6) rfl (by decide) (fun c hc e => z1 ?_) (fun h => z0 ⟨0, rfl, bad (Or.inl h)⟩))
  refine s_beastAt hn1 hn3 (fun i hi e2 => ?_) (fun h => ⟨0, rfl, bad (Or.inr h)⟩)
  subst e
  subst e2
  have hv := vp_in_nI hc (N := 6) (by decide)
  refine ⟨hv, ?_⟩
  rw [nI_clamp (by omega)]
  have e4 := hI.2.2.2.1 c hc
  have go : ∀ r F1 A1, (bt (A 136 c) i = true → r = 0 ∧ F1 = F ∧ A1 = A) → (bt (A 136 c) i = false → r = 1 ∧ F1 = F ∧ A1 = u2 A 6 c ((A 6 c) ||| (1 <<< (nI i &&& 31)))) → CM l mX8_bar 3 w nb [.ref 122, .int (nI c), .int (nI i)] F1 A1 (qi fun r' F A => r = r' ∧ Inv w nb F A) := by
    intro r F1 A1 g1 g0
    have hn2' : F1 322 122 = nI nb := by
      cases hb : bt (A 136 c) i
      · rw [(g0 hb).2.1]; exact hn2
      · rw [(g1 hb).2.1]; exact hn2
    have hA1 : A1 136 c = A 136 c := by
      cases hb : bt (A 136 c) i
      · rw [(g0 hb).2.2, u2_n1 (by decide)]
      · rw [(g1 hb).2.2]
    refine kX8_bar (s_lies (a := 0) (b := 5) rfl rfl (by decide) (by decide) (fun c' _ hc' e => z1 ?_) (fun q => absurd ⟨c, by omega, by omega, rfl⟩ q))
    refine s_isBeast hn2' hn3 (fun i' hi' e2 => z1 ?_) (fun q => absurd ⟨i, hi, rfl⟩ q)
    refine ⟨hv, ?_⟩
    rw [nI_clamp (by omega), hA1]
    refine s_has (by omega) (fun hb => ?_) (fun hb => ?_)
    · obtain ⟨rfl, rfl, rfl⟩ := g1 hb
      exact z1 ⟨0, rfl, rfl, hI⟩
    · obtain ⟨rfl, rfl, rfl⟩ := g0 hb
      refine z0 ⟨hv, hv, 1, rfl, rfl, ?_⟩
      refine hI.exc hw (fun f a => a = 0) (fun a => a = 6 ∨ a = 136) (fun f a q => rfl) (fun a j q => (u2_n1 (by omega)).trans ((u2_n1 (by omega)).trans (rfl))) (Or.inl ⟨by omega, by omega, by omega, by omega⟩) (Or.inl ⟨by omega, by omega, fun k i => by omega, fun a _ _ => by omega, fun i => by omega⟩) (Or.inl ⟨by omega, by omega⟩) (Or.inr (?_)) (Or.inl ⟨fun k c _ _ _ => by omega, by omega, by omega⟩) (Or.inl ⟨⟨by omega, by omega, by omega⟩, fun d _ => ⟨by omega, by omega, by omega⟩, fun a _ _ => by omega⟩) (Or.inl ⟨fun c _ => by omega, by omega⟩) (Or.inl ⟨by omega, fun c d _ _ _ => by omega, by omega, by omega⟩) (Or.inl ⟨fun c _ => by omega, by omega, fun c _ => by omega, by omega, by omega⟩) (Or.inl (fun a _ _ => by omega))
      intro j hj
      by_cases e : j = c
      · subst e
        rw [u2_n1 (by decide), u2_s, u2_s, u2_n1 (by decide : (136 : Nat) ≠ 6), e4]
      · rw [u2_n1 (by decide), u2_n2 e, u2_n2 e, u2_n1 (by decide)]
        exact hI.2.2.2.1 j hj
  refine ⟨fun h => ⟨hv, hv, 1, rfl, go 1 _ _ (fun hb => ?_) (fun _ => ⟨rfl, rfl, rfl⟩)⟩, fun h => ⟨0, rfl, go 0 F A (fun _ => ⟨rfl, rfl, rfl⟩) (fun hb => ?_)⟩⟩
  · rw [bit_and (by omega), e4, hb] at h
    exact absurd h (by decide)
  · exact absurd ((bit_and (by omega)).mpr (by rw [e4]; exact hb)) h
theorem ix_ms {i m : Nat} : (3 * nI i) + nI m = nI (3 * i + m) := by rw [nI_lit 3, pk_mul, nI_add]
theorem op_measure {x1 x2 x3 : Int32} (hw : TW w) (hI : Inv w nb F A) : CM l mX7_measure 3 w nb [.ref 1, .int x1, .int x2, .int x3] F A (qi fun r F A => CM l mX8_measure 3 w nb [.ref 122, .int x1, .int x2, .int x3] F A (qi fun r' F A => r = r' ∧ Inv w nb F A)) := by
  obtain ⟨hn1, hn2, hn3, hB, hM, hZ⟩ := id hI.2.1
  have bad : (¬ Bel x1 nb ∨ ¬ Bel x2 3 ∨ ¬ Bel x3 100) → CM l mX8_measure 3 w nb [.ref 122, .int x1, .int x2, .int x3] F A (qi fun r' F A => 0 = r' ∧ Inv w nb F A) := by
    intro hb
    refine kX8_measure (s_isBeast hn2 hn3 (fun i hi e => z1 ?_) (fun _ => z0 ⟨0, rfl, rfl, hI⟩))
    refine s_lies (a := 0) (b := 2) rfl rfl (by decide) (by decide) (fun m _ hm e2 => z1 ?_) (fun _ => z0 ⟨0, rfl, rfl, hI⟩)
    refine s_lies (a := 0) (b := 99) rfl rfl (by decide) (by decide) (fun v _ hv e3 => ?_) (fun _ => n0 ⟨0, rfl, rfl, hI⟩)
    rcases hb with q | q | q
    · exact absurd ⟨i, hi, e⟩ q
    · exact absurd ⟨m, by omega, e2⟩ q
    · exact absurd ⟨v, by omega, e3⟩ q
  refine kX7_measure (s_beastAt hn1 hn3 (fun i hi e => ?_) (fun h => ⟨0, rfl, bad (Or.inl h)⟩))
  refine s_below (n := 3) rfl (by decide) (fun m hm e2 => z1 ?_) (fun h => z0 ⟨0, rfl, bad (Or.inr (Or.inl h))⟩)
  refine s_below (n := 100) rfl (by decide) (fun v hv e3 => n1 ?_) (fun h => n0 ⟨0, rfl, bad (Or.inr (Or.inr h))⟩)
  subst e
  subst e2
  subst e3
  refine ⟨vp_in_nI hm (by decide), 1, rfl, ?_⟩
  rw [nI_clamp (by omega)]
  refine kX8_measure (s_isBeast hn2 hn3 (fun i' hi' e => z1 ?_) (fun q => absurd ⟨i, hi, rfl⟩ q))
  refine s_lies (a := 0) (b := 2) rfl rfl (by decide) (by decide) (fun m' _ hm' e2 => z1 ?_) (fun q => absurd ⟨m, by omega, by omega, rfl⟩ q)
  refine s_lies (a := 0) (b := 99) rfl rfl (by decide) (by decide) (fun v' _ hv' e3 => n1 ?_) (fun q => absurd ⟨v, by omega, by omega, rfl⟩ q)
  rw [ix_ms, nI_clamp (by omega)]
  refine ⟨vp_in_nI (by omega) (by decide), 1, rfl, rfl, ?_⟩
  refine hI.exc hw (fun f a => a = 0) (fun a => a = 128 ∨ a = 148 + 2 * i) (fun f a q => rfl) (fun a j q => (u2_n1 (by omega)).trans ((u2_n1 (by omega)).trans (rfl))) (Or.inl ⟨by omega, by omega, by omega, by omega⟩) (Or.inr (⟨hn1, hn2, hn3, fun k hk => ?_, fun k hk j hj => ?_, fun j h1 h2 => ?_⟩)) (Or.inl ⟨by omega, by omega⟩) (Or.inl ⟨by omega, by omega⟩) (Or.inl ⟨fun k c _ _ _ => by omega, by omega, by omega⟩) (Or.inl ⟨⟨by omega, by omega, by omega⟩, fun d _ => ⟨by omega, by omega, by omega⟩, fun a _ _ => by omega⟩) (Or.inl ⟨fun c _ => by omega, by omega⟩) (Or.inl ⟨by omega, fun c d _ _ _ => by omega, by omega, by omega⟩) (Or.inl ⟨fun c _ => by omega, by omega, fun c _ => by omega, by omega, by omega⟩) (Or.inl (fun a _ _ => by omega))
  · obtain ⟨b, a, s, h, q⟩ := hB k hk
    refine ⟨b, a, s, h, ?_⟩
    unfold Bst at q ⊢
    rw [u2_n1 (by omega), u2_n1 (by omega), u2_n1 (by omega), u2_n1 (by omega), u2_n1 (by omega), u2_n1 (by omega), u2_n1 (by omega), u2_n1 (by omega)]
    exact q
  · by_cases e : k = i ∧ j = m
    · obtain ⟨rfl, rfl⟩ := e
      exact ⟨v, by omega, by rw [u2_n1 (by omega), u2_s], by rw [u2_s]⟩
    · obtain ⟨v2, g1, g2, g3⟩ := hM k hk j hj
      exact ⟨v2, g1, by rw [u2_n1 (by omega), u2_ne (by omega)]; exact g2, by rw [u2_n2 (by omega), u2_n1 (by omega)]; exact g3⟩
  · rw [u2_n2 (by omega), u2_n1 (by omega)]
    exact hZ j h1 h2
end OPS2
