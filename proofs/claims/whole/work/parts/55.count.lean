section COUNT
variable {l : Launch} {w : Nat → Nat} {nb : Nat} {F A F0 A0 : MI}
theorem op_count {x1 : Int32} (hw : TW w) (hI : Inv w nb F A) : CM l mX7_count 11 w nb [.ref 1, .int x1] F A (qi fun r F A => CM l mX8_count 3 w nb [.ref 122, .int x1] F A (qi fun r' F A => r = r' ∧ Inv w nb F A)) := by
  have h5 := hI.2.2.2.2.1
  have h8 := hI.2.2.2.2.2.2.2.1
  obtain ⟨⟨t, ht, t1, t2⟩, hT⟩ := id hI.1
  obtain ⟨hn1, hn2, hn3, -⟩ := hI.2.1
  obtain ⟨s, hs1, hs2, s1, s2⟩ := id hI.2.2.1
  have k10 := sub_in (x := x1) (a := 10) (by decide)
  have k20 := sub_in (x := x1) (a := 20) (by decide)
  -- M, no CLASS named
  have mm : ∀ (F A : MI) (r : Int32), (¬ ∃ c, c < 6 ∧ x1 - nI 10 = nI c) → (¬ ∃ c, c < 6 ∧ x1 - nI 20 = nI c) → ((¬ x1 = 0 → ((¬ x1 = 1 → ((¬ x1 = 2 → ((¬ x1 = 3 → (r = -1 ∧ Inv w nb F A)) ∧ (x1 = 3 → CM l mX8_lays 2 w nb [.ref 122] F A (qi fun r' F A => r = r' ∧ Inv w nb F A)))) ∧ (x1 = 2 → (r = F 321 122 ∧ Inv w nb F A)))) ∧ (x1 = 1 → (r = F 323 122 ∧ Inv w nb F A)))) ∧ (x1 = 0 → (r = F 322 122 ∧ Inv w nb F A))) → CM l mX8_count 3 w nb [.ref 122, .int x1] F A (qi fun r' F A => r = r' ∧ Inv w nb F A) := by
    intro F A r n10 n20 h
    refine kX8_count (s_isClass (fun c hc e => absurd ⟨c, hc, e⟩ n10) (fun _ => z0 (s_isClass (fun c hc e => absurd ⟨c, hc, e⟩ n20) (fun _ => z0 ?_))))
    refine ⟨fun q0 => ⟨fun q1 => ⟨fun q2 => ⟨fun q3 => ⟨_, rfl, ((((h.1 q0).1 q1).1 q2).1 q3)⟩, fun q3 => ((((h.1 q0).1 q1).1 q2).2 q3).monoi (fun x F A q => ⟨x, rfl, q⟩)⟩, fun q2 => ⟨_, rfl, ((h.1 q0).1 q1).2 q2⟩⟩, fun q1 => ⟨_, rfl, (h.1 q0).2 q1⟩⟩, fun q0 => ⟨_, rfl, h.2 q0⟩⟩
  have go50 : (¬ ∃ c, c < 6 ∧ x1 - nI 10 = nI c) → (¬ ∃ c, c < 6 ∧ x1 - nI 20 = nI c) → ZM l mX7_count 11 w nb (qi fun r F A => CM l mX8_count 3 w nb [.ref 122, .int x1] F A (qi fun r' F A => r = r' ∧ Inv w nb F A)) 50 [(0, .ref 1), (1, .int x1)] [] F A := by
    intro n10 n20
    refine vX7_count_50 ⟨fun e => ⟨_, rfl, mm _ _ _ n10 n20 ?_⟩, fun e => ⟨_, rfl, mm _ _ _ n10 n20 ?_⟩, fun e => kX5_length ⟨_, rfl, _, rfl, mm _ _ _ n10 n20 ?_⟩, fun e => op_count3 hw hI _ (fun r F1 A1 q hI1 => ⟨r, rfl, mm _ _ _ n10 n20 ?_⟩), fun e0 e1 e2 e3 => ⟨_, rfl, mm _ _ _ n10 n20 ?_⟩⟩
    · exact ⟨fun q => absurd e q, fun _ => ⟨hn1.trans hn2.symm, hI⟩⟩
    · exact ⟨fun _ => ⟨fun q => absurd e q, fun _ => ⟨s1.trans s2.symm, hI⟩⟩, fun q => absurd (e.symm.trans q) (by decide)⟩
    · exact ⟨fun _ => ⟨fun _ => ⟨fun q => absurd e q, fun _ => ⟨t1.trans t2.symm, hI⟩⟩, fun q => absurd (e.symm.trans q) (by decide)⟩, fun q => absurd (e.symm.trans q) (by decide)⟩
    · exact ⟨fun _ => ⟨fun _ => ⟨fun _ => ⟨fun z => absurd e z, fun _ => q⟩, fun q => absurd (e.symm.trans q) (by decide)⟩, fun q => absurd (e.symm.trans q) (by decide)⟩, fun q => absurd (e.symm.trans q) (by decide)⟩
    · exact ⟨fun _ => ⟨fun _ => ⟨fun _ => ⟨fun _ => ⟨rfl, hI⟩, fun z => absurd z e3⟩, fun z => absurd z e2⟩, fun z => absurd z e1⟩, fun z => absurd z e0⟩
  have go25 : (¬ ∃ c, c < 6 ∧ x1 - nI 10 = nI c) → ZM l mX7_count 11 w nb (qi fun r F A => CM l mX8_count 3 w nb [.ref 122, .int x1] F A (qi fun r' F A => r = r' ∧ Inv w nb F A)) 25 [(0, .ref 1), (1, .int x1)] [] F A := by
    intro n10
    refine vX7_count_25 ⟨fun q => go50 n10 (fun z => ?_), fun q => ⟨fun q2 => go50 n10 (fun z => ?_), fun q2 => ?_⟩⟩
    · have := k20.mpr z
      rw [i_le] at this
      rw [i_lt] at q
      exact absurd q (by have e : (20 : Int32).toInt = (nI 20).toInt := rfl; omega)
    · have := k20.mpr z
      rw [i_lt] at this
      rw [i_le] at q2
      exact absurd this.2 (by have e : (26 : Int32).toInt = (nI (20 + 6)).toInt := rfl; omega)
    · obtain ⟨c, hc, e⟩ := k20.mp ⟨fa_of_nlt q, fa_of_nle q2⟩
      have e' : x1 - 20 = nI c := e
      rw [e', nI_clamp (by omega)]
      refine ⟨vp_in_nI hc (by decide), kX4_countOrders hc (orders_loop hc h8 ⟨_, rfl, ?_⟩ 6 0 0 0 rfl rfl rfl)⟩
      refine kX8_count (s_isClass (fun c hc e => absurd ⟨c, hc, e⟩ n10) (fun _ => z0 (s_isClass (fun c' _ _ => z1 ?_) (fun h => absurd ⟨c, hc, e'⟩ h))))
      exact countsM_loop hc e' h8 ⟨rfl, hI⟩ 6 0 0 0 rfl rfl rfl
  refine kX7_count ⟨fun q => go25 (fun z => ?_), fun q => ⟨fun q2 => go25 (fun z => ?_), fun q2 => ?_⟩⟩
  · have := k10.mpr z
    rw [i_le] at this
    rw [i_lt] at q
    exact absurd q (by have e : (10 : Int32).toInt = (nI 10).toInt := rfl; omega)
  · have := k10.mpr z
    rw [i_lt] at this
    rw [i_le] at q2
    exact absurd this.2 (by have e : (16 : Int32).toInt = (nI (10 + 6)).toInt := rfl; omega)
  · obtain ⟨c, hc, e⟩ := k10.mp ⟨fa_of_nlt q, fa_of_nle q2⟩
    have e' : x1 - 10 = nI c := e
    have hv := vp_in_nI hc (N := 6) (by decide)
    rw [e', nI_clamp (by omega), (h5 c hc).2.2.1]
    refine ⟨hv, _, rfl, kX8_count (s_isClass (fun c' _ _ => z1 ?_) (fun h => absurd ⟨c, hc, e'⟩ h))⟩
    rw [e', nI_clamp (by omega)]
    exact ⟨hv, s_sizeOf (fun b hb => by have := (h5 c hc).2.2.2.2.1 b hb; omega) ⟨_, rfl, rfl, hI⟩⟩
end COUNT
