section OPS4
variable {l : Launch} {w : Nat → Nat} {nb : Nat} {F A : MI}
theorem enterM_loop {c : Nat} {F A1 : MI} {P : Int32 → MI → MI → Prop} (hc : c < 6) (hP : ∀ A, (∀ a j, ¬ (a = 137 ∧ ∃ i, i < 6 ∧ j = 6 * i + c) → A a j = A1 a j) → (∀ i, i < 6 → A 137 (6 * i + c) = 0) → P 1 F A) : ∀ (d i : Nat) (x3 : Int32) (A : MI), i + d = 6 → x3 = nI i → (∀ a j, ¬ (a = 137 ∧ ∃ i, i < 6 ∧ j = 6 * i + c) → A a j = A1 a j) → (∀ i', i' < i → A 137 (6 * i' + c) = 0) → ZM l mX8_enter 4 w nb (qi P) 74 [(0, .ref 122), (1, .int (nI c)), (3, .int x3)] [] F A
  | 0, i, x3, A, hd, hx, h1, h2 => by
    subst hx
    have : i = 6 := by omega
    subst this
    exact vX8_enter_74 ⟨fun _ => ⟨1, rfl, hP A h1 h2⟩, fun h => absurd (Int32.le_refl _) h⟩
  | d + 1, i, x3, A, hd, hx, h1, h2 => by
    subst hx
    refine vX8_enter_74 ⟨fun h => absurd h (nI_ge (a := i) (b := 6) (by omega) (by decide)), fun _ => ?_⟩
    rw [ix_td, nI_clamp (by omega)]
    refine ⟨vp_in_nI (by omega) (by decide), enterM_loop hc hP d (i + 1) _ _ (by omega) (by rw [nI_1]) (fun a j q => (u2_ne (fun z => q ⟨z.1, i, by omega, z.2⟩)).trans (h1 a j q)) (fun i' q => ?_)⟩
    rcases Nat.lt_or_ge i' i with z | z
    · rw [u2_n2 (by omega)]; exact h2 i' z
    · rw [show i' = i by omega, u2_s]
theorem op_enter {x1 x2 : Int32} (hw : TW w) (hI : Inv w nb F A) : CM l mX7_enter 5 w nb [.ref 1, .int x1, .int x2] F A (qi fun r F A => CM l mX8_enter 4 w nb [.ref 122, .int x1, .int x2] F A (qi fun r' F A => r = r' ∧ Inv w nb F A)) := by
  obtain ⟨hn1, hn2, hn3, -⟩ := hI.2.1
  have h5 := hI.2.2.2.2.1
  have h8 := hI.2.2.2.2.2.2.2.1
  -- M refuses
  have bad : (¬ Bel x1 6 ∨ ¬ Bel x2 nb ∨ ∃ c i b a s hd ms, c < 6 ∧ i < nb ∧ x1 = nI c ∧ x2 = nI i ∧ BstM F A i b a s hd ms ∧ (¬ letX F A (w c) b a ms ∨ bt (A 134 c ||| A 135 c) i = true ∨ pcn (A 134 c) = 8)) → CM l mX8_enter 4 w nb [.ref 122, .int x1, .int x2] F A (qi fun r' F A => 0 = r' ∧ Inv w nb F A) := by
    intro hb
    refine kX8_enter (s_isClass (fun c hc e => z1 ?_) (fun _ => z0 ⟨0, rfl, rfl, hI⟩))
    refine s_isBeast hn2 hn3 (fun i hi e2 => z1 ?_) (fun _ => z0 ⟨0, rfl, rfl, hI⟩)
    subst e
    subst e2
    have hv := vp_in_nI hc (N := 6) (by decide)
    refine ⟨hv, hv, ?_⟩
    rw [nI_clamp (by omega)]
    refine s_has (by omega) (fun q => n1 ⟨0, rfl, rfl, hI⟩) (fun q => n0 ?_)
    obtain ⟨b, a, s, hd, ms, hB⟩ := hI.2.1.beast hi
    refine s_isLet hI hc hi hB (fun q2 => z1 ⟨hv, ?_⟩) (fun _ => z0 ⟨0, rfl, rfl, hI⟩)
    refine s_sizeOf (fun b hb => by have := (h5 c hc).2.2.2.2.1 b hb; omega) ?_
    rcases hb with z | z | ⟨c', i', b', a', s', hd', ms', q3, q4, q5, q6, q7, q8⟩
    · exact absurd ⟨c, hc, rfl⟩ z
    · exact absurd ⟨i, hi, rfl⟩ z
    · have ec := (nI_eq (by omega) (by omega)).mp q5
      have ei := (nI_eq (by omega) (by omega)).mp q6
      subst ec
      subst ei
      have hlet : letX F A (w c) b' a' ms' := by
        have e1 : b = b' := (nI_eq (by have := hB.1.1; omega) (by have := q7.1.1; omega)).mp (hB.1.2.2.2.2.1.symm.trans q7.1.2.2.2.2.1)
        have e2 : a = a' := (nI_eq (by have := hB.1.2.1; omega) (by have := q7.1.2.1; omega)).mp (hB.1.2.2.2.2.2.2.1.symm.trans q7.1.2.2.2.2.2.2.1)
        subst e1
        subst e2
        refine ⟨q2.1, q2.2.1, q2.2.2.1, fun m hm => ?_⟩
        have := q2.2.2.2 m hm
        rw [← (hB.2.2 m hm).1, (q7.2.2 m hm).1] at this
        exact this
      rcases q8 with z | z | z
      · exact absurd hlet z
      · rw [z] at q; cases q
      · rw [z]
        exact ⟨fun h => absurd rfl h, fun _ => ⟨0, rfl, rfl, hI⟩⟩
  refine kX7_enter (s_lets hw hI (fun hb => ⟨fun h => absurd h (by decide), fun _ => ⟨0, rfl, bad ?_⟩⟩) (fun c i b a s hd ms hc hi e e2 hB q => ⟨fun _ => ?_, fun h => absurd rfl h⟩) (fun c i b a s hd ms hc hi e e2 hB q => ⟨fun h => absurd h (by decide), fun _ => ⟨0, rfl, bad (Or.inr (Or.inr ⟨c, i, b, a, s, hd, ms, hc, hi, e, e2, hB, Or.inl q⟩))⟩⟩))
  · rcases hb with z | z
    · exact Or.inl z
    · exact Or.inr (Or.inl z)
  have bad2 := fun z => bad (Or.inr (Or.inr ⟨c, i, b, a, s, hd, ms, hc, hi, e, e2, hB, z⟩))
  subst e
  subst e2
  obtain ⟨g0, g1, g2, g3, g4, g5⟩ := h5 c hc
  refine ⟨vp_in_nI hc (by decide), ?_⟩
  rw [nI_clamp (by omega)]
  refine kX4_canTake hc ?_
  rw [g0, g1, g2]
  have h20 : i < 20 := by omega
  refine ⟨fun h => ⟨0, rfl, n0 ⟨0, rfl, bad2 (Or.inr (Or.inr ?_))⟩⟩, fun h => ⟨fun h2 => ⟨0, rfl, n0 ⟨0, rfl, bad2 (Or.inr (Or.inl ?_))⟩⟩, fun h2 => ⟨1, rfl, n1 (kX4_take hc ?_)⟩⟩⟩
  · rcases Nat.lt_or_ge (pcn (A 134 c)) 8 with z | z
    · exact absurd h (nI_ge z (by decide))
    · omega
  · cases z : bt (A 134 c ||| A 135 c) i
    · exact absurd ((bit_and (by omega)).mpr z) h2
    · rfl
  -- X takes it
  have hlt : pcn (A 134 c) < 8 := by
    rcases Nat.lt_or_ge (pcn (A 134 c)) 8 with z | z
    · exact z
    · exact absurd (nI_le (a := 8) z (by omega)) h
  rw [bit_and (by omega), b_or, Bool.or_eq_false_iff] at h2
  rw [g0, g2]
  refine s_fill (n := 6) (by decide) (fun T G B hY => ⟨latc hY hc 11 (by decide), llnc hY hc 11 (by decide)⟩) (fun A1 k1 k2 => ?_)
  generalize he : A 134 c ||| (1 <<< (nI i &&& 31)) = e'
  have hbt : ∀ k, bt e' k = (bt (A 134 c) k || decide (k = i)) := fun k => by rw [← he, bit_or (by omega)]
  have hp' : pcn e' = pcn (A 134 c) + 1 := by rw [← he]; exact pcn_add (by omega) h2.1
  have hb' : ∀ b, bt e' b = true → b < nb := by
    intro b hb
    rw [hbt, Bool.or_eq_true, decide_eq_true_eq] at hb
    rcases hb with z | z
    · exact g4 b z
    · omega
  have hO : OX A1 c e' := fun j hj => ⟨0, by decide, k2 j hj, fun z => absurd z (Nat.lt_irrefl 0)⟩
  have h10 : I10 A1 := hI.2.2.2.2.2.2.2.2.2.cong (fun a j _ _ => k1 a j (by omega))
  refine ⟨rfl, s_join (e := e') hc (by rw [u2_n1 (by decide), u2_s]) (fun b hb => by have := hb' b hb; omega) (by omega) hO h10 (fun F5 A5 m1 m2 m3 m4 m5 => ⟨1, rfl, ?_⟩)⟩
  have mA : ∀ a j, ¬ ((8 ≤ a ∧ a ≤ 28) ∨ a = 38 + 14 * c + 12 ∨ a = 38 + 14 * c + 11) → A5 a j = A a j := fun a j z => (m2 a j (by omega)).trans (k1 a j (by omega))
  have mF : ∀ f a, ¬ ((f = 82 ∧ a = 7) ∨ (a = 38 + 14 * c ∧ (f = 160 ∨ f = 161 ∨ f = 167))) → F5 f a = F f a := fun f a z => (m1 f a (by omega)).trans ((u2_ne (by omega)).trans (u2_ne (by omega)))
  have I2' : I2 nb F5 A5 := hI.2.1.cong (mF _ _ (by omega)) (mF _ _ (by omega)) (fun k i => mF _ _ (by omega)) (fun a j _ _ => mA _ _ (by omega)) (fun i j => mA _ _ (by omega))
  have I6' : I6 w F5 A5 := hI.2.2.2.2.2.1.cong (fun d hd => ?_) (fun a j _ _ => mA _ _ (by omega)) (fun d j hd => ?_) (fun d j hd => ?_)
  rotate_left
  · rcases hw.1 d (by omega) with z | ⟨z, z1, z2⟩ <;> exact mF _ _ (by omega)
  · rcases hw.1 d (by omega) with z | ⟨z, z1, z2⟩ <;> exact mA _ _ (by omega)
  · rcases hw.1 d (by omega) with z | ⟨z, z1, z2⟩ <;> exact mA _ _ (by omega)
  have hB' : BstM F5 A5 i b a s hd ms := by
    refine ⟨?_, hB.2.1, fun m hm => ?_⟩
    · have := hB.1
      unfold Bst at this ⊢
      rw [mF _ _ (by omega), mF _ _ (by omega), mF _ _ (by omega), mF _ _ (by omega), mA _ _ (by omega), mA _ _ (by omega), mA _ _ (by omega), mA _ _ (by omega)]
      exact this
    · rw [mA _ _ (by omega), mA _ _ (by omega)]; exact hB.2.2 m hm
  have hl' : letX F5 A5 (w c) b a ms := by
    have hm := (hI.2.2.2.2.2.1 c hc).2.2 b a ms hB.1.1 hB.1.2.1 hB.2.1
    have hm' := (I6' c hc).2.2 b a ms hB.1.1 hB.1.2.1 hB.2.1
    refine hm'.mpr ?_
    have z := hm.mp q
    unfold letM at z ⊢
    rw [mA 129 c (by omega)]
    intro k hk
    rw [mA 130 _ (by omega), mA 131 _ (by omega)]
    exact z k hk
  have hv := vp_in_nI hc (N := 6) (by decide)
  refine kX8_enter (s_isClass (fun c' _ _ => z1 ?_) (fun q => absurd ⟨c, hc, rfl⟩ q))
  refine s_isBeast I2'.2.1 hn3 (fun i' _ _ => z1 ?_) (fun q => absurd ⟨i, hi, rfl⟩ q)
  refine ⟨hv, hv, ?_⟩
  rw [nI_clamp (by omega), mA 134 c (by omega), mA 135 c (by omega)]
  refine s_has (by omega) (fun q => ?_) (fun q => n0 ?_)
  · rw [b_or, h2.1, h2.2] at q; cases q
  refine s_isLet' hn3 I6' hc hi hB' (fun _ => z1 ⟨hv, ?_⟩) (fun q => absurd hl' q)
  rw [mA 134 c (by omega)]
  refine s_sizeOf (fun b hb => by have := g4 b hb; omega) ⟨fun _ => ⟨hv, hv, ?_⟩, fun h => ?_⟩
  rotate_left
  · have := (nI_eq (a := pcn (A 134 c)) (b := 8) (by omega) (by decide)).mp h; omega
  rw [mA 134 c (by omega), he]
  refine enterM_loop hc (fun A6 r1 r2 => ⟨rfl, ?_⟩) 6 0 0 _ rfl rfl (fun _ _ _ => rfl) (fun i q => absurd q (Nat.not_lt_zero i))
  have fA : ∀ a j, ¬ (a = 134 ∨ a = 137) → A6 a j = A5 a j := fun a j z => (r1 a j (by omega)).trans (u2_n1 (by omega))
  have f134 : ∀ d, A6 134 d = if d = c then e' else A 134 d := fun d => by
    rw [r1 134 d (by omega)]
    by_cases z : d = c
    · rw [if_pos z, z, u2_s]
    · rw [if_neg z, u2_n2 z, mA 134 d (by omega)]
  have f137 : ∀ j d, d < 6 → d ≠ c → A6 137 (6 * j + d) = A 137 (6 * j + d) := fun j d hd z => by
    rw [r1 137 _ (fun ⟨_, k, k1, k2⟩ => z (by omega)), u2_n1 (by decide), mA 137 _ (by omega)]
  have new8 : I8 A6 := by
    intro d j hd hj
    by_cases z : d = c
    · subst z
      refine ⟨0, by decide, ?_, r2 j hj, fun q => absurd q (Nat.lt_irrefl 0), fun k hk => ?_⟩
      · rw [fA _ _ (by omega), m2 _ _ (by omega)]; exact k2 j hj
      · rw [fA _ _ (by omega), mA _ _ (by omega), fA _ _ (by omega), mA _ _ (by omega)]
        obtain ⟨t, -, -, -, -, q⟩ := h8 d j hd hj
        exact q k hk
    · refine I8_loc h8 hd hj (by rw [f134, if_neg z]) ?_ (fun k hk => ?_) (f137 j d hd z) (fun k hk => ?_)
      · rw [fA _ _ (by omega), mA _ _ (by omega)]
      · rw [fA _ _ (by omega), mA _ _ (by omega)]
      · rw [fA _ _ (by omega), mA _ _ (by omega)]
  refine hI.exc hw (fun f a => (f = 82 ∧ a = 7) ∨ (a = 38 + 14 * c ∧ (f = 160 ∨ f = 161 ∨ f = 167))) (fun a => (8 ≤ a ∧ a ≤ 28) ∨ a = 38 + 14 * c + 12 ∨ a = 38 + 14 * c + 11 ∨ a = 134 ∨ a = 137) (fun f a q => mF f a q) (fun a j q => (fA a j (by omega)).trans (mA a j (by omega))) (Or.inl ⟨by omega, by omega, by omega, by omega⟩) (Or.inl ⟨by omega, by omega, fun k i => by omega, fun a _ _ => by omega, fun i => by omega⟩) (Or.inl ⟨by omega, by omega⟩) (Or.inl ⟨by omega, by omega⟩) (Or.inr (fun d hd => ?_)) (Or.inl ⟨⟨by omega, by omega, by omega⟩, fun d _ => ⟨by omega, by omega, by omega⟩, fun a _ _ => by omega⟩) (Or.inl ⟨fun c _ => by omega, by omega⟩) (Or.inr (new8)) (Or.inr (fun d hd => ?_)) (Or.inr (m3.cong (fun a j _ _ => fA a j (by omega))))
  · rw [f134, fA 135 d (by omega), mA 135 d (by omega)]
    by_cases z : d = c
    · subst z
      rw [if_pos rfl, m1 160 _ (by omega), m1 161 _ (by omega), m1 162 _ (by omega), u2_n1 (by decide), u2_s, u2_s, u2_n1 (by decide), u2_n1 (by decide), nI_1, hp']
      exact ⟨rfl, g1, rfl, by omega, hb', g5⟩
    · rw [if_neg z, mF 160 _ (by omega), mF 161 _ (by omega), mF 162 _ (by omega)]
      exact h5 d hd
  · by_cases z : d = c
    · subst z
      refine joined_of (A1 := A1) hd new8 (by rw [f134, if_pos rfl]) ⟨fun j hj => ?_, fun j k hj hk => ?_⟩ m4 (fun k hk => ?_)
      · rw [fA _ _ (by omega), m2 _ _ (by omega)]
      · rw [fA _ _ (by omega), m2 _ _ (by omega)]
      · rw [fA _ _ (by omega)]; exact m5 k hk
    · have sm : SameM A A6 d := ⟨by rw [f134, if_neg z], fun j hj => f137 j d hd z, fun j k hj hk => by rw [fA _ _ (by omega), mA _ _ (by omega)]⟩
      rw [fwM_loc sm, sm.1, mF 167 _ (by omega)]
      refine ⟨(hI.2.2.2.2.2.2.2.2.1 d hd).1, fun k hk => ?_⟩
      rw [rowM_loc sm, fA _ _ (by omega), mA _ _ (by omega)]
      exact (hI.2.2.2.2.2.2.2.2.1 d hd).2 k hk
end OPS4
