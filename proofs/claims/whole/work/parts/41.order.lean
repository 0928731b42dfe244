section ORDER2
variable {l : Launch} {w : Nat → Nat} {nb : Nat} {F A : MI}
theorem s_has5 {n t : Nat} {P : Int32 → MI → MI → Prop} (hF : F 201 2 = nI t) (ht : t ≤ 80) (hn : n < 2 ^ 31) (h1 : n ≤ t → P 1 F A) (h0 : t < n → P 0 F A) : CM l mX5_has 1 w nb [.ref 2, .int (nI n)] F A (qi P) := by
  refine kX5_has ?_
  rw [hF]
  refine ⟨fun h => absurd h (nI_pos hn), fun _ => ⟨fun h => ⟨0, rfl, h0 ?_⟩, fun h => ⟨1, rfl, h1 ?_⟩⟩⟩
  · have := i_lt.mp h
    rw [nI_toInt (by omega), nI_toInt hn] at this
    omega
  · rcases Nat.lt_or_ge t n with z | z
    · exact absurd (nI_lt z hn) h
    · exact z
theorem op_order {x1 x2 : Int32} (hw : TW w) (hI : Inv w nb F A) : CM l mX7_order 4 w nb [.ref 1, .int x1, .int x2] F A (qi fun r F A => CM l mX8_order 3 w nb [.ref 122, .int x1, .int x2] F A (qi fun r' F A => r = r' ∧ Inv w nb F A)) := by
  obtain ⟨hn1, hn2, hn3, -⟩ := hI.2.1
  have h5 := hI.2.2.2.2.1
  have h8 := hI.2.2.2.2.2.2.2.1
  obtain ⟨⟨t, ht, t1, t2⟩, hT⟩ := id hI.1
  have big : ∀ c, c < 6 → ∀ b, bt (A 134 c) b = true → b < 20 := fun c hc b hb => by have := (h5 c hc).2.2.2.2.1 b hb; omega
  have bad : (¬ Bel x1 6 ∨ ¬ Bel x2 6 ∨ ∃ c, c < 6 ∧ x2 = nI c ∧ (pcn (A 134 c) = 0 ∨ t < pcn (A 134 c))) → CM l mX8_order 3 w nb [.ref 122, .int x1, .int x2] F A (qi fun r' F A => 0 = r' ∧ Inv w nb F A) := by
    intro hb
    refine kX8_order (s_lies (a := 0) (b := 5) rfl rfl (by decide) (by decide) (fun j _ hj e1 => z1 ?_) (fun _ => z0 ⟨0, rfl, rfl, hI⟩))
    refine s_isClass (fun c hc e => n1 ?_) (fun _ => n0 ⟨0, rfl, rfl, hI⟩)
    subst e
    refine ⟨vp_in_nI hc (by decide), ?_⟩
    rw [nI_clamp (by omega)]
    refine s_sizeOf (big c hc) ⟨fun _ => ⟨0, rfl, rfl, hI⟩, fun hz => ?_⟩
    rw [t2]
    refine ⟨fun h => ?_, fun _ => ⟨0, rfl, rfl, hI⟩⟩
    have h8c := (h5 c hc).2.2.2.1
    rcases hb with z | z | ⟨c', hc', ec, z⟩
    · exact absurd ⟨j, by omega, e1⟩ z
    · exact absurd ⟨c, hc, rfl⟩ z
    · have := (nI_eq (by omega) (by omega)).mp ec
      subst this
      rcases z with z | z
      · rw [z] at hz; exact absurd rfl hz
      · exact absurd h (nI_ge z (by omega))
  have bad2 : ∀ j c, j < 6 → c < 6 → x1 = nI j → x2 = nI c → pcn (A 134 c) ≠ 0 → pcn (A 134 c) ≤ t → (¬ (A 136 j &&& A 134 c) = 0 ∨ ((A 136 j &&& A 134 c) = 0 ∧ ¬ RowOf (A 3) (A 134 c) (pcn (A 134 c)))) → CM l mX8_order 3 w nb [.ref 122, .int x1, .int x2] (Clr F) A (qi fun r' F A => 0 = r' ∧ Inv w nb F A) := by
    intro j c hj hc e1 e2 q1 q2 hb
    subst e1
    subst e2
    have h8c := (h5 c hc).2.2.2.1
    refine kX8_order (s_lies (a := 0) (b := 5) rfl rfl (by decide) (by decide) (fun j' _ _ _ => z1 ?_) (fun h => absurd ⟨j, by omega, by omega, rfl⟩ h))
    refine s_isClass (fun c' _ _ => n1 ?_) (fun h => absurd ⟨c, hc, rfl⟩ h)
    have hv := vp_in_nI hc (N := 6) (by decide)
    have hvj := vp_in_nI hj (N := 6) (by decide)
    refine ⟨hv, ?_⟩
    rw [nI_clamp (by omega), nI_clamp (by omega)]
    refine s_sizeOf (big c hc) ⟨fun h => absurd ((nI_eq (a := pcn (A 134 c)) (b := 0) (by omega) (by omega)).mp h) q1, fun _ => ⟨fun _ => ⟨hvj, hv, ?_⟩, fun h => ?_⟩⟩
    · rcases hb with z | ⟨z, z2⟩
      · exact ⟨fun _ => ⟨0, rfl, rfl, hI.clr hw⟩, fun h => absurd h z⟩
      · exact ⟨fun h => absurd z h, fun _ => ⟨hv, s_isRow (big c hc) (by omega) hT (fun y => absurd y z2) (fun _ => n0 ⟨0, rfl, rfl, hI.clr hw⟩)⟩⟩
    · rw [Clr_ne (by omega), t2] at h
      exact absurd (nI_le q2 (by omega)) h
  refine kX7_order (s_classAt (fun c hc e => ?_) (fun h => s_below (n := 6) rfl (by decide) (fun j _ _ => z1 ⟨0, rfl, bad (Or.inr (Or.inl h))⟩) (fun _ => z0 ⟨0, rfl, bad (Or.inr (Or.inl h))⟩)))
  refine s_below (n := 6) rfl (by decide) (fun j hj e1 => z1 ?_) (fun h => z0 ⟨0, rfl, bad (Or.inl h)⟩)
  obtain ⟨g0, g1, g2, g3, g4, g5⟩ := h5 c hc
  rw [g2]
  refine ⟨fun h => ⟨0, rfl, bad (Or.inr (Or.inr ⟨c, hc, e, Or.inl ((nI_eq (b := 0) (by omega) (by omega)).mp h)⟩))⟩, fun h => ?_⟩
  have hz : pcn (A 134 c) ≠ 0 := fun z => h (by rw [z]; rfl)
  refine s_has5 t1 ht (by omega) (fun hle => n1 ?_) (fun z => n0 ⟨0, rfl, bad (Or.inr (Or.inr ⟨c, hc, e, Or.inr z⟩))⟩)
  have B2 := bad2 j c hj hc e1 e hz hle
  subst e1
  subst e
  refine ⟨vp_in_nI hj (by decide), ?_⟩
  rw [nI_clamp (by omega), g0, hI.2.2.2.1 j hj]
  have no : ((¬ (A 136 j &&& A 134 c) = 0 ∨ ((A 136 j &&& A 134 c) = 0 ∧ ¬ RowOf (A 3) (A 134 c) (pcn (A 134 c))))) → ZM l mX7_order 4 w nb (qi fun r F A => CM l mX8_order 3 w nb [.ref 122, .int (nI j), .int (nI c)] F A (qi fun r' F A => r = r' ∧ Inv w nb F A)) 74 [(0, .ref 1), (1, .int (nI j)), (3, .ref (38 + 14 * c))] [] F A := fun z => vX7_order_74 hc (vX7_order_75 hc (z0 (vX7_order_99 hc (s_clear ⟨Or.inl rfl, 0, rfl, B2 z⟩))))
  refine ⟨fun z => no (Or.inl z), fun hbar => s_names t1 ht hle (big c hc) (fun hR => z1 ?_) (fun z => z0 (no (Or.inr ⟨hbar, z⟩)))⟩
  -- the ORDER is told
  refine vX7_order_75 hc (z1 (kX4_keepOrder hc ?_))
  refine keep_loop (A0 := A) hc hj (n := pcn (A 134 c)) (by omega) g2 t1 ht hle (fun A1 k1 k2 k3 => ?_) (pcn (A 134 c)) 0 0 A (by omega) rfl (fun _ _ _ => rfl) (fun k hk => absurd hk (Nat.not_lt_zero k))
  have hOld : OX A c (A 134 c) := OX_of h8 hc (fun b hb => hb)
  generalize hn : pcn (A 134 c) = n at *
  have hO : OX A1 c (A 134 c) := by
    intro j' hj'
    by_cases z : j' = j
    · rw [z]
      refine ⟨n, g3, k3, fun _ => ⟨fun k => (A 3 k).toNatClampNeg, fun k hk => ?_, fun i k hik hk => ?_, fun b hb => ?_⟩⟩
      · obtain ⟨v, q1, q2, -⟩ := hR k hk
        have ev : (A 3 k).toNatClampNeg = v := by rw [q2, nI_clamp (by omega)]
        show (A 3 k).toNatClampNeg < 20 ∧ A1 (38 + 14 * c + 5 + j) k = nI (A 3 k).toNatClampNeg
        rw [k2 k hk, ev]
        exact ⟨q1, q2⟩
      · obtain ⟨v, q1, q2, -⟩ := hR i (by omega)
        obtain ⟨u, p1, p2, -, p4⟩ := hR k hk
        show (A 3 i).toNatClampNeg ≠ (A 3 k).toNatClampNeg
        rw [q2, p2, nI_clamp (by omega), nI_clamp (by omega)]
        intro y
        exact p4 i hik (by rw [q2, y])
      · rw [← hn] at hR
        obtain ⟨k, hk, ek⟩ := hR.all (big c hc) hb
        exact ⟨k, by omega, by show (A 3 k).toNatClampNeg = b; rw [ek, nI_clamp (by have := big c hc b hb; omega)]⟩
    · obtain ⟨t', q1, q2, q3⟩ := hOld j' hj'
      refine ⟨t', q1, by rw [k1 _ _ (by omega)]; exact q2, fun hp => ?_⟩
      obtain ⟨f, f1, f2, f3⟩ := q3 hp
      exact ⟨f, fun k hk => ⟨(f1 k hk).1, by rw [k1 _ _ (by omega)]; exact (f1 k hk).2⟩, f2, f3⟩
  have h10 : I10 A1 := hI.2.2.2.2.2.2.2.2.2.cong (fun a k _ _ => k1 a k (by omega))
  refine s_join (e := A 134 c) hc g0 (big c hc) (by omega) hO h10 (fun F5 A5 m1 m2 m3 m4 m5 => ?_)
  rw [hn] at m4 m5
  refine vX7_order_99 hc (s_clear ⟨Or.inr rfl, 1, rfl, ?_⟩)
  have mA : ∀ a k, ¬ ((8 ≤ a ∧ a ≤ 28) ∨ a = 38 + 14 * c + 12 ∨ (a = 38 + 14 * c + 5 + j ∧ k < n) ∨ (a = 38 + 14 * c + 11 ∧ k = j)) → A5 a k = A a k := fun a k z => (m2 a k (by omega)).trans (k1 a k (by omega))
  have mF : ∀ f a, ¬ ((f = 82 ∧ a = 7) ∨ (a = 38 + 14 * c ∧ f = 167) ∨ (a = 2 ∧ (f = 201 ∨ f = 202 ∨ f = 203))) → Clr F5 f a = F f a := fun f a z => (Clr_ne (by omega)).trans (m1 f a (by omega))
  have hv := vp_in_nI hc (N := 6) (by decide)
  have hvj := vp_in_nI hj (N := 6) (by decide)
  refine kX8_order (s_lies (a := 0) (b := 5) rfl rfl (by decide) (by decide) (fun j' _ _ _ => z1 ?_) (fun h => absurd ⟨j, by omega, by omega, rfl⟩ h))
  refine s_isClass (fun c' _ _ => n1 ?_) (fun h => absurd ⟨c, hc, rfl⟩ h)
  refine ⟨hv, ?_⟩
  rw [nI_clamp (by omega), nI_clamp (by omega), mA 134 c (by omega)]
  refine s_sizeOf (big c hc) ?_
  rw [hn, mF 321 122 (by omega), t2, mA 136 j (by omega), mA 134 c (by omega), hbar]
  refine ⟨fun h => absurd ((nI_eq (a := n) (b := 0) (by omega) (by omega)).mp h) hz, fun _ => ⟨fun _ => ⟨hvj, hv, fun h => absurd rfl h, fun _ => ⟨hv, ?_⟩⟩, fun h => absurd (nI_le hle (by omega)) h⟩⟩
  have hT5 : ∀ i, i < 80 → A5 3 i = A5 123 i &&& 255 ∧ (A5 123 i).toInt8.toInt32 = A5 123 i := fun i hi => by
    rw [mA 3 i (by omega), mA 123 i (by omega)]; exact hT i hi
  have e3 : A5 3 = A 3 := by funext k; exact mA 3 k (by omega)
  refine s_isRow (big c hc) (by rw [hn]; omega) hT5 (fun _ => n1 ?_) (fun y => absurd (by rw [hn, e3]; exact hR) y)
  rw [ix_td, nI_clamp (by omega)]
  refine ⟨vp_in_nI (by omega) (by decide), order_loop hc hj g3 (fun A6 r1 r2 => ⟨rfl, ?_⟩) n 0 0 _ (by omega) rfl (fun _ _ _ => rfl) (fun k hk => absurd hk (Nat.not_lt_zero k))⟩
  have fA : ∀ a k, ¬ ((a = 137 ∧ k = 6 * j + c) ∨ (a = 138 ∧ 8 * (6 * j + c) ≤ k ∧ k < 8 * (6 * j + c) + n)) → A6 a k = A5 a k := fun a k z => (r1 a k (by omega)).trans (u2_ne (by omega))
  have fn : A6 137 (6 * j + c) = nI n := (r1 _ _ (by omega)).trans u2_s
  have fo : ∀ k, k < n → A6 138 (8 * (6 * j + c) + k) = A 123 k := fun k hk => by rw [r2 k hk, u2_n1 (by decide), mA 123 k (by omega)]
  have x11 : A6 (38 + 14 * c + 11) j = nI n := by rw [fA _ _ (by omega), m2 _ _ (by omega)]; exact k3
  have x5 : ∀ k, k < n → A6 (38 + 14 * c + 5 + j) k = A 3 k := fun k hk => by rw [fA _ _ (by omega), m2 _ _ (by omega)]; exact k2 k hk
  have tk : ∀ k, k < n → ∃ v, v < 20 ∧ A 3 k = nI v ∧ A 123 k = nI v := fun k hk => by
    obtain ⟨v, q1, q2, -⟩ := hR k hk
    refine ⟨v, q1, q2, byte_of q1 ?_ (hT k (by omega)).2⟩
    rw [← (hT k (by omega)).1, q2]
  have f134 : ∀ d, A6 134 d = A 134 d := fun d => (fA _ _ (by omega)).trans (mA _ _ (by omega))
  have new8 : I8 A6 := by
    intro d j' hd hj'
    by_cases z : d = c ∧ j' = j
    · obtain ⟨z1, z2⟩ := z
      rw [z1, z2]
      refine ⟨n, g3, x11, fn, fun _ => ⟨fun k => (A 3 k).toNatClampNeg, fun k hk => ?_, fun i k hik hk => ?_, fun b hb => ?_⟩, fun k hk => ?_⟩
      · obtain ⟨v, q1, q2, q3⟩ := tk k hk
        have ev : (A 3 k).toNatClampNeg = v := by rw [q2, nI_clamp (by omega)]
        show (A 3 k).toNatClampNeg < 20 ∧ A6 (38 + 14 * c + 5 + j) k = nI (A 3 k).toNatClampNeg ∧ A6 138 (8 * (6 * j + c) + k) = nI (A 3 k).toNatClampNeg
        rw [x5 k hk, fo k hk, ev]
        exact ⟨q1, q2, q3⟩
      · obtain ⟨v, q1, q2, -⟩ := hR i (by omega)
        obtain ⟨u, p1, p2, -, p4⟩ := hR k hk
        show (A 3 i).toNatClampNeg ≠ (A 3 k).toNatClampNeg
        rw [q2, p2, nI_clamp (by omega), nI_clamp (by omega)]
        intro y
        exact p4 i hik (by rw [q2, y])
      · rw [f134] at hb
        rw [← hn] at hR
        obtain ⟨k, hk, ek⟩ := hR.all (big c hc) hb
        exact ⟨k, by omega, by show (A 3 k).toNatClampNeg = b; rw [ek, nI_clamp (by have := big c hc b hb; omega)]⟩
      · by_cases y : k < n
        · obtain ⟨v, q1, q2, q3⟩ := tk k y
          rw [x5 k y, fo k y, q2, q3]
        · rw [fA _ _ (by omega), mA _ _ (by omega), fA _ _ (by omega), mA _ _ (by omega)]
          obtain ⟨t', -, -, -, -, q⟩ := h8 c j hc hj
          exact q k hk
    · refine I8_loc h8 hd hj' (f134 d) ?_ (fun k hk => ?_) ?_ (fun k hk => ?_)
      · rw [fA _ _ (by omega), mA _ _ (by omega)]
      · rw [fA _ _ (by omega), mA _ _ (by omega)]
      · rw [fA _ _ (by omega), mA _ _ (by omega)]
      · rw [fA _ _ (by omega), mA _ _ (by omega)]
  refine hI.exc hw (fun f a => (f = 82 ∧ a = 7) ∨ (a = 38 + 14 * c ∧ f = 167) ∨ (a = 2 ∧ (f = 201 ∨ f = 202 ∨ f = 203)) ∨ (f = 321 ∧ a = 122)) (fun a => (8 ≤ a ∧ a ≤ 28) ∨ a = 38 + 14 * c + 12 ∨ a = 38 + 14 * c + 5 + j ∨ a = 38 + 14 * c + 11 ∨ a = 137 ∨ a = 138) (fun f a q => (u2_ne (by omega)).trans (mF f a (by omega))) (fun a j q => (fA a j (by omega)).trans (mA a j (by omega))) (Or.inr (⟨⟨0, by decide, (u2_ne (by omega)).trans Clr_s, u2_s⟩, fun i hi => ?_⟩)) (Or.inl ⟨by omega, by omega, fun k i => by omega, fun a _ _ => by omega, fun i => by omega⟩) (Or.inl ⟨by omega, by omega⟩) (Or.inl ⟨by omega, by omega⟩) (Or.inl ⟨fun k c _ _ _ => by omega, by omega, by omega⟩) (Or.inl ⟨⟨by omega, by omega, by omega⟩, fun d _ => ⟨by omega, by omega, by omega⟩, fun a _ _ => by omega⟩) (Or.inl ⟨fun c _ => by omega, by omega⟩) (Or.inr (new8)) (Or.inr (fun d hd => ?_)) (Or.inr (m3.cong (fun a k _ _ => fA a k (by omega))))
  · rw [fA _ _ (by omega), fA _ _ (by omega)]; exact hT5 i hi
  · by_cases z : d = c
    · rw [z]
      refine joined_of (A1 := A1) hc new8 (f134 c) ⟨fun j' hj' => ?_, fun j' k hj' hk => ?_⟩ ?_ (fun k hk => ?_)
      · rw [fA _ _ (by omega), m2 _ _ (by omega)]
      · rw [fA _ _ (by omega), m2 _ _ (by omega)]
      · rw [u2_ne (by omega), Clr_ne (by omega), hn]; exact m4
      · rw [hn] at hk ⊢
        rw [fA _ _ (by omega)]; exact m5 k hk
    · have sm : SameM A A6 d := ⟨f134 d, fun j' hj' => by rw [fA _ _ (by omega), mA _ _ (by omega)], fun j' k hj' hk => by rw [fA _ _ (by omega), mA _ _ (by omega)]⟩
      rw [fwM_loc sm, sm.1, u2_ne (by omega), mF 167 _ (by omega)]
      refine ⟨(hI.2.2.2.2.2.2.2.2.1 d hd).1, fun k hk => ?_⟩
      rw [rowM_loc sm, fA _ _ (by omega), mA _ _ (by omega)]
      exact (hI.2.2.2.2.2.2.2.2.1 d hd).2 k hk
end ORDER2
