section LETS
variable {l : Launch} {w : Nat → Nat} {nb : Nat} {F A : MI} {P : Int32 → MI → MI → Prop}
/-- all of BEAST i -/
def BstM (F A : MI) (i b a s h : Nat) (ms : Nat → Nat) : Prop := Bst F A i b a s h ∧ (∀ m, ms m ≤ 99) ∧ ∀ m, m < 3 → A (148 + 2 * i) m = nI (ms m) ∧ A 128 (3 * i + m) = nI (ms m)
theorem I2.beast (h : I2 nb F A) {i : Nat} (hi : i < nb) : ∃ b a s hd ms, BstM F A i b a s hd ms := by
  obtain ⟨-, -, -, hB, hM, -⟩ := h
  obtain ⟨b, a, s, hd, q⟩ := hB i hi
  refine ⟨b, a, s, hd, fun m => if h : m < 3 then Classical.choose (hM i hi m h) else 0, q, fun m => ?_, fun m hm => ?_⟩
  · by_cases hm : m < 3
    · simp only [hm, dif_pos]; exact (Classical.choose_spec (hM i hi m hm)).1
    · simp only [hm, dif_neg, not_false_eq_true]; omega
  · simp only [hm, dif_pos]; exact (Classical.choose_spec (hM i hi m hm)).2
theorem s_within {t k : Nat} {x1 x2 : Int32} (ht : isTx t) (hk : k < 4) (e : x1 = nI k) (h1 : A (t + 1) k ≤ x2 ∧ x2 ≤ A (t + 2) k → P 1 F A) (h0 : ¬ (A (t + 1) k ≤ x2 ∧ x2 ≤ A (t + 2) k) → P 0 F A) : CM l mX1_isWithin 1 w nb [.ref t, .int x1, .int x2] F A (qi P) := by
  subst e
  have hv := vp_in_nI hk (N := 4) (by decide)
  refine kX1_isWithin ht ?_
  rw [nI_clamp (by omega)]
  refine ⟨hv, fun h => ⟨0, rfl, h0 (fun q => ?_)⟩, fun h => ⟨hv, fun h2 => ⟨0, rfl, h0 (fun q => ?_)⟩, fun h2 => ⟨1, rfl, h1 ⟨?_, ?_⟩⟩⟩⟩
  · rw [i_lt] at h; have := i_le.mp q.1; omega
  · rw [i_lt] at h2; have := i_le.mp q.2; omega
  · rw [i_lt] at h; rw [i_le]; omega
  · rw [i_lt] at h2; rw [i_le]; omega
theorem admits_loop {t i : Nat} {ms : Nat → Nat} (ht : isTx t) (hi : i < nb) (hm : ∀ m, m < 3 → A (148 + 2 * i) m = nI (ms m)) : ∀ (k m : Nat) (x2 : Int32), m + k = 3 → x2 = nI m → ((∀ j, m ≤ j → j < 3 → A (t + 1) (1 + j) ≤ nI (ms j) ∧ nI (ms j) ≤ A (t + 2) (1 + j)) → P 1 F A) → ((¬ ∀ j, m ≤ j → j < 3 → A (t + 1) (1 + j) ≤ nI (ms j) ∧ nI (ms j) ≤ A (t + 2) (1 + j)) → P 0 F A) → ZM l mX1_admits 2 w nb (qi P) 30 [(0, .ref t), (1, .ref (147 + 2 * i)), (2, .int x2)] [] F A
  | 0, m, x2, hk, hx, h1, h0 => by
    subst hx
    have : m = 3 := by omega
    subst this
    exact vX1_admits_30 ht hi ⟨fun _ => ⟨1, rfl, h1 (fun j q1 q2 => absurd q1 (by omega))⟩, fun h => absurd (Int32.le_refl _) h⟩
  | k + 1, m, x2, hk, hx, h1, h0 => by
    subst hx
    refine vX1_admits_30 ht hi ⟨fun h => absurd h (nI_ge (a := m) (b := 3) (by omega) (by decide)), fun _ => ⟨vp_in_nI (by omega) (by decide), ?_⟩⟩
    rw [nI_clamp (by omega), hm m (by omega)]
    refine s_within ht (k := 1 + m) (by omega) (by rw [nI_lit 1, nI_add]) (fun q => n1 ?_) (fun q => n0 ⟨0, rfl, h0 (fun q2 => q (q2 m (by omega) (by omega)))⟩)
    refine admits_loop ht hi hm k (m + 1) _ (by omega) (by rw [nI_1]) (fun q2 => h1 (fun j q3 q4 => ?_)) (fun q2 => h0 (fun q3 => q2 (fun j q4 q5 => q3 j (by omega) q5)))
    rcases Nat.eq_or_lt_of_le q3 with e | e
    · subst e; exact q
    · exact q2 j e q4
theorem s_admits {t i b a s hd : Nat} {ms : Nat → Nat} (ht : isTx t) (hi : i < nb) (hB : BstM F A i b a s hd ms) (h1 : letX F A t b a ms → P 1 F A) (h0 : ¬ letX F A t b a ms → P 0 F A) : CM l mX1_admits 2 w nb [.ref t, .ref (147 + 2 * i)] F A (qi P) := by
  obtain ⟨⟨b1, b2, b3, b4, f0, a0, f1, a1, -⟩, hm1, hm2⟩ := hB
  refine kX1_admits ht hi ?_
  rw [f0, f1]
  refine ⟨fun h => ⟨0, rfl, h0 (fun q => ?_)⟩, fun h => ?_⟩
  · rw [bit_and (by omega), q.1] at h; exact absurd h (by decide)
  · have hbt : bt (F 42 t) b = true := by
      cases e : bt (F 42 t) b
      · exact absurd ((bit_and (by omega)).mpr e) h
      · rfl
    refine s_within ht (k := 0) (by decide) rfl (fun q => n1 ?_) (fun q => n0 ⟨0, rfl, h0 (fun q2 => q ⟨q2.2.1, q2.2.2.1⟩)⟩)
    exact admits_loop ht hi (fun m hm => (hm2 m hm).1) 3 0 0 rfl rfl (fun q2 => h1 ⟨hbt, q.1, q.2, fun m hm => q2 m (by omega) hm⟩) (fun q2 => h0 (fun q3 => q2 (fun j _ hj => q3.2.2.2 j hj)))
theorem ix_cl {c k : Nat} : (8 * nI c) + nI k = nI (8 * c + k) := by rw [nI_lit 8, pk_mul, nI_add]
theorem s_holds {wh v : Int32} {k i b a s hd : Nat} {ms : Nat → Nat} (hi : i < nb) (hn : nb ≤ 20) (hk : k < 9) (e : wh = nI k) (hB : BstM F A i b a s hd ms) (h1 : clM wh v b a ms → P 1 F A) (h0 : ¬ clM wh v b a ms → P 0 F A) : CM l mX8_holds 2 w nb [.ref 122, .int wh, .int v, .int (nI i)] F A (qi P) := by
  obtain ⟨⟨b1, b2, b3, b4, f0, a0, f1, a1, -⟩, hm1, hm2⟩ := hB
  subst e
  have hv := vp_in_nI (show i < 20 by omega) (N := 20) (by decide)
  have inj : ∀ j, j < 100 → nI k = nI j → k = j := fun j hj e => (nI_eq (by omega) (by omega)).mp e
  have ne : ∀ j, j < 100 → k ≠ j → ¬ nI k = nI j := fun j hj h e => h (inj j hj e)
  refine kX8_holds ⟨fun g0 => ⟨fun g1 => ⟨fun g2 => ⟨fun g6 => ?_, fun g6 => ?_⟩, fun g2 => ?_⟩, fun g1 => ?_⟩, fun g0 => ?_⟩
  · have k6 : 6 ≤ k := by
      rcases Nat.lt_or_ge k 6 with q | q
      · exact absurd g6 (nI_ge q (by decide))
      · exact q
    have ex : ((3 * nI i) + nI k) - 6 = nI (3 * i + (k - 6)) := by
      rw [nI_lit 3, pk_mul, nI_add, nI_lit 6, pk_sub (by omega)]; congr 1; omega
    rw [ex, nI_clamp (by omega), (hm2 (k - 6) (by omega)).2]
    have key : clM (nI k) v b a ms ↔ nI (ms (k - 6)) < v := by
      constructor
      · intro q; exact q.2.2.2.2 (k - 6) (by omega) (by congr 1; omega)
      · intro q
        refine ⟨fun e => absurd e g0, fun e => absurd e g1, fun e => absurd e g2, fun m hm e => ?_, fun m hm e => ?_⟩
        · have := inj _ (by omega) e; omega
        · have := inj _ (by omega) e
          rw [show m = k - 6 by omega]; exact q
    refine ⟨vp_in_nI (by omega) (by decide), fun h => ⟨0, rfl, h0 (fun q => ?_)⟩, fun h => ⟨1, rfl, h1 (key.mpr ?_)⟩⟩
    · have q2 := key.mp q; rw [i_lt] at q2; rw [i_le] at h; omega
    · rw [i_le] at h; rw [i_lt]; omega
  · have k6 : k < 6 := by
      rcases Nat.lt_or_ge k 6 with q | q
      · exact q
      · exact absurd (nI_le q (by omega)) g6
    have k3 : 3 ≤ k := by
      rcases Nat.lt_or_ge k 3 with q | q
      · rcases (show k = 0 ∨ k = 1 ∨ k = 2 by omega) with rfl | rfl | rfl
        · exact absurd rfl g0
        · exact absurd rfl g1
        · exact absurd rfl g2
      · exact q
    have ex : ((3 * nI i) + nI k) - 3 = nI (3 * i + (k - 3)) := by
      rw [nI_lit 3, pk_mul, nI_add, pk_sub (by omega)]; congr 1; omega
    rw [ex, nI_clamp (by omega), (hm2 (k - 3) (by omega)).2]
    have key : clM (nI k) v b a ms ↔ v < nI (ms (k - 3)) := by
      constructor
      · intro q; exact q.2.2.2.1 (k - 3) (by omega) (by congr 1; omega)
      · intro q
        refine ⟨fun e => absurd e g0, fun e => absurd e g1, fun e => absurd e g2, fun m hm e => ?_, fun m hm e => ?_⟩
        · have := inj _ (by omega) e
          rw [show m = k - 3 by omega]; exact q
        · have := inj _ (by omega) e; omega
    refine ⟨vp_in_nI (by omega) (by decide), fun h => ⟨0, rfl, h0 (fun q => ?_)⟩, fun h => ⟨1, rfl, h1 (key.mpr ?_)⟩⟩
    · have q2 := key.mp q; rw [i_lt] at q2; rw [i_le] at h; omega
    · rw [i_le] at h; rw [i_lt]; omega
  · have e := inj 2 (by decide) g2
    subst e
    rw [nI_clamp (by omega), a1]
    have key : clM (nI 2) v b a ms ↔ nI a ≤ v := by
      constructor
      · intro q; exact q.2.2.1 rfl
      · intro q
        refine ⟨fun e => absurd e g0, fun e => absurd e g1, fun _ => q, fun m hm e => ?_, fun m hm e => ?_⟩
        · have := inj _ (by omega) e; omega
        · have := inj _ (by omega) e; omega
    refine ⟨hv, fun h => ⟨0, rfl, h0 (fun q => ?_)⟩, fun h => ⟨1, rfl, h1 (key.mpr ?_)⟩⟩
    · have q2 := key.mp q; rw [i_le] at q2; rw [i_lt] at h; omega
    · rw [i_lt] at h; rw [i_le]; omega
  · have e := inj 1 (by decide) g1
    subst e
    rw [nI_clamp (by omega), a1]
    have key : clM (nI 1) v b a ms ↔ v ≤ nI a := by
      constructor
      · intro q; exact q.2.1 rfl
      · intro q
        refine ⟨fun e => absurd e g0, fun _ => q, fun e => absurd e (by decide), fun m hm e => ?_, fun m hm e => ?_⟩
        · have := inj _ (by omega) e; omega
        · have := inj _ (by omega) e; omega
    refine ⟨hv, fun h => ⟨0, rfl, h0 (fun q => ?_)⟩, fun h => ⟨1, rfl, h1 (key.mpr ?_)⟩⟩
    · have q2 := key.mp q; rw [i_le] at q2; rw [i_lt] at h; omega
    · rw [i_lt] at h; rw [i_le]; omega
  · have e := inj 0 (by decide) g0
    subst e
    rw [nI_clamp (by omega), a0]
    have key : clM (nI 0) v b a ms ↔ bt v b = true := by
      constructor
      · intro q; exact q.1 rfl
      · intro q
        refine ⟨fun _ => q, fun e => absurd e (by decide), fun e => absurd e (by decide), fun m hm e => ?_, fun m hm e => ?_⟩
        · have := inj _ (by omega) e; omega
        · have := inj _ (by omega) e; omega
    refine ⟨hv, s_has (by omega) (fun h => ⟨Or.inr rfl, 1, rfl, h1 (key.mpr h)⟩) (fun h => ⟨Or.inl rfl, 0, rfl, h0 (fun q => ?_)⟩)⟩
    rw [key.mp q] at h; exact absurd h (by decide)
theorem isLet_loop {c i b a s hd n : Nat} {ms : Nat → Nat} (hc : c < 6) (hi : i < nb) (hn : nb ≤ 20) (hB : BstM F A i b a s hd ms) (hN : A 129 c = nI n) (h8 : n ≤ 8) (hW : ∀ k, k < n → ∃ wh, wh < 9 ∧ A 130 (8 * c + k) = nI wh) : ∀ (d k : Nat) (x3 : Int32), k + d = n → x3 = nI k → ((∀ j, k ≤ j → j < n → clM (A 130 (8 * c + j)) (A 131 (8 * c + j)) b a ms) → P 1 F A) → ((¬ ∀ j, k ≤ j → j < n → clM (A 130 (8 * c + j)) (A 131 (8 * c + j)) b a ms) → P 0 F A) → ZM l mX8_isLet 3 w nb (qi P) 2 [(0, .ref 122), (1, .int (nI c)), (2, .int (nI i)), (3, .int x3)] [] F A
  | 0, k, x3, hk, hx, h1, h0 => by
    subst hx
    refine vX8_isLet_2 ⟨vp_in_nI hc (by decide), ?_⟩
    rw [nI_clamp (by omega), hN]
    refine ⟨fun _ => ⟨1, rfl, h1 (fun j q1 q2 => absurd q1 (by omega))⟩, fun h => absurd (nI_le (by omega) (by omega)) h⟩
  | d + 1, k, x3, hk, hx, h1, h0 => by
    subst hx
    refine vX8_isLet_2 ⟨vp_in_nI hc (by decide), ?_⟩
    rw [nI_clamp (n := c) (by omega), hN]
    refine ⟨fun h => absurd h (nI_ge (by omega) (by omega)), fun _ => ?_⟩
    rw [ix_cl, nI_clamp (by omega)]
    have hv := vp_in_nI (show 8 * c + k < 48 by omega) (N := 48) (by decide)
    obtain ⟨wh, q1, q2⟩ := hW k (by omega)
    refine ⟨hv, hv, s_holds hi hn q1 q2 hB (fun q => n1 ?_) (fun q => n0 ⟨0, rfl, h0 (fun q3 => q (q3 k (by omega) (by omega)))⟩)⟩
    refine isLet_loop hc hi hn hB hN h8 hW d (k + 1) _ (by omega) (by rw [nI_1]) (fun q3 => h1 (fun j q4 q5 => ?_)) (fun q3 => h0 (fun q4 => q3 (fun j q5 q6 => q4 j (by omega) q6)))
    rcases Nat.eq_or_lt_of_le q4 with e | e
    · subst e; exact q
    · exact q3 j e q5
/-- whether M lets BEAST i into CLASS c -/
theorem s_isLet' {c i b a s hd : Nat} {ms : Nat → Nat} (hn : nb ≤ 20) (h6 : I6 w F A) (hc : c < 6) (hi : i < nb) (hB : BstM F A i b a s hd ms) (h1 : letX F A (w c) b a ms → P 1 F A) (h0 : ¬ letX F A (w c) b a ms → P 0 F A) : CM l mX8_isLet 3 w nb [.ref 122, .int (nI c), .int (nI i)] F A (qi P) := by
  obtain ⟨⟨n, h8, hN⟩, hW, hE⟩ := h6 c hc
  have e1 : (A 129 c).toNatClampNeg = n := by rw [hN, nI_clamp (by omega)]
  have key := hE b a ms hB.1.1 hB.1.2.1 hB.2.1
  unfold letM at key
  rw [e1] at key hW
  exact kX8_isLet (isLet_loop hc hi hn hB hN h8 hW n 0 0 (by omega) rfl (fun q => h1 (key.mpr (fun k hk => q k (by omega) hk))) (fun q => h0 (fun q2 => q (fun j _ hj => (key.mp q2) j hj))))
theorem s_isLet {c i b a s hd : Nat} {ms : Nat → Nat} (hI : Inv w nb F A) (hc : c < 6) (hi : i < nb) (hB : BstM F A i b a s hd ms) (h1 : letX F A (w c) b a ms → P 1 F A) (h0 : ¬ letX F A (w c) b a ms → P 0 F A) : CM l mX8_isLet 3 w nb [.ref 122, .int (nI c), .int (nI i)] F A (qi P) := s_isLet' hI.2.1.2.2.1 hI.2.2.2.2.2.1 hc hi hB h1 h0
theorem s_admitsC {c i b a s hd : Nat} {ms : Nat → Nat} (hw : TW w) (hc : c < 6) (hi : i < nb) (hB : BstM F A i b a s hd ms) (h1 : letX F A (w c) b a ms → P 1 F A) (h0 : ¬ letX F A (w c) b a ms → P 0 F A) : CM l mX4_admits 3 w nb [.ref (38 + 14 * c), .ref (147 + 2 * i)] F A (qi P) :=
  kX4_admits hc hi (s_admits (hw.1 c (by omega)) hi hB (fun h => ⟨Or.inr rfl, 1, rfl, h1 h⟩) (fun h => ⟨Or.inl rfl, 0, rfl, h0 h⟩))
/-- X.lets as a whole -/
theorem s_lets {x1 x2 : Int32} (hw : TW w) (hI : Inv w nb F A) (hN : (¬ Bel x1 6 ∨ ¬ Bel x2 nb) → P (-1) F A) (h1 : ∀ c i b a s hd ms, c < 6 → i < nb → x1 = nI c → x2 = nI i → BstM F A i b a s hd ms → letX F A (w c) b a ms → P 1 F A) (h0 : ∀ c i b a s hd ms, c < 6 → i < nb → x1 = nI c → x2 = nI i → BstM F A i b a s hd ms → ¬ letX F A (w c) b a ms → P 0 F A) : CM l mX7_lets 4 w nb [.ref 1, .int x1, .int x2] F A (qi P) := by
  obtain ⟨hn1, hn2, hn3, -⟩ := hI.2.1
  refine kX7_lets (s_classAt (fun c hc e => ?_) (fun h => s_beastAt hn1 hn3 (fun _ _ _ => ⟨-1, rfl, hN (Or.inl h)⟩) (fun _ => ⟨-1, rfl, hN (Or.inl h)⟩)))
  refine s_beastAt hn1 hn3 (fun i hi e2 => ?_) (fun h => ⟨-1, rfl, hN (Or.inr h)⟩)
  obtain ⟨b, a, s, hd, ms, hB⟩ := hI.2.1.beast hi
  exact s_admitsC hw hc hi hB (fun q => z1 ⟨1, rfl, h1 c i b a s hd ms hc hi e e2 hB q⟩) (fun q => z0 ⟨0, rfl, h0 c i b a s hd ms hc hi e e2 hB q⟩)
theorem op_lets {x1 x2 : Int32} (hw : TW w) (hI : Inv w nb F A) : CM l mX7_lets 4 w nb [.ref 1, .int x1, .int x2] F A (qi fun r F A => CM l mX8_lets 4 w nb [.ref 122, .int x1, .int x2] F A (qi fun r' F A => r = r' ∧ Inv w nb F A)) := by
  obtain ⟨hn1, hn2, hn3, -⟩ := hI.2.1
  refine s_lets hw hI (fun hb => ?_) (fun c i b a s hd ms hc hi e e2 hB q => ?_) (fun c i b a s hd ms hc hi e e2 hB q => ?_)
  · refine kX8_lets (s_isClass (fun c hc e => z1 ?_) (fun _ => z0 ⟨-1, rfl, rfl, hI⟩))
    refine s_isBeast hn2 hn3 (fun i hi e2 => ?_) (fun _ => n0 ⟨-1, rfl, rfl, hI⟩)
    rcases hb with q | q
    · exact absurd ⟨c, hc, e⟩ q
    · exact absurd ⟨i, hi, e2⟩ q
  · subst e
    subst e2
    refine kX8_lets (s_isClass (fun c' hc' e => z1 ?_) (fun q => absurd ⟨c, hc, rfl⟩ q))
    refine s_isBeast hn2 hn3 (fun i' hi' e2 => n1 ?_) (fun q => absurd ⟨i, hi, rfl⟩ q)
    exact s_isLet hI hc hi hB (fun _ => z1 ⟨1, rfl, rfl, hI⟩) (fun q2 => absurd q q2)
  · subst e
    subst e2
    refine kX8_lets (s_isClass (fun c' hc' e => z1 ?_) (fun q => absurd ⟨c, hc, rfl⟩ q))
    refine s_isBeast hn2 hn3 (fun i' hi' e2 => n1 ?_) (fun q => absurd ⟨i, hi, rfl⟩ q)
    exact s_isLet hI hc hi hB (fun q2 => absurd q2 q) (fun _ => z0 ⟨0, rfl, rfl, hI⟩)
end LETS
