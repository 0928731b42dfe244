section REASX2
variable {l : Launch} {w : Nat → Nat} {nb : Nat} {F A F0 A0 : MI} {P : Int32 → MI → MI → Prop} {V : MI → MI → Prop} {s : Nat → Nat} {n : Nat}
def plv (s : Nat → Nat) (n i : Nat) : Int32 := (pkv s n i - 97) + 1
theorem plv_int (hs : ByX A s) (hn : n ≤ 80) (i : Nat) : (hv s n i ≠ 0 → (plv s n i).toInt = (hv s n i : Int) - 96) ∧ (hv s n i = 0 → (plv s n i).toInt ≤ -96) := by
  have hp := pkv_toInt (i := i) hs hn
  have hl : hv s n i < 256 := hv_lt (fun k hk => (hs k hk).2) hn
  have e97 : (97 : Int32).toInt = 97 := rfl
  have e1 : (1 : Int32).toInt = 1 := rfl
  have hb : -1 ≤ (pkv s n i).toInt ∧ (pkv s n i).toInt < 256 := by
    by_cases z : hv s n i = 0
    · have := hp.2 z; omega
    · have := hp.1 z; omega
  have es : (pkv s n i - 97).toInt = (pkv s n i).toInt - 97 := fb_subI (by omega) (by omega)
  have ea : (plv s n i).toInt = (pkv s n i).toInt - 97 + 1 := by
    unfold plv
    rw [fb_addI (by omega) (by omega), es, e1]
  refine ⟨fun z => ?_, fun z => ?_⟩
  · have := hp.1 z; omega
  · have := hp.2 z; omega
theorem plv_in (hs : ByX A s) (hn : n ≤ 80) {i : Nat} (h1 : 97 ≤ hv s n i) (h2 : hv s n i ≤ 104) : plv s n i = nI (hv s n i - 96) := by
  apply Int32.toInt_inj.mp
  rw [(plv_int hs hn i).1 (by omega), nI_toInt (by omega)]
  omega
theorem s_placeNamed {i : Nat} (hs : ByX A s) (hn : n ≤ 80) (h1 : F 202 2 = nI n) (h2 : F 203 2 = nI i) (hi : i < 200) (hP : P (plv s n i) F A) : CM l mX3_placeNamed 2 w nb [.ref 2] F A (qi P) :=
  kX3_placeNamed (s_peek hs hn h1 h2 hi ⟨_, rfl, hP⟩)
theorem s_faultOfPlace {i m : Nat} (hs : ByX A s) (hn : n ≤ 80) (h2 : F 203 2 = nI i) (hm : m ≤ 8) (k1 : ¬ (97 ≤ hv s n i ∧ hv s n i ≤ 104) → P (nI (100 * 1 + i)) F A) (k2 : 97 ≤ hv s n i → hv s n i ≤ 104 → m < hv s n i - 96 → P (nI (100 * 2 + i)) F A) (k0 : 97 ≤ hv s n i → hv s n i ≤ 104 → ¬ m < hv s n i - 96 → P 0 F A) : CM l mX3_faultOfPlace 3 w nb [.ref 2, .int (plv s n i), .int (nI m)] F A (qi P) := by
  have hp := plv_int hs hn i
  have e1 : (1 : Int32).toInt = 1 := rfl
  have e8 : (8 : Int32).toInt = 8 := rfl
  refine kX3_faultOfPlace ⟨fun h => vX3_faultOfPlace_11 (s_faultHere (k := 1) h2 ⟨_, rfl, k1 ?_⟩), fun h => ⟨fun h3 => ⟨fun h4 => ⟨_, rfl, ?_⟩, fun h4 => s_faultHere (k := 2) h2 ⟨_, rfl, ?_⟩⟩, fun h3 => vX3_faultOfPlace_11 (s_faultHere (k := 1) h2 ⟨_, rfl, k1 ?_⟩)⟩⟩
  all_goals
    simp only [i_lt, i_le] at *
    by_cases z : hv s n i = 0
    · have := hp.2 z; omega
    · have h5 := hp.1 z
      have h6 := nI_toInt (n := m) (by omega)
      first
        | omega
        | exact k0 (by omega) (by omega) (by omega)
        | exact k2 (by omega) (by omega) (by omega)
theorem pairX {r : Nat → Nat} {m c i : Nat} {x : Int32} (hc : c < 6) (hs : ByX A s) (hn : n ≤ 80) (h0 : F0 202 2 = nI n) (h2 : I2 nb F0 A) (h161 : F0 161 (38 + 14 * c) = nI m) (hm : m ≤ 8) (hR : ∀ k, k < m → A (38 + 14 * c + 12) k = nI (r k)) (hr : ∀ k, k < m → r k < nb) (hi : i ≤ n) (hS : XS F0 i x F) (kOk : ∀ F j y, j ≤ n → XS F0 j y F → prS s n m (dlr A r) i x = sepS s n j y → P 0 F A) (kF : ∀ F b j, XFr F0 F → 1 ≤ b → b ≤ 3 → j ≤ n → prS s n m (dlr A r) i x = (b, j, 0) → P (nI (100 * b + j)) F A) : CM l mX3_readPair 5 w nb [.ref 34, .ref 2, .ref (38 + 14 * c), .ref 4] F A (qi P) := by
  have h20 := h2.2.2.1
  have h1 := hS.len h0
  have g161 : ∀ {F i x}, XS F0 i x F → F 161 (38 + 14 * c) = nI m := fun q => (q.1 _ _ (by omega)).trans h161
  have nz : ∀ {b j : Nat}, 1 ≤ b → b ≤ 3 → j ≤ n → ¬ nI (100 * b + j) = 0 := fun h1 h2 h3 => nI_ne0 (by omega) (by omega)
  have kF' : ∀ F b j, XFr F0 F → 1 ≤ b → b ≤ 3 → j ≤ n → prS s n m (dlr A r) i x = (b, j, 0) → ((nI (100 * b + j) = 0 → False) ∧ P (nI (100 * b + j)) F A) := fun F b j a1 a2 a3 a4 a5 => ⟨nz a2 a3 a4, kF F b j a1 a2 a3 a4 a5⟩
  refine kX3_readPair hc (kX5_place ⟨_, rfl, ?_⟩)
  rw [hS.2.1]
  refine s_placeNamed hs hn h1 hS.2.1 (by omega) ?_
  rw [g161 hS]
  refine s_faultOfPlace hs hn hS.2.1 hm (fun q => ?_) (fun q1 q2 q3 => ?_) (fun q1 q2 q3 => z0 ?_)
  · have e : prS s n m (dlr A r) i x = (1, i, 0) := by unfold prS; rw [if_pos q]
    exact ⟨fun z => absurd z (nz (by decide) (by decide) hi), fun _ => ⟨_, rfl, kF F 1 i hS.1 (by decide) (by decide) hi e⟩⟩
  · have e : prS s n m (dlr A r) i x = (2, i, 0) := by unfold prS; rw [if_neg (fun z => z ⟨q1, q2⟩), if_pos q3]
    exact ⟨fun z => absurd z (nz (by decide) (by decide) hi), fun _ => ⟨_, rfl, kF F 2 i hS.1 (by decide) (by decide) hi e⟩⟩
  have hin : i < n := hv_in (s := s) (by omega)
  refine s_skip hn h1 hS.2.1 hin ?_
  have hS1 := hS.at (i + 1)
  refine s_skipIf hs hn (hS1.len h0) hS1.2.1 (by omega) (c := 62) (by decide) (by decide) (fun q4 => n1 ?_) (fun q4 => n0 (s_faultHere (k := 1) hS1.2.1 ⟨_, rfl, kF _ 1 (i + 1) hS1.1 (by decide) (by decide) hin ?_⟩))
  rotate_left
  · unfold prS; rw [if_neg (fun z => z ⟨q1, q2⟩), if_neg q3, if_pos q4]
  have hin1 : i + 1 < n := hv_in (s := s) (by omega)
  have hS2 := hS1.at (i + 1 + 1)
  refine s_placeNamed hs hn (hS2.len h0) hS2.2.1 (by omega) ?_
  rw [g161 hS2]
  refine s_faultOfPlace hs hn hS2.2.1 hm (fun q => ?_) (fun p1 p2 p3 => ?_) (fun p1 p2 p3 => z0 ?_)
  · have e : prS s n m (dlr A r) i x = (1, i + 2, 0) := by unfold prS; rw [if_neg (fun z => z ⟨q1, q2⟩), if_neg q3, if_neg (fun z => z q4), if_pos q]
    exact ⟨fun z => absurd z (nz (by decide) (by decide) hin1), fun _ => ⟨_, rfl, kF _ 1 (i + 2) hS2.1 (by decide) (by decide) hin1 e⟩⟩
  · have e : prS s n m (dlr A r) i x = (2, i + 2, 0) := by unfold prS; rw [if_neg (fun z => z ⟨q1, q2⟩), if_neg q3, if_neg (fun z => z q4), if_neg (fun z => z ⟨p1, p2⟩), if_pos (Or.inl p3)]
    exact ⟨fun z => absurd z (nz (by decide) (by decide) hin1), fun _ => ⟨_, rfl, kF _ 2 (i + 2) hS2.1 (by decide) (by decide) hin1 e⟩⟩
  have hin2 : i + 1 + 1 < n := hv_in (s := s) (by omega)
  rw [plv_in hs hn q1 q2, plv_in hs hn p1 p2]
  have p1' : 97 ≤ hv s n (i + 2) := p1
  have p2' : hv s n (i + 2) ≤ 104 := p2
  have p3' : ¬ m < hv s n (i + 2) - 96 := p3
  have key : nI (hv s n (i + 1 + 1) - 96) = nI (hv s n i - 96) ↔ hv s n (i + 2) = hv s n i := by
    have e := nI_eq (a := hv s n (i + 2) - 96) (b := hv s n i - 96) (by omega) (by omega)
    exact e.trans (by omega)
  have base : prS s n m (dlr A r) i x = if hv s n (i + 2) = hv s n i then (2, i + 2, 0) else if hv s n (i + 2) < hv s n i then (3, i, 0) else if ¬ hv s n (i + 3) = 58 then (1, i + 3, 0) else tmS s n (dlr A r (hv s n i - 96) (hv s n (i + 2) - 96)) 4 (i + 4) x := by
    unfold prS
    rw [if_neg (fun z => z ⟨q1, q2⟩), if_neg q3, if_neg (fun z => z q4), if_neg (fun z => z ⟨p1, p2⟩)]
    by_cases z : hv s n (i + 2) = hv s n i
    · rw [if_pos (Or.inr z), if_pos z]
    · rw [if_neg (fun y => by rcases y with y | y; exact p3' y; exact z y), if_neg z]
  rw [key]
  refine ⟨fun q5 => s_skip hn (hS2.len h0) hS2.2.1 hin2 ?_, fun q5 => s_faultHere (k := 2) hS2.2.1 ⟨_, rfl, kF _ 2 (i + 2) hS2.1 (by decide) (by decide) hin1 (by rw [base, if_pos q5])⟩⟩
  rw [if_neg q5] at base
  have hS3 := hS2.at (i + 1 + 1 + 1)
  refine ⟨fun q6 => ?_, fun q6 => s_faultAt (k := 3) ⟨_, rfl, kF _ 3 i hS3.1 (by decide) (by decide) hi ?_⟩⟩
  rotate_left
  · rw [base, if_pos]
    rcases Nat.lt_or_ge (hv s n (i + 2)) (hv s n i) with z | z
    · exact z
    · exact absurd (nI_le (a := hv s n i - 96) (b := hv s n (i + 2) - 96) (by omega) (by omega)) q6
  have q6' : ¬ hv s n (i + 2) < hv s n i := fun z => nI_ge (a := hv s n (i + 2) - 96) (b := hv s n i - 96) (by omega) (by omega) q6
  rw [if_neg q6'] at base
  refine s_skipIf hs hn (hS3.len h0) hS3.2.1 (by omega) (c := 58) (by decide) (by decide) (fun q7 => n1 ?_) (fun q7 => n0 (s_faultHere (k := 1) hS3.2.1 ⟨_, rfl, kF _ 1 (i + 3) hS3.1 (by decide) (by decide) hin2 (by rw [base, if_pos q7])⟩))
  rw [if_neg (fun z => z q7)] at base
  have hin3 : i + 1 + 1 + 1 < n := hv_in (s := s) (by omega)
  have hS4 := hS3.at (i + 1 + 1 + 1 + 1)
  have ep : nI (hv s n i - 96) - 1 = nI (hv s n i - 96 - 1) := by
    show _ - nI 1 = _
    rw [pk_sub (by omega)]
  have eq : nI (hv s n (i + 1 + 1) - 96) - 1 = nI (hv s n (i + 2) - 96 - 1) := by
    show nI (hv s n (i + 2) - 96) - nI 1 = _
    rw [pk_sub (by omega)]
  have rp := hr (hv s n i - 96 - 1) (by omega)
  have rq := hr (hv s n (i + 2) - 96 - 1) (by omega)
  rw [ep, eq, nI_clamp (by omega), nI_clamp (by omega), hR _ (by omega), hR _ (by omega), nI_clamp (by omega), nI_clamp (by omega)]
  refine ⟨vp_in_nI (by omega) (by decide), vp_in_nI (by omega) (by decide), rp, vp_in_nI (by omega) (by decide), vp_in_nI (by omega) (by decide), rq, ?_⟩
  refine kX3_readTerms rp rq (termsX (P := fun z F A => (qi P) (some (.int z)) F A) hs hn h0 h2 rp rq (prS s n m (dlr A r) i x) (fun F j y hj q e => ⟨0, rfl, kOk F j y hj q e⟩) (fun F j hj q e => ⟨_, rfl, kF F 1 j q (by decide) (by decide) hj e⟩) 4 (i + 4) x 0 _ (by decide) (by omega) rfl hS4 base)
theorem pairsX {r : Nat → Nat} {m c : Nat} (hc : c < 6) (hs : ByX A s) (hn : n ≤ 80) (h0 : F0 202 2 = nI n) (h2 : I2 nb F0 A) (h161 : F0 161 (38 + 14 * c) = nI m) (hm : m ≤ 8) (hR : ∀ k, k < m → A (38 + 14 * c + 12) k = nI (r k)) (hr : ∀ k, k < m → r k < nb) (res : RS) (kD : ∀ F y, XFr F0 F → F 120 34 = y → res = (0, 0, y) → P 0 F A) (kF : ∀ F b j, XFr F0 F → 1 ≤ b → b ≤ 3 → j ≤ n → res = (b, j, 0) → P (nI (100 * b + j)) F A) : ∀ (d i k : Nat) (x x4 : Int32) (F : MI), 80 < i + d → i ≤ n → 2 * k ≤ i → x4 = nI k → XS F0 i x F → res = pairsS s n m (dlr A r) d i x → ZM l mX3_readPairs 6 w nb (qi P) 3 [(0, .ref 34), (1, .ref 2), (2, .ref (38 + 14 * c)), (3, .ref 4), (4, .int x4)] [] F A
  | 0, i, k, x, x4, F, hd, hi, hk, hx, hS, he => by omega
  | d + 1, i, k, x, x4, F, hd, hi, hk, hx, hS, he => by
    subst hx
    unfold pairsS at he
    refine vX3_readPairs_3 hc ⟨fun h => absurd h (nI_ge (b := 80) (by omega) (by decide)), fun _ => pairX hc hs hn h0 h2 h161 hm hR hr hi hS (fun F1 j y hj q e => z0 ?_) (fun F1 b j q b1 b2 hj e => ?_)⟩
    · rw [e] at he
      refine s_isAtEnd hn (q.len h0) q.2.1 (by omega) (fun hlt => z0 ?_) (fun hge => z1 ⟨0, rfl, kD F1 y q.1 q.2.2 ?_⟩)
      · refine s_skipIf hs hn (q.len h0) q.2.1 (by omega) (c := 59) (by decide) (by decide) (fun q59 => n1 ?_) (fun q59 => n0 (s_faultHere (k := 1) q.2.1 ⟨_, rfl, kF F1 1 j q.1 (by decide) (by decide) hj ?_⟩))
        · have e4 : sepS s n j y = (4, j + 1, y) := by unfold sepS; rw [if_neg (by omega), if_pos q59]
          rw [e4] at he e
          have := prS_next e
          rw [if_pos rfl] at he
          rw [nI_1]
          exact pairsX hc hs hn h0 h2 h161 hm hR hr res kD kF d (j + 1) (k + 1) y _ _ (by omega) (by omega) (by omega) rfl (q.at (j + 1)) he
        · have e4 : sepS s n j y = (1, j, 0) := by unfold sepS; rw [if_neg (by omega), if_neg q59]
          rw [e4, if_neg (by show ¬ 1 = 4; decide)] at he
          exact he
      · have e4 : sepS s n j y = (0, 0, y) := by unfold sepS; rw [if_pos hge]
        rw [e4, if_neg (by show ¬ 0 = 4; decide)] at he
        exact he
    · rw [e, if_neg (by show ¬ b = 4; omega)] at he
      exact ⟨fun z => absurd z (nI_ne0 (by omega) (by omega)), fun _ => ⟨_, rfl, kF F1 b j q b1 b2 hj he⟩⟩
/-- what REASONS give -/
def resV (res : RS) : Int32 := if res.1 = 0 then (if res.2.2 < 0 then 0 else res.2.2) else -(nI (100 * res.1 + res.2.1))
theorem s_score {r : Nat → Nat} {m c : Nat} (hc : c < 6) (hs : ByX A s) (hn : n ≤ 80) (h0 : F 202 2 = nI n) (h3 : F 203 2 = 0) (h2 : I2 nb F A) (h161 : F 161 (38 + 14 * c) = nI m) (hm : m ≤ 8) (hR : ∀ k, k < m → A (38 + 14 * c + 12) k = nI (r k)) (hr : ∀ k, k < m → r k < nb) (hP : ∀ F', XFr F F' → P (resV (pairsS s n m (dlr A r) 81 0 0)) F' A) : CM l mX3_score 7 w nb [.ref 34, .ref 2, .ref (38 + 14 * c), .ref 4] F A (qi P) := by
  have hS : XS F 0 0 (u2 F 120 34 0) := ⟨fun f a q => u2_ne (by omega), (u2_n1 (by decide)).trans h3, u2_s⟩
  generalize hres : pairsS s n m (dlr A r) 81 0 0 = res at hP
  refine kX3_score hc (kX3_readPairs hc (pairsX (F0 := F) hc hs hn h0 h2 h161 hm hR hr res (fun F1 y q e1 e => ?_) (fun F1 b j q b1 b2 hj e => ?_) 81 0 0 0 0 _ (show 80 < 0 + 81 by decide) (Nat.zero_le n) (show 2 * 0 ≤ 0 by decide) rfl hS hres.symm))
  · have h9 := hP F1 q
    rw [e] at h9
    unfold resV at h9
    rw [if_pos rfl] at h9
    rw [e1]
    exact z0 ⟨_, rfl, h9⟩
  · have := hP F1 q
    rw [e] at this
    refine ⟨fun z => absurd z (nI_ne0 (by omega) (by omega)), fun _ => ⟨_, rfl, ?_⟩⟩
    unfold resV at this
    rw [if_neg (show ¬ b = 0 by omega)] at this
    exact this
end REASX2
