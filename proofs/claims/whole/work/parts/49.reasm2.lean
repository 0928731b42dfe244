section REASM2
variable {l : Launch} {w : Nat → Nat} {nb : Nat} {F A F0 A0 : MI} {P : Int32 → MI → MI → Prop} {V : MI → MI → Prop} {s : Nat → Nat} {n : Nat}
theorem pairM {r : Nat → Nat} {m i : Nat} {x : Int32} {A1 : MI} (hs : ByM A s) (hn : n ≤ 80) (h0 : F0 342 122 = nI n) (h345 : F0 345 122 = nI m) (hm : m ≤ 8) (h128 : ∀ j, A 128 j = A1 128 j) (hR : ∀ k, k < m → A 143 k = nI (r k)) (hr : ∀ k, k < m → r k < 20) (hi : i ≤ n) (hS : MS F0 i x F) (kOk : ∀ F j y, j ≤ n → MS F0 j y F → prS s n m (dlr A1 r) i x = sepS s n j y → V F A) (kF : ∀ F b j, MF F0 b j F → j ≤ n → prS s n m (dlr A1 r) i x = (b, j, 0) → V F A) : CM l mX8_pair 3 w nb [.ref 122] F A (qv V) := by
  refine kX8_pair (s_mplace hs hn h0 h345 hm hS (by omega) (fun q v F1 hF => ?_) (fun q1 q2 q3 v F1 hF => ?_) (fun q1 q2 q3 _ => ?_))
  · exact ⟨fun _ => failM24 hF (kF F1 1 i hF hi (by unfold prS; rw [if_pos q])), fun z => absurd z hF.ne⟩
  · refine ⟨fun _ => failM24 hF (kF F1 2 i hF hi ?_), fun z => absurd z hF.ne⟩
    rcases q3 with z | z
    · unfold prS; rw [if_neg (fun z => z ⟨q1, q2⟩), if_pos z]
    · exact absurd z (m1_ne (by omega))
  have hin : i < n := hv_in (s := s) (by omega)
  have hS1 := hS.at (i + 1)
  refine ⟨fun z => absurd hS1.2.2.1 z, fun _ => ?_⟩
  rw [hS.2.1]
  refine s_must hs hn h0 hS1 (by omega) (c := 62) (by decide) (fun q4 => ?_) (fun q4 F1 hF => failM24 hF (kF F1 1 (i + 1) hF hin (by unfold prS; rw [if_neg (fun z => z ⟨q1, q2⟩), if_neg q3, if_pos q4])))
  have hin1 : i + 1 < n := hv_in (s := s) (by omega)
  have hS2 := hS1.at (i + 1 + 1)
  refine vX8_pair_24 ⟨fun z => absurd hS2.2.2.1 z, fun _ => s_mplace hs hn h0 h345 hm hS2 (by omega) (fun q v F1 hF => failM40 hF (kF F1 1 (i + 2) hF hin1 ?_)) (fun p1 p2 p3 v F1 hF => failM40 hF (kF F1 2 (i + 2) hF hin1 ?_)) (fun p1 p2 p3 p4 => ?_)⟩
  · unfold prS; rw [if_neg (fun z => z ⟨q1, q2⟩), if_neg q3, if_neg (fun z => z q4), if_pos q]
  · unfold prS
    rw [if_neg (fun z => z ⟨q1, q2⟩), if_neg q3, if_neg (fun z => z q4), if_neg (fun z => z ⟨p1, p2⟩), if_pos]
    rcases p3 with z | z
    · exact Or.inl z
    · have := (nI_eq (by omega) (by omega)).mp z
      have p1' : 97 ≤ hv s n (i + 2) := p1
      have this' : hv s n (i + 2) - 96 = hv s n i - 96 := this
      exact Or.inr (by omega)
  have hin2 : i + 1 + 1 < n := hv_in (s := s) (by omega)
  have p1' : 97 ≤ hv s n (i + 2) := p1
  have p2' : hv s n (i + 2) ≤ 104 := p2
  have p3' : ¬ m < hv s n (i + 2) - 96 := p3
  have p4' : ¬ hv s n (i + 2) = hv s n i := fun z => p4 (by show nI (hv s n (i + 2) - 96) = _; rw [z])
  have base : prS s n m (dlr A1 r) i x = if hv s n (i + 2) < hv s n i then (3, i, 0) else if ¬ hv s n (i + 3) = 58 then (1, i + 3, 0) else tmS s n (dlr A1 r (hv s n i - 96) (hv s n (i + 2) - 96)) 4 (i + 4) x := by
    unfold prS
    rw [if_neg (fun z => z ⟨q1, q2⟩), if_neg q3, if_neg (fun z => z q4), if_neg (fun z => z ⟨p1, p2⟩), if_neg]
    rintro (y | y)
    · exact p3' y
    · exact p4' y
  have hS3 := hS2.at (i + 1 + 1 + 1)
  refine vX8_pair_40 ⟨fun z => absurd hS3.2.2.1 z, fun _ => ⟨fun q6 => ?_, fun q6 => s_fails0 hS3.2.2.1 ?_⟩⟩
  rotate_left
  · have hF := hS3.fail (by omega) (b := 3) (by decide) (by decide) i
    refine failM59 hF (kF _ 3 i hF hi ?_)
    rw [base, if_pos]
    rcases Nat.lt_or_ge (hv s n (i + 2)) (hv s n i) with z | z
    · exact z
    · exact absurd (nI_le (a := hv s n i - 96) (b := hv s n (i + 2) - 96) (by omega) (by omega)) q6
  have q6' : ¬ hv s n (i + 2) < hv s n i := fun z => nI_ge (a := hv s n (i + 2) - 96) (b := hv s n i - 96) (by omega) (by omega) q6
  rw [if_neg q6'] at base
  refine vX8_pair_59 ⟨fun z => absurd hS3.2.2.1 z, fun _ => s_must hs hn h0 hS3 (by omega) (c := 58) (by decide) (fun q7 => vX8_pair_72 ?_) (fun q7 F1 hF => vX8_pair_72 (failM75 hF (kF F1 1 (i + 3) hF hin2 (by rw [base, if_pos q7]))))⟩
  rw [if_neg (fun z => z q7)] at base
  have hin3 : i + 1 + 1 + 1 < n := hv_in (s := s) (by omega)
  have hS4 := hS3.at (i + 1 + 1 + 1 + 1)
  exact termsM hs hn h0 h128 ⟨by omega, by omega⟩ ⟨by omega, by omega⟩ (hr (hv s n i - 96 - 1) (by omega)) (hr (hv s n (i + 2) - 96 - 1) (by omega)) (hR _ (by omega)) (hR (hv s n (i + 2) - 96 - 1) (by omega)) (prS s n m (dlr A1 r) i x) kOk (fun F j hj q e => kF F 1 j q hj e) 4 (i + 4) x 0 _ (by decide) hin3 rfl hS4 base
theorem neg_fault (b p : Nat) : (-100 : Int32) * nI b - nI p = -(nI (100 * b + p)) := by
  have e : (-100 : Int32) = -(nI 100) := rfl
  rw [e, Int32.neg_mul, pk_mul, ← nI_add, Int32.neg_add]
theorem endM {b p : Nat} (h : MF F0 b p F) (hP : P (-(nI (100 * b + p))) F A) : ZM l mX8_reasons 4 w nb (qi P) 112 [(0, .ref 122)] [] F A := by
  refine vX8_reasons_112 ?_
  rw [h.2.1, h.2.2.1, neg_fault]
  exact ⟨fun z => absurd z (nI_nle (by have := h.2.2.2.2; omega) (by have := h.2.2.2.2; omega)), fun _ => ⟨_, rfl, hP⟩⟩
theorem loopM {r : Nat → Nat} {m : Nat} {A1 : MI} (hs : ByM A s) (hn : n ≤ 80) (h0 : F0 342 122 = nI n) (h345 : F0 345 122 = nI m) (hm : m ≤ 8) (h128 : ∀ j, A 128 j = A1 128 j) (hR : ∀ k, k < m → A 143 k = nI (r k)) (hr : ∀ k, k < m → r k < 20) (res : RS) (kP : ∀ F, MFr F0 F → P (resV res) F A) : ∀ (d i : Nat) (x : Int32) (F : MI), 80 < i + d → i ≤ n → MS F0 i x F → res = pairsS s n m (dlr A1 r) d i x → ZM l mX8_reasons 4 w nb (qi P) 38 [(0, .ref 122), (3, .int 1)] [] F A
  | 0, i, x, F, hd, hi, hS, he => by omega
  | d + 1, i, x, F, hd, hi, hS, he => by
    unfold pairsS at he
    have bad : ∀ (F1 : MI) (b p : Nat), MF F0 b p F1 → res = (b, p, 0) → P (-(nI (100 * b + p))) F1 A := fun F1 b p hF e => by
      have := kP F1 hF.1
      rw [e] at this
      unfold resV at this
      rw [if_neg (show ¬ b = 0 by have := hF.2.2.2.2; omega)] at this
      exact this
    have upM : ∀ {F1 : MI} {b p j : Nat}, MF F0 b p F1 → F1 341 122 = nI j → j < 180 → MF F0 b p (u2 F1 341 122 (F1 341 122 + 1)) := fun hF e hj => by
      rw [e, nI_1]; exact hF.at (by omega)
    refine vX8_reasons_38 ⟨fun z => absurd z (by decide), fun _ => ⟨fun z => absurd hS.2.2.1 z, fun _ => pairM hs hn h0 h345 hm h128 hR hr hi hS (fun F1 j y hj q e => ?_) (fun F1 b j q hj e => ?_)⟩⟩
    · rw [e] at he
      refine ⟨fun z => absurd q.2.2.1 z, fun _ => ?_⟩
      rw [q.len h0, q.2.1]
      refine ⟨fun z => ?_, fun z => ?_⟩
      · have hge : n ≤ j := by
          rcases Nat.lt_or_ge j n with u | u
          · exact absurd z (nI_ge u (by omega))
          · exact u
        have e4 : sepS s n j y = (0, 0, y) := by unfold sepS; rw [if_pos hge]
        rw [e4, if_neg (show ¬ 0 = 4 by decide)] at he
        refine vX8_reasons_75 (vX8_reasons_76 (z0 (vX8_reasons_99 ?_)))
        rw [q.2.1, nI_1]
        have q2 := q.at (j + 1)
        refine vX8_reasons_38 (z0 (vX8_reasons_112 ?_))
        have := kP _ q2.1
        rw [he] at this
        unfold resV at this
        rw [if_pos rfl] at this
        rw [q2.2.2.1, q2.2.2.2]
        refine ⟨fun _ => ⟨fun u => ⟨_, rfl, ?_⟩, fun u => ⟨_, rfl, ?_⟩⟩, fun u => absurd (by decide) u⟩
        · rw [if_neg (fun v => by rw [i_lt] at v; rw [i_le] at u; have : (0 : Int32).toInt = 0 := rfl; have v' : y.toInt < (0 : Int32).toInt := v; omega)] at this
          exact this
        · rw [if_pos (fa_of_nle u)] at this
          exact this
      · have hlt : j < n := by
          rcases Nat.lt_or_ge j n with u | u
          · exact u
          · exact absurd (nI_le u (by omega)) z
        have hl : hv s n j < 256 := hv_lt (fun k hk => (hs k hk).2) hn
        have k59 := nI_eq (a := hv s n j) (b := 59) (by omega) (by omega)
        refine vX8_reasons_76 (z1 (s_here hs hn (q.len h0) q.2.1 (by omega) ⟨fun u => vX8_reasons_99 ?_, fun u => ?_⟩))
        · have u' := k59.mp u
          have e4 : sepS s n j y = (4, j + 1, y) := by unfold sepS; rw [if_neg (by omega), if_pos u']
          rw [e4] at he e
          have := prS_next e
          rw [if_pos rfl] at he
          rw [q.2.1, nI_1]
          exact loopM hs hn h0 h345 hm h128 hR hr res kP d (j + 1) y _ (by omega) (by omega) (q.at (j + 1)) he
        · have u' : ¬ hv s n j = 59 := fun v => u (k59.mpr v)
          have e4 : sepS s n j y = (1, j, 0) := by unfold sepS; rw [if_neg (by omega), if_neg u']
          rw [e4, if_neg (show ¬ 1 = 4 by decide)] at he
          rw [q.2.1]
          have hF := q.fail (by omega) (b := 1) (by decide) (by decide) j
          refine s_fails0 q.2.2.1 (vX8_reasons_99 ?_)
          have hF2 := upM hF ((u2_n1 (by decide)).trans ((u2_n1 (by decide)).trans q.2.1)) (by omega)
          exact vX8_reasons_38 (z1 ⟨fun _ => endM hF2 (bad _ 1 j hF2 he), fun v => absurd v hF2.ne⟩)
    · rw [e, if_neg (show ¬ b = 4 by have := q.2.2.2.2; omega)] at he
      refine ⟨fun _ => vX8_reasons_75 (vX8_reasons_76 (z0 (vX8_reasons_99 (vX8_reasons_38 (z0 ?_))))), fun v => absurd v q.ne⟩
      obtain ⟨jj, h1, h2⟩ := q.2.2.2.1
      have fr : MFr F0 (u2 F1 341 122 (F1 341 122 + 1)) := fun f a v => (u2_ne (by omega)).trans (q.1 f a v)
      refine vX8_reasons_112 ?_
      rw [u2_n1 (by decide), u2_n1 (by decide), u2_n1 (by decide), q.2.1, q.2.2.1, neg_fault]
      refine ⟨fun z => absurd z (nI_nle (by have := q.2.2.2.2; omega) (by have := q.2.2.2.2; omega)), fun _ => ⟨_, rfl, ?_⟩⟩
      have := kP _ fr
      rw [he] at this
      unfold resV at this
      rw [if_neg (show ¬ b = 0 by have := q.2.2.2.2; omega)] at this
      exact this
theorem s_hasI {t : Nat} {x : Int32} (hF : F 201 2 = nI t) (ht : t ≤ 80) (h1 : ∀ n, n ≤ t → x = nI n → P 1 F A) (h0 : (¬ ∃ n, n ≤ t ∧ x = nI n) → P 0 F A) : CM l mX5_has 1 w nb [.ref 2, .int x] F A (qi P) := by
  refine kX5_has ?_
  rw [hF]
  have e0 : (0 : Int32).toInt = 0 := rfl
  have et := nI_toInt (n := t) (by omega)
  refine ⟨fun h => ⟨0, rfl, h0 ?_⟩, fun h => ⟨fun h2 => ⟨0, rfl, h0 ?_⟩, fun h2 => ⟨1, rfl, ?_⟩⟩⟩
  · rintro ⟨n, q1, q2⟩
    have := i_lt.mp h
    rw [q2, nI_toInt (by omega)] at this
    omega
  · rintro ⟨n, q1, q2⟩
    have := i_lt.mp h2
    have en := nI_toInt (n := n) (by omega)
    rw [q2, et, en] at this
    omega
  · rw [i_lt] at h h2
    obtain ⟨j, hj, e⟩ := (bel_iff (x := x) (n := t + 1) (by omega)).mpr ⟨by omega, by omega⟩
    exact h1 j (by omega) e
theorem s_startReading {t n : Nat} (hF : F 201 2 = nI t) (ht : t ≤ 80) (hn : n ≤ t) (hP : V (u2 (u2 F 203 2 0) 202 2 (nI n)) A) : CM l mX5_startReading 2 w nb [.ref 2, .int (nI n)] F A (qv V) :=
  kX5_startReading (s_has5 ((u2_n1 (by decide)).trans hF) ht (by omega) (fun _ => z1 ⟨rfl, hP⟩) (fun h => by omega))
/-- M's guard at the tape -/
theorem guardM {t : Nat} {x : Int32} {Q1 Q0 : Prop} (ht : t ≤ 80) (h1 : ∀ n, n ≤ t → x = nI n → Q1) (h0 : (¬ ∃ n, n ≤ t ∧ x = nI n) → Q0) : (x < 0 → Q0) ∧ (¬ x < 0 → ((x ≤ nI t → Q1) ∧ (¬ x ≤ nI t → Q0))) := by
  have e0 : (0 : Int32).toInt = 0 := rfl
  have et := nI_toInt (n := t) (by omega)
  refine ⟨fun h => h0 ?_, fun h => ⟨fun h2 => ?_, fun h2 => h0 ?_⟩⟩
  · rintro ⟨n, q1, q2⟩
    have := i_lt.mp h
    rw [q2, nI_toInt (by omega)] at this
    omega
  · rw [i_lt] at h
    rw [i_le] at h2
    obtain ⟨j, hj, e⟩ := (bel_iff (x := x) (n := t + 1) (by omega)).mpr ⟨by omega, by omega⟩
    exact h1 j (by omega) e
  · rintro ⟨n, q1, q2⟩
    exact h2 (by rw [q2]; exact nI_le q1 (by omega))
theorem op_reasons {x1 x2 : Int32} (hw : TW w) (hI : Inv w nb F A) : CM l mX7_reasons 8 w nb [.ref 1, .int x1, .int x2] F A (qi fun r F A => CM l mX8_reasons 4 w nb [.ref 122, .int x1, .int x2] F A (qi fun r' F A => r = r' ∧ Inv w nb F A)) := by
  obtain ⟨hn1, hn2, hn3, -⟩ := hI.2.1
  have h5 := hI.2.2.2.2.1
  have h8 := hI.2.2.2.2.2.2.2.1
  have h9 := hI.2.2.2.2.2.2.2.2.1
  obtain ⟨⟨t, ht, t1, t2⟩, hT⟩ := id hI.1
  obtain ⟨s, hsX, hsM⟩ := by_of hI.1
  have bad : (¬ Bel x1 6 ∨ ¬ ∃ n, n ≤ t ∧ x2 = nI n) → CM l mX8_reasons 4 w nb [.ref 122, .int x1, .int x2] F A (qi fun r' F A => -1 = r' ∧ Inv w nb F A) := by
    intro hb
    refine kX8_reasons (s_isClass (fun c hc e => z1 ?_) (fun _ => z0 ⟨-1, rfl, rfl, hI⟩))
    rw [t2]
    refine guardM ht (fun n q1 q2 => ?_) (fun _ => ⟨-1, rfl, rfl, hI⟩)
    rcases hb with z | z
    · exact absurd ⟨c, hc, e⟩ z
    · exact absurd ⟨n, q1, q2⟩ z
  refine kX7_reasons (s_classAt (fun c hc e => ?_) (fun h => ⟨-1, rfl, bad (Or.inl h)⟩))
  refine s_hasI t1 ht (fun n hn en => n1 ?_) (fun h => n0 ⟨-1, rfl, bad (Or.inr h)⟩)
  subst e
  subst en
  obtain ⟨g0, g1, g2, g3, g4, g5⟩ := h5 c hc
  refine s_startReading t1 ht hn ?_
  generalize hF1 : u2 (u2 F 203 2 0) 202 2 (nI n) = F1
  have f1 : ∀ f a, ¬ (a = 2 ∧ (f = 202 ∨ f = 203)) → F1 f a = F f a := fun f a q => by rw [← hF1]; exact (u2_ne (by omega)).trans (u2_ne (by omega))
  have f202 : F1 202 2 = nI n := by rw [← hF1]; exact u2_s
  have f203 : F1 203 2 = 0 := by rw [← hF1]; exact (u2_n1 (by decide)).trans u2_s
  have i2 : I2 nb F1 A := hI.2.1.cong (f1 _ _ (by omega)) (f1 _ _ (by omega)) (fun k i => f1 _ _ (by omega)) (fun _ _ _ _ => rfl) (fun _ _ => rfl)
  have hr20 : ∀ k, k < pcn (A 134 c) → rowM A c k < nb := fun k hk => g4 _ (row_mem g3 hk)
  generalize hrow : rowM A c = r at hr20
  have hXr : ∀ k, k < pcn (A 134 c) → A (38 + 14 * c + 12) k = nI (r k) := fun k hk => by rw [(h9 c hc).2 k hk, ← hrow]
  refine s_score (r := r) (m := pcn (A 134 c)) hc hsX (by omega) f202 f203 i2 ((f1 _ _ (by omega)).trans g2) g3 hXr hr20 (fun F2 hX => s_clear ⟨_, rfl, ?_⟩)
  generalize hF3 : Clr F2 = F3
  have f3 : ∀ f a, ¬ ((a = 2 ∧ (f = 201 ∨ f = 202 ∨ f = 203)) ∨ (f = 120 ∧ a = 34)) → F3 f a = F f a := fun f a q => by rw [← hF3]; exact (Clr_ne (by omega)).trans ((hX f a (by omega)).trans (f1 f a (by omega)))
  have f3z : F3 201 2 = 0 := by rw [← hF3]; exact Clr_s
  have i2' : I2 nb F3 A := hI.2.1.cong (f3 _ _ (by omega)) (f3 _ _ (by omega)) (fun k i => f3 _ _ (by omega)) (fun _ _ _ _ => rfl) (fun _ _ => rfl)
  have i5' : I5 nb F3 A := h5.cong (fun k c _ _ _ => f3 _ _ (by omega)) (fun _ => rfl) (fun _ => rfl)
  refine kX8_reasons (s_isClass (fun c' _ _ => z1 ?_) (fun h => absurd ⟨c, hc, rfl⟩ h))
  rw [f3 321 122 (by omega), t2]
  refine guardM ht (fun n' _ _ => ?_) (fun h => absurd ⟨n, hn, rfl⟩ h)
  refine s_joins' i2' i5' h8 hc (fun F4 A4 hJ j1 j2 j3 j4 j5 => kX8_begins ⟨rfl, ?_⟩)
  generalize hF5 : u2 (u2 (u2 (u2 (u2 F4 321 122 0) 342 122 (nI n)) 341 122 0) 343 122 0) 344 122 (-1) = F5
  have f5 : ∀ f a, ¬ (a = 122 ∧ (f = 321 ∨ f = 342 ∨ f = 341 ∨ f = 343 ∨ f = 344)) → F5 f a = F4 f a := fun f a q => by rw [← hF5]; exact (u2_ne (by omega)).trans ((u2_ne (by omega)).trans ((u2_ne (by omega)).trans ((u2_ne (by omega)).trans (u2_ne (by omega)))))
  have f342 : F5 342 122 = nI n := by rw [← hF5]; exact (u2_n1 (by decide)).trans ((u2_n1 (by decide)).trans ((u2_n1 (by decide)).trans u2_s))
  have f341 : F5 341 122 = 0 := by rw [← hF5]; exact (u2_n1 (by decide)).trans ((u2_n1 (by decide)).trans u2_s)
  have f343 : F5 343 122 = 0 := by rw [← hF5]; exact (u2_n1 (by decide)).trans u2_s
  have f321 : F5 321 122 = 0 := by rw [← hF5]; exact (u2_n1 (by decide)).trans ((u2_n1 (by decide)).trans ((u2_n1 (by decide)).trans ((u2_n1 (by decide)).trans u2_s)))
  have hS : MS F5 0 0 (u2 F5 350 122 0) := ⟨fun f a q => u2_ne (by omega), (u2_n1 (by decide)).trans f341, (u2_n1 (by decide)).trans f343, u2_s⟩
  generalize hres : pairsS s n (pcn (A 134 c)) (dlr A r) 81 0 0 = res
  refine loopM (F0 := F5) (r := r) (A1 := A) (fun k hk => by rw [hJ.2 123 k (by omega)]; exact hsM k hk) (by omega) f342 ((f5 _ _ (by omega)).trans j1) g3 (fun j => hJ.2 _ _ (by omega)) (fun k hk => by rw [j5 k hk, hrow]) (fun k hk => by have := hr20 k hk; omega) res (fun F6 h6 => ⟨rfl, ?_⟩) 81 0 0 _ (show 80 < 0 + 81 by decide) (Nat.zero_le n) hS hres.symm
  have f6 : ∀ f a, ¬ ((a = 2 ∧ (f = 201 ∨ f = 202 ∨ f = 203)) ∨ (f = 120 ∧ a = 34) ∨ (a = 122 ∧ (f = 321 ∨ f = 341 ∨ f = 342 ∨ f = 343 ∨ f = 344 ∨ f = 345 ∨ f = 350))) → F6 f a = F f a := fun f a q => (h6 f a (by omega)).trans ((f5 f a (by omega)).trans ((hJ.1 f a (by omega)).trans (f3 f a (by omega))))
  refine hI.exc hw (fun f a => (a = 2 ∧ (f = 201 ∨ f = 202 ∨ f = 203)) ∨ (f = 120 ∧ a = 34) ∨ (a = 122 ∧ (f = 321 ∨ f = 341 ∨ f = 342 ∨ f = 343 ∨ f = 344 ∨ f = 345 ∨ f = 350))) (fun a => 140 ≤ a ∧ a ≤ 143) (fun f a q => f6 f a q) (fun a j q => hJ.2 a j q) (Or.inr (⟨⟨0, by decide, ?_, ?_⟩, fun i hi => ?_⟩)) (Or.inl ⟨by omega, by omega, fun k i => by omega, fun a _ _ => by omega, fun i => by omega⟩) (Or.inl ⟨by omega, by omega⟩) (Or.inl ⟨by omega, by omega⟩) (Or.inl ⟨fun k c _ _ _ => by omega, by omega, by omega⟩) (Or.inl ⟨⟨by omega, by omega, by omega⟩, fun d _ => ⟨by omega, by omega, by omega⟩, fun a _ _ => by omega⟩) (Or.inl ⟨fun c _ => by omega, by omega⟩) (Or.inl ⟨by omega, fun c d _ _ _ => by omega, by omega, by omega⟩) (Or.inl ⟨fun c _ => by omega, by omega, fun c _ => by omega, by omega, by omega⟩) (Or.inl (fun a _ _ => by omega))
  · rw [h6 _ _ (by omega), f5 _ _ (by omega), hJ.1 _ _ (by omega), f3z]; rfl
  · rw [h6 _ _ (by omega), f321]; rfl
  · rw [hJ.2 3 i (by omega), hJ.2 123 i (by omega)]; exact hT i hi
end REASM2
