theorem first_cong {p q : Nat → Bool} : ∀ {n : Nat}, (∀ k, k < n → p k = q k) → fa_first p n = fa_first q n
  | 0, _ => rfl
  | n + 1, h => by
    have ih := first_cong (p := p) (q := q) (n := n) (fun k hk => h k (by omega))
    unfold fa_first
    rw [ih, h n (by omega)]
section LOCAL
variable {F F' A A' : MI} {w : Nat → Nat} {nb : Nat}
/-- M's words of CLASS c stay -/
def SameM (A A' : MI) (c : Nat) : Prop := A' 134 c = A 134 c ∧ (∀ j, j < 6 → A' 137 (6 * j + c) = A 137 (6 * j + c)) ∧ ∀ j k, j < 6 → k < 8 → A' 138 (8 * (6 * j + c) + k) = A 138 (8 * (6 * j + c) + k)
theorem posM_loc {c j : Nat} (h : ∀ k, k < 8 → A' 138 (8 * (6 * j + c) + k) = A 138 (8 * (6 * j + c) + k)) (b : Nat) : posM A' c j b = posM A c j b := by
  unfold posM
  exact first_cong (fun k hk => by rw [h k hk])
theorem winM_loc {c : Nat} (h : SameM A A' c) : winM A' c = winM A c := by
  funext a b
  unfold winM
  refine fb_ct_cong (fun j hj => ?_)
  rw [posM_loc (fun k hk => h.2.2 j k hj hk), posM_loc (fun k hk => h.2.2 j k hj hk), h.2.1 j hj]
theorem WS_loc {c : Nat} (h : SameM A A' c) : WS A' c = WS A c := by
  unfold WS
  rw [winM_loc h, h.1]
theorem fwM_loc {c : Nat} (h : SameM A A' c) : fwM A' c = fwM A c := by
  unfold fwM
  rw [WS_loc h, h.1]
theorem rowM_loc {c : Nat} (h : SameM A A' c) (k : Nat) : rowM A' c k = rowM A c k := by
  unfold rowM
  rw [WS_loc h, h.1]
/-- X's ORDERS of CLASS c give the same wins as M's -/
theorem winX_M {c : Nat} (h8 : I8 A) (hc : c < 6) : winX A c = winM A c := by
  funext a b
  unfold winX winM
  refine fb_ct_cong (fun j hj => ?_)
  obtain ⟨t, -, h2, h3, -, h5⟩ := h8 c j hc hj
  have e : ∀ b, posX A c j b = posM A c j b := fun b => by
    unfold posX posM
    exact first_cong (fun k hk => by rw [h5 k hk])
  rw [e, e, h2, h3]
/-- X's ORDERS of CLASS c stay -/
def SameX (A A' : MI) (c : Nat) : Prop := (∀ j, j < 6 → A' (38 + 14 * c + 11) j = A (38 + 14 * c + 11) j) ∧ ∀ j k, j < 6 → k < 8 → A' (38 + 14 * c + 5 + j) k = A (38 + 14 * c + 5 + j) k
theorem winX_loc {c : Nat} (h : SameX A A' c) : winX A' c = winX A c := by
  funext a b
  unfold winX
  refine fb_ct_cong (fun j hj => ?_)
  have e : ∀ b, posX A' c j b = posX A c j b := fun b => by
    unfold posX
    exact first_cong (fun k hk => by rw [h.2 j k hj hk])
  rw [e, e, h.1 j hj]
/-- what X.join left is THE JOINED ORDER of the words behind M's turn -/
theorem joined_of {c : Nat} {e : Int32} {A1 : MI} (hc : c < 6) (h8 : I8 A') (he : A' 134 c = e) (hX : SameX A1 A' c) (h1 : F' 167 (38 + 14 * c) = nI (Lf (WSX A1 c e) (pcn e) (2 ^ pcn e - 1))) (h2 : ∀ k, k < pcn e → A' (38 + 14 * c + 12) k = nI (mbr e (pick (WSX A1 c e) (pcn e) (ssq (WSX A1 c e) (pcn e) k)))) : F' 167 (38 + 14 * c) = nI (fwM A' c) ∧ ∀ k, k < pcn (A' 134 c) → A' (38 + 14 * c + 12) k = nI (rowM A' c k) := by
  have e1 : WSX A1 c e = WS A' c := by
    unfold WSX WS
    rw [← winX_loc hX, winX_M h8 hc, he]
  rw [e1] at h1 h2
  unfold fwM rowM
  rw [he]
  exact ⟨h1, h2⟩
/-- CLASS c of I8 by its words -/
theorem I8_loc {c j : Nat} (h : I8 A) (hc : c < 6) (hj : j < 6) (h0 : A' 134 c = A 134 c) (h1 : A' (38 + 14 * c + 11) j = A (38 + 14 * c + 11) j) (h2 : ∀ k, k < 8 → A' (38 + 14 * c + 5 + j) k = A (38 + 14 * c + 5 + j) k) (h3 : A' 137 (6 * j + c) = A 137 (6 * j + c)) (h4 : ∀ k, k < 8 → A' 138 (8 * (6 * j + c) + k) = A 138 (8 * (6 * j + c) + k)) : ∃ t, t ≤ 8 ∧ A' (38 + 14 * c + 11) j = nI t ∧ A' 137 (6 * j + c) = nI t ∧ (0 < t → ∃ f, Ord A' c j t f) ∧ ∀ k, k < 8 → A' (38 + 14 * c + 5 + j) k = A' 138 (8 * (6 * j + c) + k) := by
  obtain ⟨t, q1, q2, q3, q4, q5⟩ := h c j hc hj
  refine ⟨t, q1, by rw [h1]; exact q2, by rw [h3]; exact q3, fun ht => ?_, fun k hk => by rw [h2 k hk, h4 k hk]; exact q5 k hk⟩
  obtain ⟨f, g1, g2, g3⟩ := q4 ht
  exact ⟨f, fun k hk => ⟨(g1 k hk).1, by rw [h2 k (by omega)]; exact (g1 k hk).2.1, by rw [h4 k (by omega)]; exact (g1 k hk).2.2⟩, g2, fun b hb => g3 b (by rw [← h0]; exact hb)⟩
end LOCAL
/-! sizes of sets -/
theorem bt_nI (m i : Nat) : bt (nI m) i = (decide (i < 32) && m.testBit i) := by
  unfold bt nI
  show (BitVec.ofNat 32 m).getLsbD i = _
  rw [BitVec.getLsbD_ofNat]
theorem small_set {e : Int32} (h : ∀ b, bt e b = true → b < 20) : ∃ m, m < 2 ^ 20 ∧ e = nI m := by
  have he : e = nI e.toBitVec.toNat := Int32.toBitVec_inj.mp (by show _ = BitVec.ofNat 32 _; simp)
  refine ⟨e.toBitVec.toNat, Nat.lt_pow_two_of_testBit _ (fun i hi => ?_), he⟩
  have h1 : bt e i = false := by
    cases q : bt e i
    · rfl
    · have := h i q; omega
  have h2 := bt_nI e.toBitVec.toNat i
  rw [← he, h1] at h2
  by_cases q : i < 32
  · simpa [q] using h2.symm
  · exact Nat.testBit_lt_two_pow (Nat.lt_of_lt_of_le e.toBitVec.isLt (Nat.pow_le_pow_right (by decide) (by omega)))
theorem ct_shift (p : Nat → Bool) (n : Nat) : fb_ct p (n + 1) = (if p 0 = true then 1 else 0) + fb_ct (fun i => p (i + 1)) n := by
  have h := fb_ct_split p 1 n
  rw [Nat.add_comm 1 n] at h
  rw [h]
  have e1 : fb_ct p 1 = (if p 0 = true then 1 else 0) := by
    rw [fb_ct_succ]
    show 0 + _ = _
    rw [Nat.zero_add]
  have e2 : (fun k => p (1 + k)) = (fun i => p (i + 1)) := by funext k; rw [Nat.add_comm]
  rw [e1, e2]
theorem pop_less : ∀ (N m : Nat), 0 < m → m < 2 ^ N → fb_ct (fun i => m.testBit i && (m - 1).testBit i) N + 1 = fb_ct (fun i => m.testBit i) N
  | 0, m, h0, h => by omega
  | N + 1, m, h0, h => by
    rw [ct_shift, ct_shift]
    simp only [Nat.testBit_succ, Nat.testBit_zero]
    rcases Nat.mod_two_eq_zero_or_one m with q | q
    · have e1 : (m - 1) / 2 = m / 2 - 1 := by omega
      have ih := pop_less N (m / 2) (by omega) (by rw [Nat.pow_succ] at h; omega)
      rw [e1]
      have : ¬ (m % 2 = 1) := by omega
      simp only [this, decide_false, Bool.false_and, Bool.false_eq_true, if_false]
      omega
    · have e1 : (m - 1) / 2 = m / 2 := by omega
      have e2 : ¬ ((m - 1) % 2 = 1) := by omega
      rw [e1]
      simp only [q, e2, decide_true, decide_false, Bool.and_false, Bool.false_eq_true, if_false, if_true, Bool.and_self]
      omega
theorem pcn_nI {m : Nat} (h : m < 2 ^ 32) : pcn (nI m) = fb_ct (fun i => m.testBit i) 32 := by
  unfold pcn
  exact fb_ct_cong (fun k hk => by rw [bt_nI]; simp [hk])
theorem pcn_less {m : Nat} (h0 : 0 < m) (h : m < 2 ^ 31) : pcn (nI (m &&& (m - 1))) + 1 = pcn (nI m) := by
  have hle : m &&& (m - 1) ≤ m := Nat.and_le_left
  rw [pcn_nI (by omega), pcn_nI (by omega), ← pop_less 32 m h0 (by omega)]
  congr 1
  exact fb_ct_cong (fun k _ => by rw [Nat.testBit_and])
theorem pcn_0 : pcn (nI 0) = 0 := by
  rw [pcn_nI (by decide)]
  exact fb_ct_zero.mpr (fun k _ => Nat.zero_testBit k)
section SIZE
variable {l : Launch} {w : Nat → Nat} {nb : Nat} {F A : MI} {P : Int32 → MI → MI → Prop}
theorem sizeOf_loop {n : Nat} (hP : P (nI n) F A) : ∀ (m k : Nat) (x1 x2 : Int32), m < 2 ^ 31 → k + pcn (nI m) = n → x1 = nI k → x2 = nI m → ZM l mX8_sizeOf 1 w nb (qi P) 4 [(1, .int x1), (2, .int x2)] [] F A := by
  intro m
  induction m using Nat.strongRecOn with
  | _ m ih =>
    intro k x1 x2 hm hk h1 h2
    subst h1
    subst h2
    refine vX8_sizeOf_4 ⟨fun h => ⟨_, rfl, ?_⟩, fun h => ?_⟩
    · have : m = 0 := (nI_eq (by omega) (by decide)).mp h
      subst this
      rw [pcn_0] at hk
      rw [show k = n by omega]
      exact hP
    · have h0 : 0 < m := by
        rcases Nat.eq_zero_or_pos m with q | q
        · rw [q] at h; exact absurd rfl h
        · exact q
      have hle : m &&& (m - 1) ≤ m - 1 := Nat.and_le_right
      have e : nI m &&& (nI m - 1) = nI (m &&& (m - 1)) := by
        rw [nI_lit 1, pk_sub h0, nx_and]
      have := pcn_less h0 hm
      exact ih (m &&& (m - 1)) (by omega) (k + 1) _ _ (by omega) (by omega) (by rw [nI_1]) e
theorem s_sizeOf {e : Int32} (h : ∀ b, bt e b = true → b < 20) (hP : P (nI (pcn e)) F A) : CM l mX8_sizeOf 1 w nb [.int e] F A (qi P) := by
  obtain ⟨m, hm, rfl⟩ := small_set h
  exact kX8_sizeOf (sizeOf_loop hP m 0 0 _ (by omega) (by omega) rfl rfl)
theorem pcn_add {e : Int32} {b : Nat} (hb : b < 32) (h : bt e b = false) : pcn (e ||| (1 <<< (nI b &&& 31))) = pcn e + 1 := by
  have h1 := fb_ct_upd (bt e) true (i := b) (n := 32) hb
  rw [h] at h1
  unfold pcn
  have : bt (e ||| (1 <<< (nI b &&& 31))) = fun k => if k = b then true else bt e k := by
    funext k
    rw [bit_or hb]
    by_cases q : k = b
    · simp [q]
    · simp [q]
  rw [this]
  simpa using h1
theorem pcn_del {e : Int32} {b : Nat} (hb : b < 32) (h : bt e b = true) : pcn (e &&& ((1 <<< (nI b &&& 31)) ^^^ (-1))) + 1 = pcn e := by
  have h1 := fb_ct_upd (bt e) false (i := b) (n := 32) hb
  rw [h] at h1
  unfold pcn
  have : bt (e &&& ((1 <<< (nI b &&& 31)) ^^^ (-1))) = fun k => if k = b then false else bt e k := by
    funext k
    rw [bit_del hb]
    by_cases q : k = b
    · simp [q]
    · simp [q]
  rw [this]
  simpa using h1
end SIZE
