/-! Integer.bitCount of a small set -/
theorem bc_ush {m k : Nat} (hm : m < 2 ^ 31) (hk : k < 32) : ((nI m).toUInt32 >>> ((nI k).toUInt32 &&& Int32.toUInt32 31)).toInt32 = nI (m / 2 ^ k) := by
  apply b_ext
  intro i hi
  rw [b_ushr k hk, bt_nI, bt_nI, ← Nat.shiftRight_eq_div_pow, Nat.testBit_shiftRight]
  by_cases h : k + i < 32
  · simp [h, hi]
  · have : m.testBit (k + i) = false := Nat.testBit_lt_two_pow (Nat.lt_of_lt_of_le hm (Nat.pow_le_pow_right (by decide) (by omega)))
    simp [h, this]
theorem bc_and {a q k r : Nat} (ha : a < 256) (hk : k < 256) : (a + 256 * q) &&& (k + 256 * r) = (a &&& k) + 256 * (q &&& r) := by
  have h1 := Nat.two_pow_add_eq_or_of_lt (i := 8) ha q
  have h2 := Nat.two_pow_add_eq_or_of_lt (i := 8) hk r
  have h3 : (a &&& k) < 2 ^ 8 := Nat.and_lt_two_pow _ hk
  have h4 := Nat.two_pow_add_eq_or_of_lt (i := 8) h3 (q &&& r)
  rw [Nat.add_comm a, Nat.add_comm k, Nat.add_comm (a &&& k)]
  show (2 ^ 8 * q + a) &&& (2 ^ 8 * r + k) = 2 ^ 8 * (q &&& r) + (a &&& k)
  apply Nat.eq_of_testBit_eq
  intro i
  rw [Nat.testBit_and, Nat.testBit_two_pow_mul_add _ ha, Nat.testBit_two_pow_mul_add _ hk, Nat.testBit_two_pow_mul_add _ h3]
  by_cases h : i < 8
  · simp [h, Nat.testBit_and]
  · simp [h, Nat.testBit_and]
def t1 (a : Nat) : Nat := a - (a / 2 &&& 85)
def t2 (a : Nat) : Nat := (a &&& 51) + (a / 4 &&& 51)
def t3 (a : Nat) : Nat := (a + a / 16) &&& 15
theorem c1a : ∀ a, a < 256 → ∀ q, q < 2 → (a / 2 + 128 * q) &&& 85 = a / 2 &&& 85 := by decide +kernel
theorem c2a : ∀ a, a < 256 → ∀ q, q < 4 → (a / 4 + 64 * q) &&& 51 = a / 4 &&& 51 := by decide +kernel
theorem c3a : ∀ a, a < 69 → ∀ q, q < 5 → (a + a / 16 + 16 * q) &&& 15 = t3 a := by decide +kernel
theorem cb : ∀ a, a < 256 → t2 (t1 a) < 69 ∧ t2 (t1 a) % 16 < 5 ∧ t3 (t2 (t1 a)) = fb_ct (fun i => a.testBit i) 8 := by decide +kernel
theorem and_le' (a b : Nat) : a &&& b ≤ a := Nat.and_le_left
/-- the lowest byte goes its own way -/
theorem s1_step {a q r : Nat} (ha : a < 256) : (a + 256 * q) - ((a + 256 * q) / 2 &&& (85 + 256 * r)) = t1 a + 256 * (q - (q / 2 &&& r)) := by
  have e : (a + 256 * q) / 2 = (a / 2 + 128 * (q % 2)) + 256 * (q / 2) := by omega
  have h1 : a / 2 + 128 * (q % 2) < 256 := by omega
  rw [e, bc_and h1 (by decide), c1a a ha _ (by omega)]
  have h2 := and_le' (a / 2) 85
  have h3 := and_le' (q / 2) r
  unfold t1
  omega
theorem s2_step {a q r : Nat} (ha : a < 256) : ((a + 256 * q) &&& (51 + 256 * r)) + ((a + 256 * q) / 4 &&& (51 + 256 * r)) = t2 a + 256 * ((q &&& r) + (q / 4 &&& r)) := by
  have e : (a + 256 * q) / 4 = (a / 4 + 64 * (q % 4)) + 256 * (q / 4) := by omega
  rw [e, bc_and (a := a / 4 + 64 * (q % 4)) (by omega) (by decide), bc_and ha (by decide), c2a a ha _ (by omega)]
  unfold t2
  omega
theorem s3_step {a q r : Nat} (ha : a < 69) (hq : q % 16 < 5) : ((a + 256 * q) + (a + 256 * q) / 16) &&& (15 + 256 * r) = t3 a + 256 * ((q + q / 16) &&& r) := by
  have e : (a + 256 * q) + (a + 256 * q) / 16 = (a + a / 16 + 16 * (q % 16)) + 256 * (q + q / 16) := by omega
  rw [e, bc_and (by omega) (by decide), c3a a ha _ hq]
theorem t1_le (a : Nat) : t1 a ≤ a := Nat.sub_le _ _
theorem ct_bytes {a b c : Nat} (ha : a < 256) (hb : b < 256) (hc : c < 16) : fb_ct (fun i => (a + 256 * (b + 256 * c)).testBit i) 32 = fb_ct (fun i => a.testBit i) 8 + fb_ct (fun i => b.testBit i) 8 + fb_ct (fun i => c.testBit i) 8 := by
  have e1 : ∀ x y i, x < 256 → (x + 256 * y).testBit i = if i < 8 then x.testBit i else y.testBit (i - 8) := fun x y i hx => by
    rw [Nat.add_comm]
    exact Nat.testBit_two_pow_mul_add y (i := 8) hx i
  have h1 := fb_ct_split (fun i => (a + 256 * (b + 256 * c)).testBit i) 8 24
  have h2 := fb_ct_split (fun i => (b + 256 * c).testBit i) 8 16
  have h3 := fb_ct_split (fun i => c.testBit i) 8 8
  rw [show (32 : Nat) = 8 + 24 from rfl, h1]
  have a1 : fb_ct (fun i => (a + 256 * (b + 256 * c)).testBit i) 8 = fb_ct (fun i => a.testBit i) 8 := fb_ct_cong (fun k hk => by rw [e1 _ _ _ ha, if_pos hk])
  have a2 : fb_ct (fun k => (a + 256 * (b + 256 * c)).testBit (8 + k)) 24 = fb_ct (fun i => (b + 256 * c).testBit i) (8 + 16) := fb_ct_cong (fun k hk => by rw [e1 _ _ _ ha, if_neg (by omega), Nat.add_sub_cancel_left])
  have a3 : fb_ct (fun i => (b + 256 * c).testBit i) 8 = fb_ct (fun i => b.testBit i) 8 := fb_ct_cong (fun k hk => by rw [e1 _ _ _ hb, if_pos hk])
  have a4 : fb_ct (fun k => (b + 256 * c).testBit (8 + k)) 16 = fb_ct (fun i => c.testBit i) (8 + 8) := fb_ct_cong (fun k hk => by rw [e1 _ _ _ hb, if_neg (by omega), Nat.add_sub_cancel_left])
  have a5 : fb_ct (fun k => c.testBit (8 + k)) 8 = 0 := fb_ct_zero.mpr (fun k _ => Nat.testBit_lt_two_pow (Nat.lt_of_lt_of_le hc (show 2 ^ 4 ≤ 2 ^ (8 + k) from Nat.pow_le_pow_right (by decide) (by omega))))
  rw [a1, a2, h2, a3, a4, h3, a5]
  omega
/-- SWAR over three bytes -/
theorem swar {m : Nat} (hm : m < 2 ^ 20) : ∃ p0 p1 p2, p0 ≤ 8 ∧ p1 ≤ 8 ∧ p2 ≤ 8 ∧ p0 + p1 + p2 = fb_ct (fun i => m.testBit i) 32 ∧ ∃ u v, u = m - (m / 2 &&& 1431655765) ∧ u < 2 ^ 20 ∧ v = (u &&& 858993459) + (u / 4 &&& 858993459) ∧ v < 2 ^ 24 ∧ (v + v / 16) &&& 252645135 = p0 + 256 * p1 + 65536 * p2 := by
  obtain ⟨a, b, c, ha, hb, hc, e⟩ : ∃ a b c, a < 256 ∧ b < 256 ∧ c < 16 ∧ m = a + 256 * (b + 256 * c) := ⟨m % 256, m / 256 % 256, m / 65536, by omega, by omega, by omega, by omega⟩
  subst e
  have ka := cb a ha
  have kb := cb b hb
  have kc := cb c (by omega)
  have b8 : ∀ x : Nat, fb_ct (fun i => x.testBit i) 8 ≤ 8 := fun x => fb_ct_le _ 8
  have eu : (a + 256 * (b + 256 * c)) - ((a + 256 * (b + 256 * c)) / 2 &&& 1431655765) = t1 a + 256 * (t1 b + 256 * t1 c) := by
    rw [show (1431655765 : Nat) = 85 + 256 * (85 + 256 * (85 + 256 * 85)) from rfl, s1_step ha, s1_step hb]
    congr 1
    congr 1
    congr 1
    congr 1
    have := s1_step (a := c) (q := 0) (r := 85) (by omega)
    simpa using this
  have la := t1_le a
  have lb := t1_le b
  have lc := t1_le c
  have ev : ((t1 a + 256 * (t1 b + 256 * t1 c)) &&& 858993459) + ((t1 a + 256 * (t1 b + 256 * t1 c)) / 4 &&& 858993459) = t2 (t1 a) + 256 * (t2 (t1 b) + 256 * t2 (t1 c)) := by
    rw [show (858993459 : Nat) = 51 + 256 * (51 + 256 * (51 + 256 * 51)) from rfl, s2_step (by omega), s2_step (by omega)]
    congr 1
    congr 1
    congr 1
    congr 1
    have := s2_step (a := t1 c) (q := 0) (r := 51) (by omega)
    simpa using this
  refine ⟨t3 (t2 (t1 a)), t3 (t2 (t1 b)), t3 (t2 (t1 c)), by rw [ka.2.2]; exact b8 a, by rw [kb.2.2]; exact b8 b, by rw [kc.2.2]; exact b8 c, ?_, _, _, rfl, ?_, rfl, ?_, ?_⟩
  · rw [ka.2.2, kb.2.2, kc.2.2, ct_bytes ha hb hc]
  · rw [eu]; omega
  · rw [eu, ev]; omega
  · rw [eu, ev, show (252645135 : Nat) = 15 + 256 * (15 + 256 * (15 + 256 * 15)) from rfl, s3_step ka.1 (by omega), s3_step kb.1 (by omega)]
    have := s3_step (a := t2 (t1 c)) (q := 0) (r := 15) kc.1 (by omega)
    have e2 : (t2 (t1 c) + t2 (t1 c) / 16) &&& (15 + 256 * 15) = t3 (t2 (t1 c)) := by simpa using this
    rw [e2]
    omega
theorem s_bitCount {l : Launch} {w : Nat → Nat} {nb : Nat} {F A : MI} {e : Int32} {P : Int32 → MI → MI → Prop} (h : ∀ b, bt e b = true → b < 20) (hP : P (nI (pcn e)) F A) : CM l mJ6_bitCount_0f7a4 1 w nb [.int e] F A (qi P) := by
  obtain ⟨m, hm, rfl⟩ := small_set h
  obtain ⟨p0, p1, p2, h0, h1, h2, hs, u, v, eu, hu, ev, hv, ew⟩ := swar hm
  have ep : pcn (nI m) = p0 + p1 + p2 := by
    rw [hs]
    unfold pcn
    exact fb_ct_cong (fun k hk => by rw [bt_nI]; simp [hk])
  refine kJ6_bitCount_0f7a4 ?_
  have E1 : nI m - (((nI m).toUInt32 >>> ((1 : Int32).toUInt32 &&& Int32.toUInt32 31)).toInt32 &&& 1431655765) = nI u := by
    have := bc_ush (m := m) (k := 1) (by omega) (by decide)
    rw [show (1 : Int32) = nI 1 from rfl, this, show (1431655765 : Int32) = nI 1431655765 from rfl, nx_and, pk_sub (Nat.le_trans (and_le' _ _) (by omega)), eu]
  rw [E1]
  have E2 : (nI u &&& 858993459) + (((nI u).toUInt32 >>> ((2 : Int32).toUInt32 &&& Int32.toUInt32 31)).toInt32 &&& 858993459) = nI v := by
    have := bc_ush (m := u) (k := 2) (by omega) (by decide)
    rw [show (2 : Int32) = nI 2 from rfl, this, show (858993459 : Int32) = nI 858993459 from rfl, nx_and, nx_and, nI_add, ev]
  rw [E2]
  have E3 : (nI v + ((nI v).toUInt32 >>> ((4 : Int32).toUInt32 &&& Int32.toUInt32 31)).toInt32) &&& 252645135 = nI (p0 + 256 * p1 + 65536 * p2) := by
    have := bc_ush (m := v) (k := 4) (by omega) (by decide)
    rw [show (4 : Int32) = nI 4 from rfl, this, nI_add, show (252645135 : Int32) = nI 252645135 from rfl, nx_and, ← ew]
  rw [E3]
  have E4 : nI (p0 + 256 * p1 + 65536 * p2) + ((nI (p0 + 256 * p1 + 65536 * p2)).toUInt32 >>> ((8 : Int32).toUInt32 &&& Int32.toUInt32 31)).toInt32 = nI ((p0 + p1) + 256 * (p1 + p2) + 65536 * p2) := by
    have := bc_ush (m := p0 + 256 * p1 + 65536 * p2) (k := 8) (by omega) (by decide)
    rw [show (8 : Int32) = nI 8 from rfl, this, nI_add]
    congr 1
    omega
  rw [E4]
  have E5 : nI ((p0 + p1) + 256 * (p1 + p2) + 65536 * p2) + ((nI ((p0 + p1) + 256 * (p1 + p2) + 65536 * p2)).toUInt32 >>> ((16 : Int32).toUInt32 &&& Int32.toUInt32 31)).toInt32 = nI ((p0 + p1 + p2) + 256 * (p1 + p2) + 65536 * p2) := by
    have := bc_ush (m := (p0 + p1) + 256 * (p1 + p2) + 65536 * p2) (k := 16) (by omega) (by decide)
    rw [show (16 : Int32) = nI 16 from rfl, this, nI_add]
    congr 1
    omega
  rw [E5]
  have E6 : nI ((p0 + p1 + p2) + 256 * (p1 + p2) + 65536 * p2) &&& 63 = nI (p0 + p1 + p2) := by
    have := fa_mask ((p0 + p1 + p2) + 256 * (p1 + p2) + 65536 * p2) 6
    rw [show (63 : Int32) = nI (2 ^ 6 - 1) from rfl, this]
    congr 1
    omega
  rw [E6, ← ep]
  exact ⟨_, rfl, hP⟩
