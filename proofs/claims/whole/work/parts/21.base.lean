theorem z1 {a b : Prop} (h : b) : ((1 : Int32) = 0 → a) ∧ (¬ (1 : Int32) = 0 → b) := ⟨fun e => absurd e (by decide), fun _ => h⟩
theorem z0 {a b : Prop} (h : a) : ((0 : Int32) = 0 → a) ∧ (¬ (0 : Int32) = 0 → b) := ⟨fun _ => h, fun e => absurd rfl e⟩
theorem n1 {a b : Prop} (h : a) : (¬ (1 : Int32) = 0 → a) ∧ ((1 : Int32) = 0 → b) := ⟨fun _ => h, fun e => absurd e (by decide)⟩
theorem n0 {a b : Prop} (h : b) : (¬ (0 : Int32) = 0 → a) ∧ ((0 : Int32) = 0 → b) := ⟨fun e => absurd rfl e, fun _ => h⟩
/-- x is a number below n -/
def Bel (x : Int32) (n : Nat) : Prop := ∃ j, j < n ∧ x = nI j
theorem bel_vp {x : Int32} {n : Nat} (hn : n < 2 ^ 31) : Bel x n ↔ vp_in x n := ⟨fun ⟨j, h, e⟩ => by rw [e]; exact vp_in_nI h hn, fun h => vp_in_of h hn⟩
theorem bel_iff {x : Int32} {n : Nat} (hn : n < 2 ^ 31) : Bel x n ↔ 0 ≤ x.toInt ∧ x.toInt < n := (bel_vp hn).trans vp_in_iff
theorem nI_lit (n : Nat) : (OfNat.ofNat n : Int32) = nI n := rfl
theorem i_lt {a b : Int32} : a < b ↔ a.toInt < b.toInt := Int32.lt_iff_toInt_lt
theorem i_le {a b : Int32} : a ≤ b ↔ a.toInt ≤ b.toInt := Int32.le_iff_toInt_le
section LEAF
variable {l : Launch} {w : Nat → Nat} {nb : Nat} {F A : MI} {P : Int32 → MI → MI → Prop}
theorem s_below {x y : Int32} {n : Nat} (hy : y = nI n) (hn : n < 2 ^ 31) (h1 : ∀ j, j < n → x = nI j → P 1 F A) (h0 : ¬ Bel x n → P 0 F A) : CM l mX7_isBelow 1 w nb [.int x, .int y] F A (qi P) := by
  subst hy
  have hI := nI_toInt hn
  have key := bel_iff (x := x) hn
  refine kX7_isBelow ⟨fun h => ⟨0, rfl, h0 (fun q => ?_)⟩, fun h => ⟨fun h2 => ⟨0, rfl, h0 (fun q => ?_)⟩, fun h2 => ?_⟩⟩
  · have := key.mp q; rw [i_lt] at h; have e0 : (0 : Int32).toInt = 0 := rfl; omega
  · have := key.mp q; rw [i_le] at h2; omega
  · rw [i_lt] at h; rw [i_le] at h2; have e0 : (0 : Int32).toInt = 0 := rfl
    obtain ⟨j, hj, e⟩ := key.mpr ⟨by omega, by omega⟩
    exact ⟨1, rfl, h1 j hj e⟩
/-- lies, from a to b -/
theorem s_lies {x y z : Int32} {a b : Nat} (hy : y = nI a) (hz : z = nI b) (ha : a < 2 ^ 30) (hb : b < 2 ^ 30) (h1 : ∀ j, a ≤ j → j ≤ b → x = nI j → P 1 F A) (h0 : (¬ ∃ j, a ≤ j ∧ j ≤ b ∧ x = nI j) → P 0 F A) : CM l mX8_lies 1 w nb [.int x, .int y, .int z] F A (qi P) := by
  subst hy
  subst hz
  have hI := nI_toInt (n := a) (by omega)
  have hJ := nI_toInt (n := b) (by omega)
  have key : (¬ ∃ j, a ≤ j ∧ j ≤ b ∧ x = nI j) ↔ (x.toInt < a ∨ (b : Int) < x.toInt) := by
    constructor
    · intro h
      rcases Int.lt_or_le x.toInt a with q | q
      · exact Or.inl q
      · rcases Int.lt_or_le (b : Int) x.toInt with q2 | q2
        · exact Or.inr q2
        · obtain ⟨j, hj, e⟩ := (bel_iff (x := x) (n := b + 1) (by omega)).mpr ⟨by omega, by omega⟩
          have e2 := nI_toInt (n := j) (by omega)
          rw [← e] at e2
          exact absurd ⟨j, by omega, by omega, e⟩ h
    · rintro h ⟨j, h2, h3, e⟩
      have e2 := nI_toInt (n := j) (by omega)
      rw [← e] at e2
      omega
  refine kX8_lies ⟨fun h => ⟨0, rfl, h0 (key.mpr (Or.inl ?_))⟩, fun h => ⟨fun h2 => ⟨0, rfl, h0 (key.mpr (Or.inr ?_))⟩, fun h2 => ?_⟩⟩
  · rw [i_lt] at h; omega
  · rw [i_lt] at h2; omega
  · rw [i_lt] at h h2
    rcases Classical.em (∃ j, a ≤ j ∧ j ≤ b ∧ x = nI j) with q | q
    · obtain ⟨j, q1, q2, e⟩ := q
      exact ⟨1, rfl, h1 j q1 q2 e⟩
    · have := key.mp q
      omega
theorem s_isClass {x : Int32} (h1 : ∀ c, c < 6 → x = nI c → P 1 F A) (h0 : ¬ Bel x 6 → P 0 F A) : CM l mX8_isClass 2 w nb [.int x] F A (qi P) :=
  kX8_isClass (s_lies (a := 0) (b := 5) rfl rfl (by decide) (by decide) (fun j _ h e => ⟨Or.inr rfl, 1, rfl, h1 j (by omega) e⟩) (fun h => ⟨Or.inl rfl, 0, rfl, h0 (fun ⟨j, q, e⟩ => h ⟨j, by omega, by omega, e⟩)⟩))
theorem nI_pred' {n : Nat} (h : n < 2 ^ 31) : (nI n - 1).toInt = (n : Int) - 1 := by
  have := nI_toInt h
  have e1 : (1 : Int32).toInt = 1 := rfl
  rw [Int32.toInt_sub, this, e1]
  exact fb_bmod (by omega) (by omega)
theorem s_isBeast {x : Int32} (hn : F 322 122 = nI nb) (hb : nb ≤ 20) (h1 : ∀ i, i < nb → x = nI i → P 1 F A) (h0 : ¬ Bel x nb → P 0 F A) : CM l mX8_isBeast 2 w nb [.ref 122, .int x] F A (qi P) := by
  refine kX8_isBeast ?_
  rw [hn]
  have key := bel_iff (x := x) (n := nb) (by omega)
  have e2 := nI_pred' (n := nb) (by omega)
  refine kX8_lies ⟨fun h => ⟨0, rfl, Or.inl rfl, 0, rfl, h0 (fun q => ?_)⟩, fun h => ⟨fun h2 => ⟨0, rfl, Or.inl rfl, 0, rfl, h0 (fun q => ?_)⟩, fun h2 => ?_⟩⟩
  · have := key.mp q; rw [i_lt] at h; have e0 : (0 : Int32).toInt = 0 := rfl; omega
  · have := key.mp q; rw [i_lt] at h2; omega
  · rw [i_lt] at h h2; have e0 : (0 : Int32).toInt = 0 := rfl
    obtain ⟨j, hj, e⟩ := key.mpr ⟨by omega, by omega⟩
    exact ⟨1, rfl, Or.inr rfl, 1, rfl, h1 j hj e⟩
theorem s_classAt {P0 : MI → MI → Prop} {P1 : Nat → MI → MI → Prop} {x : Int32} (h1 : ∀ c, c < 6 → x = nI c → P1 c F A) (h0 : ¬ Bel x 6 → P0 F A) : CM l mX7_classAt 2 w nb [.ref 1, .int x] F A (qc P0 P1) := by
  refine kX7_classAt (s_below (n := 6) rfl (by decide) (fun j hj e => z1 ?_) (fun h => z0 (Or.inl ⟨rfl, h0 h⟩)))
  subst e
  refine ⟨vp_in_nI hj (by decide), Or.inr ⟨j, hj, ?_, h1 j hj rfl⟩⟩
  rw [nI_clamp (by omega)]
theorem s_beastAt {P0 : MI → MI → Prop} {P1 : Nat → MI → MI → Prop} {x : Int32} (hn : F 288 1 = nI nb) (hb : nb ≤ 20) (h1 : ∀ i, i < nb → x = nI i → P1 i F A) (h0 : ¬ Bel x nb → P0 F A) : CM l mX7_beastAt 2 w nb [.ref 1, .int x] F A (qb nb P0 P1) := by
  refine kX7_beastAt (s_below (n := nb) hn (by omega) (fun j hj e => z1 ?_) (fun h => z0 (Or.inl ⟨rfl, h0 h⟩)))
  subst e
  refine ⟨vp_in_nI (by omega) (by decide), ?_, Or.inr ⟨j, hj, ?_, h1 j hj rfl⟩⟩
  · rw [nI_clamp (by omega)]; exact hj
  · rw [nI_clamp (by omega)]
/-- a bit of a set -/
theorem bt1 (k : Nat) : bt 1 k = decide (k = 0) := by
  by_cases h : k < 32
  · have : ∀ k, k < 32 → bt 1 k = decide (k = 0) := by decide +kernel
    exact this k h
  · rw [b_big (by omega)]; symm; rw [decide_eq_false_iff_not]; omega
theorem bit_sh {b : Nat} (hb : b < 32) (i : Nat) (hi : i < 32) : bt (1 <<< (nI b &&& 31)) i = decide (i = b) := by
  rw [b_shl b hb 1 hi, bt1]
  by_cases h : i = b
  · subst h; simp
  · rcases Nat.lt_or_ge i b with q | q
    · have : ¬ b ≤ i := by omega
      simp [this, h]
    · have : ¬ i - b = 0 := by omega
      simp [this, h]
theorem bit_has {m : Int32} {b : Nat} (hb : b < 31) : ((m >>> (nI b &&& 31)) &&& 1) = 1 ↔ bt m b = true := by
  have e : (m >>> (nI b &&& 31)) &&& 1 = if bt m b = true then 1 else 0 := by
    apply b_ext
    intro i hi
    rw [b_and, b_sshr b (by omega) m hi, bt1]
    by_cases h0 : i = 0
    · subst h0
      rw [if_pos (by omega)]
      by_cases hm : bt m b = true
      · simp [hm, bt1]
      · simp [hm, b_0]
    · by_cases hm : bt m b = true
      · simp [hm, h0, bt1]
      · simp [hm, h0, b_0]
  rw [e]
  by_cases hm : bt m b = true
  · simp [hm]
  · simp [hm]
theorem bit_and {m : Int32} {b : Nat} (hb : b < 32) : (m &&& (1 <<< (nI b &&& 31))) = 0 ↔ bt m b = false := by
  constructor
  · intro h
    have h2 := congrArg (fun x => bt x b) h
    simp only [b_and, bit_sh hb b hb, b_0, decide_true, Bool.and_true] at h2
    exact h2
  · intro h
    apply b_ext
    intro i hi
    rw [b_and, bit_sh hb i hi, b_0]
    by_cases e : i = b
    · subst e; simp [h]
    · simp [e]
theorem bit_or {m : Int32} {b : Nat} (hb : b < 32) (i : Nat) : bt (m ||| (1 <<< (nI b &&& 31))) i = (bt m i || decide (i = b)) := by
  by_cases hi : i < 32
  · rw [b_or, bit_sh hb i hi]
  · rw [b_big (by omega), b_big (by omega)]; symm; simp; omega
theorem bit_del {m : Int32} {b : Nat} (hb : b < 32) (i : Nat) : bt (m &&& ((1 <<< (nI b &&& 31)) ^^^ (-1))) i = (bt m i && !decide (i = b)) := by
  by_cases hi : i < 32
  · rw [b_and, b_xor, bit_sh hb i hi, b_m1 i hi]; simp
  · rw [b_big (by omega), b_big (by omega)]; rfl
theorem s_has {m : Int32} {b : Nat} (hb : b < 31) (h1 : bt m b = true → P 1 F A) (h0 : bt m b = false → P 0 F A) : CM l mX8_has 1 w nb [.int m, .int (nI b)] F A (qi P) := by
  refine kX8_has ⟨fun h => ⟨0, rfl, h0 ?_⟩, fun h => ⟨1, rfl, h1 ((bit_has hb).mp h)⟩⟩
  cases e : bt m b
  · rfl
  · exact absurd ((bit_has hb).mpr e) h
end LEAF
