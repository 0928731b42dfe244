/-! reading the tape -/
def hv (s : Nat → Nat) (n i : Nat) : Nat := if i < n then s i else 0
def pkv (s : Nat → Nat) (n i : Nat) : Int32 := if i < n then nI (s i) else -1
def ByX (A : MI) (s : Nat → Nat) : Prop := ∀ k, k < 80 → A 3 k = nI (s k) ∧ s k < 256
def ByM (A : MI) (s : Nat → Nat) : Prop := ∀ k, k < 80 → A 123 k &&& 255 = nI (s k) ∧ s k < 256
theorem by_of {F A : MI} (h : I1 F A) : ∃ s, ByX A s ∧ ByM A s := by
  refine ⟨fun k => (A 3 k).toNatClampNeg, fun k hk => ?_, fun k hk => ?_⟩
  all_goals
    obtain ⟨v, h1, h2⟩ := b255 (A 123 k)
    have e := (h.2 k hk).1
    have e2 : A 3 k = nI v := e.trans h2
    show _ ∧ (A 3 k).toNatClampNeg < 256
    simp only [e2, nI_clamp (show v < 2 ^ 31 by omega)]
  · exact ⟨trivial, h1⟩
  · exact ⟨h2, h1⟩
section LEAF2
variable {l : Launch} {w : Nat → Nat} {nb : Nat} {F A F0 A0 : MI} {P : Int32 → MI → MI → Prop} {V : MI → MI → Prop} {s : Nat → Nat} {n i : Nat}
theorem hv_lt (hs : ∀ k, k < 80 → s k < 256) (hn : n ≤ 80) : hv s n i < 256 := by
  unfold hv
  split
  · exact hs i (by omega)
  · omega
theorem hv_in (h : hv s n i ≠ 0) : i < n := by
  unfold hv at h
  split at h
  · rename_i q; exact q
  · exact absurd rfl h
theorem pkv_eq (hs : ByX A s) (hn : n ≤ 80) {c : Nat} (h0 : c ≠ 0) (hc : c < 256) : pkv s n i = nI c ↔ hv s n i = c := by
  unfold pkv hv
  by_cases q : i < n
  · rw [if_pos q, if_pos q]
    exact nI_eq (by have := (hs i (by omega)).2; omega) (by omega)
  · rw [if_neg q, if_neg q]
    exact ⟨fun e => absurd e.symm (m1_ne (by omega)), fun e => absurd e.symm h0⟩
theorem pkv_toInt (hs : ByX A s) (hn : n ≤ 80) : (hv s n i ≠ 0 → (pkv s n i).toInt = hv s n i) ∧ (hv s n i = 0 → (pkv s n i).toInt ≤ 0 ∧ -1 ≤ (pkv s n i).toInt) := by
  unfold pkv hv
  by_cases q : i < n
  · rw [if_pos q, if_pos q, nI_toInt (by have := (hs i (by omega)).2; omega)]
    exact ⟨fun _ => rfl, fun e => by omega⟩
  · rw [if_neg q, if_neg q]
    exact ⟨fun e => absurd rfl e, fun _ => by decide⟩
theorem s_peek (hs : ByX A s) (hn : n ≤ 80) (h1 : F 202 2 = nI n) (h2 : F 203 2 = nI i) (hi : i < 200) (hP : P (pkv s n i) F A) : CM l mX5_peek 1 w nb [.ref 2] F A (qi P) := by
  refine kX5_peek ?_
  rw [h1, h2, nI_clamp (by omega)]
  unfold pkv at hP
  refine ⟨fun h => ⟨_, rfl, ?_⟩, fun h => ?_⟩
  · rw [if_neg (fun q => nI_ge q (by omega) h)] at hP; exact hP
  · have q : i < n := by
      rcases Nat.lt_or_ge i n with z | z
      · exact z
      · exact absurd (nI_le z (by omega)) h
    rw [if_pos q] at hP
    refine ⟨vp_in_nI (by omega) (by decide), _, rfl, ?_⟩
    rw [(hs i (by omega)).1]; exact hP
theorem s_skip (hn : n ≤ 80) (h1 : F 202 2 = nI n) (h2 : F 203 2 = nI i) (hi : i < n) (hP : V (u2 F 203 2 (nI (i + 1))) A) : CM l mX5_skip 1 w nb [.ref 2] F A (qv V) := by
  refine kX5_skip ?_
  rw [h1, h2, nI_1]
  exact ⟨fun h => absurd h (nI_ge hi (by omega)), fun _ => ⟨rfl, hP⟩⟩
theorem s_skipIf (hs : ByX A s) (hn : n ≤ 80) (h1 : F 202 2 = nI n) (h2 : F 203 2 = nI i) (hi : i < 200) {c : Nat} (h0 : c ≠ 0) (hc : c < 256) (k1 : hv s n i = c → P 1 (u2 F 203 2 (nI (i + 1))) A) (k0 : hv s n i ≠ c → P 0 F A) : CM l mX5_skipIf 2 w nb [.ref 2, .int (nI c)] F A (qi P) := by
  refine kX5_skipIf (s_peek hs hn h1 h2 hi ?_)
  rw [pkv_eq hs hn h0 hc]
  refine ⟨fun h => vX5_skipIf_13 (z0 ⟨Or.inl rfl, 0, rfl, k0 h⟩), fun h => vX5_skipIf_13 (z1 (s_skip hn h1 h2 (hv_in (s := s) (by omega)) ⟨Or.inr rfl, 1, rfl, k1 h⟩))⟩
theorem s_isAtEnd (hn : n ≤ 80) (h1 : F 202 2 = nI n) (h2 : F 203 2 = nI i) (hi : i < 200) (k0 : i < n → P 0 F A) (k1 : n ≤ i → P 1 F A) : CM l mX5_isAtEnd 1 w nb [.ref 2] F A (qi P) := by
  refine kX5_isAtEnd ?_
  rw [h1, h2]
  refine ⟨fun h => ⟨0, rfl, k0 ?_⟩, fun h => ⟨1, rfl, k1 ?_⟩⟩
  · have := i_lt.mp h
    rw [nI_toInt (by omega), nI_toInt (by omega)] at this
    omega
  · rcases Nat.lt_or_ge i n with z | z
    · exact absurd (nI_lt z (by omega)) h
    · exact z
theorem s_faultAt {k : Nat} (hP : P (nI (100 * k + i)) F A) : CM l mX5_faultAt 1 w nb [.ref 2, .int (nI k), .int (nI i)] F A (qi P) := by
  refine kX5_faultAt ?_
  rw [nI_lit 100, pk_mul, nI_add]
  exact ⟨_, rfl, hP⟩
theorem s_faultHere (h2 : F 203 2 = nI i) {k : Nat} (hP : P (nI (100 * k + i)) F A) : CM l mX5_faultHere 2 w nb [.ref 2, .int (nI k)] F A (qi P) := by
  refine kX5_faultHere ?_
  rw [h2]
  exact s_faultAt ⟨_, rfl, hP⟩
theorem s_isAtDigit (hs : ByX A s) (hn : n ≤ 80) (h1 : F 202 2 = nI n) (h2 : F 203 2 = nI i) (hi : i < 200) (k1 : 48 ≤ hv s n i → hv s n i ≤ 57 → P 1 F A) (k0 : ¬ (48 ≤ hv s n i ∧ hv s n i ≤ 57) → P 0 F A) : CM l mX5_isAtDigit 2 w nb [.ref 2] F A (qi P) := by
  have hp := pkv_toInt (i := i) hs hn
  have e48 : (48 : Int32).toInt = 48 := rfl
  have e57 : (57 : Int32).toInt = 57 := rfl
  refine kX5_isAtDigit (s_peek hs hn h1 h2 hi ⟨fun h => ⟨0, rfl, k0 ?_⟩, fun h => s_peek hs hn h1 h2 hi ⟨fun h3 => ⟨0, rfl, k0 ?_⟩, fun h3 => ⟨1, rfl, k1 ?_ ?_⟩⟩⟩)
  all_goals
    simp only [i_lt] at *
    by_cases z : hv s n i = 0
    · have := hp.2 z; omega
    · have := hp.1 z; omega
theorem s_here (hs : ByM A s) (hn : n ≤ 80) (h1 : F 342 122 = nI n) (h2 : F 341 122 = nI i) (hi : i < 200) (hP : P (nI (hv s n i)) F A) : CM l mX8_here 1 w nb [.ref 122] F A (qi P) := by
  refine kX8_here ?_
  rw [h1, h2, nI_clamp (by omega)]
  unfold hv at hP
  refine ⟨fun h => ⟨_, rfl, ?_⟩, fun h => ?_⟩
  · rw [if_neg (fun q => nI_ge q (by omega) h)] at hP; exact hP
  · have q : i < n := by
      rcases Nat.lt_or_ge i n with z | z
      · exact z
      · exact absurd (nI_le z (by omega)) h
    rw [if_pos q] at hP
    refine ⟨vp_in_nI (by omega) (by decide), _, rfl, ?_⟩
    rw [(hs i (by omega)).1]; exact hP
theorem s_fails0 {x1 x2 : Int32} (h : F 343 122 = 0) (hP : V (u2 (u2 F 343 122 x1) 344 122 x2) A) : CM l mX8_fails 1 w nb [.ref 122, .int x1, .int x2] F A (qv V) := by
  refine kX8_fails ?_
  rw [h]
  exact ⟨fun _ => ⟨rfl, hP⟩, fun h => absurd (by decide) h⟩
theorem s_fails1 {x1 x2 : Int32} {k : Nat} (h : F 343 122 = nI k) (h0 : 0 < k) (hk : k < 100) (hP : V F A) : CM l mX8_fails 1 w nb [.ref 122, .int x1, .int x2] F A (qv V) := by
  refine kX8_fails ?_
  rw [h]
  exact ⟨fun q => absurd q (nI_nle h0 (by omega)), fun _ => ⟨rfl, hP⟩⟩
theorem s_seesDigit (hs : ByM A s) (hn : n ≤ 80) (h1 : F 342 122 = nI n) (h2 : F 341 122 = nI i) (hi : i < 200) (k1 : 48 ≤ hv s n i → hv s n i ≤ 57 → P 1 F A) (k0 : ¬ (48 ≤ hv s n i ∧ hv s n i ≤ 57) → P 0 F A) : CM l mX8_seesDigit 2 w nb [.ref 122] F A (qi P) := by
  have hl : hv s n i < 256 := hv_lt (fun k hk => (hs k hk).2) hn
  refine kX8_seesDigit (s_here hs hn h1 h2 hi (s_lies (a := 48) (b := 57) rfl rfl (by decide) (by decide) (fun j h3 h4 e => ⟨Or.inr rfl, 1, rfl, ?_⟩) (fun h => ⟨Or.inl rfl, 0, rfl, k0 (fun q => h ⟨_, q.1, q.2, rfl⟩)⟩)))
  have := (nI_eq (by omega) (by omega)).mp e
  exact k1 (by omega) (by omega)
end LEAF2
