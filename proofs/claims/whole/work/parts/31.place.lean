/-! THE JOINED ORDER is a row of all that are ENTERED, each once -/
theorem pc8_zero : ∀ s, s < 256 → pc8 s = 0 → s = 0 := by decide +kernel
section ROW
variable {W : Nat → Nat → Nat} {n : Nat}
theorem ssq_bit (hn : n ≤ 8) {k y : Nat} (hk : k < n) (hy : y < 8) : (ssq W n (k + 1)).testBit y = ((ssq W n k).testBit y && decide (y ≠ pick W n (ssq W n k))) := by
  have h1 := ssq_lt (W := W) (n := n) k
  have h2 := pow8 hn
  have hp := pick_ok (W := W) hn h1 (ssq_pos hn hk)
  exact sets _ (by omega) _ (by omega) hp.2.1 y hy
theorem ssq_down (hn : n ≤ 8) {y : Nat} (hy : y < 8) : ∀ {k j : Nat}, k + j ≤ n → (ssq W n (k + j)).testBit y = true → (ssq W n k).testBit y = true
  | k, 0, _, h => h
  | k, j + 1, hk, h => by
    rw [← Nat.add_assoc, ssq_bit hn (by omega) hy, Bool.and_eq_true] at h
    exact ssq_down hn hy (by omega) h.1
theorem pick_inj (hn : n ≤ 8) {j k : Nat} (hj : j < k) (hk : k < n) : pick W n (ssq W n j) ≠ pick W n (ssq W n k) := by
  intro e
  have h1 := ssq_lt (W := W) (n := n) k
  have hp := pick_ok (W := W) hn h1 (ssq_pos hn hk)
  have h2 := ssq_down (W := W) hn (y := pick W n (ssq W n k)) (by omega) (k := j + 1) (j := k - (j + 1)) (by omega) (by rw [show j + 1 + (k - (j + 1)) = k by omega]; exact hp.2.1)
  rw [ssq_bit hn (by omega) (by omega), e] at h2
  simp at h2
theorem pick_all (hn : n ≤ 8) {x : Nat} (hx : x < n) : ∃ k, k < n ∧ pick W n (ssq W n k) = x := by
  have hz : ssq W n n = 0 := pc8_zero _ (by have := ssq_lt (W := W) (n := n) n; have := pow8 hn; omega) (by rw [ssq_pc hn n (Nat.le_refl n)]; omega)
  have key : ∀ j, j ≤ n → (ssq W n j).testBit x = true ∨ ∃ k, k < j ∧ pick W n (ssq W n k) = x := by
    intro j
    induction j with
    | zero =>
      intro _
      left
      show (2 ^ n - 1).testBit x = true
      rw [setF n hn x (by omega)]
      simp [hx]
    | succ j ih =>
      intro hj
      rcases ih (by omega) with q | ⟨k, q1, q2⟩
      · by_cases e : x = pick W n (ssq W n j)
        · exact Or.inr ⟨j, by omega, e.symm⟩
        · left
          rw [ssq_bit hn (by omega) (by omega), q]
          simp [e]
      · exact Or.inr ⟨k, by omega, q2⟩
  rcases key n (Nat.le_refl n) with q | q
  · rw [hz, Nat.zero_testBit] at q; cases q
  · exact q
end ROW
section PLACE
variable {l : Launch} {w : Nat → Nat} {nb : Nat} {F A F0 A0 : MI} {P : Int32 → MI → MI → Prop}
theorem row_mem {c k : Nat} (hp : pcn (A 134 c) ≤ 8) (hk : k < pcn (A 134 c)) : bt (A 134 c) (rowM A c k) = true :=
  (mbr_ok (pick_ok hp (ssq_lt k) (ssq_pos hp hk)).1).1
theorem row_inj {c j k : Nat} (hp : pcn (A 134 c) ≤ 8) (hj : j < pcn (A 134 c)) (hk : k < pcn (A 134 c)) (e : rowM A c j = rowM A c k) : j = k := by
  have h1 := mbr_inj (pick_ok hp (ssq_lt j) (ssq_pos hp hj)).1 (pick_ok hp (ssq_lt k) (ssq_pos hp hk)).1 e
  rcases Nat.lt_trichotomy j k with q | q | q
  · exact absurd h1 (pick_inj hp q hk)
  · exact q
  · exact absurd h1.symm (pick_inj hp q hj)
theorem row_all {c b : Nat} (hp : pcn (A 134 c) ≤ 8) (hb : bt (A 134 c) b = true) : ∃ k, k < pcn (A 134 c) ∧ rowM A c k = b := by
  obtain ⟨k, h1, h2⟩ := pick_all (W := WS A c) hp (ct_lt hb)
  exact ⟨k, h1, by unfold rowM; rw [h2, mbr_of hb]⟩
theorem row_le {c k : Nat} : rowM A c k ≤ 32 := by
  unfold rowM mbr
  exact fa_first_le _ 32
/-- the PLACE of b in CLASS c, less one; n if it has none -/
def plq (A : MI) (c b : Nat) : Nat := fa_first (fun k => rowM A c k == b) (pcn (A 134 c))
def plI (A : MI) (c b : Nat) : Int32 := if plq A c b < pcn (A 134 c) then nI (plq A c b + 1) else -1
theorem plq_le {c b : Nat} : plq A c b ≤ pcn (A 134 c) := by
  unfold plq
  exact fa_first_le _ _
theorem plq_yes {c b : Nat} (h : plq A c b < pcn (A 134 c)) : rowM A c (plq A c b) = b := by
  unfold plq at h ⊢
  have := fa_first_yes _ _ h
  simpa using this
theorem plq_no {c b k : Nat} (h : k < plq A c b) : ¬ rowM A c k = b := by
  intro e
  unfold plq at h
  have := fa_first_no _ _ k h
  simp [e] at this
theorem plq_ent {c b : Nat} (hp : pcn (A 134 c) ≤ 8) : plq A c b < pcn (A 134 c) ↔ bt (A 134 c) b = true := by
  constructor
  · intro h
    have := row_mem hp h
    rw [plq_yes h] at this
    exact this
  · intro h
    obtain ⟨k, h1, h2⟩ := row_all hp h
    rcases Nat.lt_or_ge (plq A c b) (pcn (A 134 c)) with q | q
    · exact q
    · exact absurd h2 (plq_no (by omega))
theorem plq_row {c k : Nat} (hp : pcn (A 134 c) ≤ 8) (hk : k < pcn (A 134 c)) : plq A c (rowM A c k) = k := by
  unfold plq
  refine first_is hk (by simp) (fun j hj => ?_)
  simp only [beq_eq_false_iff_ne]
  intro e
  have := row_inj hp (by omega) hk e
  omega
theorem placeNow_loop {c b : Nat} (hp : pcn (A0 134 c) ≤ 8) (hb : b < 2 ^ 31) (hF : F 345 122 = nI (pcn (A0 134 c))) (hR : ∀ k, k < pcn (A0 134 c) → A 143 k = nI (rowM A0 c k)) (hP : P (plI A0 c b) F A) : ∀ (d k : Nat) (x2 : Int32), k + d = pcn (A0 134 c) → x2 = nI k → k ≤ plq A0 c b → ZM l mX8_placeNow 1 w nb (qi P) 2 [(0, .ref 122), (1, .int (nI b)), (2, .int x2)] [] F A
  | 0, k, x2, hd, hx, hk => by
    subst hx
    refine vX8_placeNow_2 ?_
    rw [hF]
    have : ¬ plq A0 c b < pcn (A0 134 c) := by omega
    unfold plI at hP
    rw [if_neg this] at hP
    exact ⟨fun _ => ⟨-1, rfl, hP⟩, fun h => absurd (nI_le (by omega) (by omega)) h⟩
  | d + 1, k, x2, hd, hx, hk => by
    subst hx
    refine vX8_placeNow_2 ?_
    have hr := row_le (A := A0) (c := c) (k := k)
    rw [hF, nI_clamp (by omega), hR k (by omega)]
    refine ⟨fun h => absurd h (nI_ge (by omega) (by omega)), fun _ => ⟨vp_in_nI (by omega) (by decide), fun h => placeNow_loop hp hb hF hR hP d (k + 1) _ (by omega) (by rw [nI_1]) ?_, fun h => ⟨_, rfl, ?_⟩⟩⟩
    · rcases Nat.lt_or_ge k (plq A0 c b) with q | q
      · exact q
      · have e : plq A0 c b = k := by omega
        have := plq_yes (A := A0) (c := c) (b := b) (by omega)
        rw [e] at this
        exact absurd (by rw [this]) h
    · have e := (nI_eq (by omega) hb).mp h
      have e2 : plq A0 c b = k := by
        rcases Nat.lt_or_ge k (plq A0 c b) with q | q
        · exact absurd e (plq_no q)
        · omega
      unfold plI at hP
      rw [if_pos (by omega), e2] at hP
      rw [nI_1]
      exact hP
theorem s_placeNow {c b : Nat} (hp : pcn (A0 134 c) ≤ 8) (hb : b < 2 ^ 31) (hF : F 345 122 = nI (pcn (A0 134 c))) (hR : ∀ k, k < pcn (A0 134 c) → A 143 k = nI (rowM A0 c k)) (hP : P (plI A0 c b) F A) : CM l mX8_placeNow 1 w nb [.ref 122, .int (nI b)] F A (qi P) :=
  kX8_placeNow (placeNow_loop hp hb hF hR hP _ 0 0 (Nat.zero_add _) rfl (Nat.zero_le _))
theorem placeOf_loop {c b : Nat} (hc : c < 6) (hp : pcn (A0 134 c) ≤ 8) (hb : b < 2 ^ 31) (hF : F 161 (38 + 14 * c) = nI (pcn (A0 134 c))) (hR : ∀ k, k < pcn (A0 134 c) → A (38 + 14 * c + 12) k = nI (rowM A0 c k)) (hP : P (plI A0 c b) F A) : ∀ (d k : Nat) (x2 : Int32), k + d = pcn (A0 134 c) → x2 = nI k → k ≤ plq A0 c b → ZM l mX4_placeOf 1 w nb (qi P) 2 [(0, .ref (38 + 14 * c)), (1, .int (nI b)), (2, .int x2)] [] F A
  | 0, k, x2, hd, hx, hk => by
    subst hx
    refine vX4_placeOf_2 hc ?_
    rw [hF]
    have : ¬ plq A0 c b < pcn (A0 134 c) := by omega
    unfold plI at hP
    rw [if_neg this] at hP
    exact ⟨fun _ => ⟨-1, rfl, hP⟩, fun h => absurd (nI_le (by omega) (by omega)) h⟩
  | d + 1, k, x2, hd, hx, hk => by
    subst hx
    refine vX4_placeOf_2 hc ?_
    have hr := row_le (A := A0) (c := c) (k := k)
    rw [hF, nI_clamp (by omega), hR k (by omega)]
    refine ⟨fun h => absurd h (nI_ge (by omega) (by omega)), fun _ => ⟨vp_in_nI (by omega) (by decide), fun h => placeOf_loop hc hp hb hF hR hP d (k + 1) _ (by omega) (by rw [nI_1]) ?_, fun h => ⟨_, rfl, ?_⟩⟩⟩
    · rcases Nat.lt_or_ge k (plq A0 c b) with q | q
      · exact q
      · have e : plq A0 c b = k := by omega
        have := plq_yes (A := A0) (c := c) (b := b) (by omega)
        rw [e] at this
        exact absurd (by rw [this]) h
    · have e := (nI_eq (by omega) hb).mp h
      have e2 : plq A0 c b = k := by
        rcases Nat.lt_or_ge k (plq A0 c b) with q | q
        · exact absurd e (plq_no q)
        · omega
      unfold plI at hP
      rw [if_pos (by omega), e2] at hP
      rw [nI_1]
      exact hP
theorem s_placeOf {c b : Nat} (hc : c < 6) (h5 : I5 nb F A) (h9 : I9 F A) (hb : b < 2 ^ 31) (hP : P (plI A c b) F A) : CM l mX4_placeOf 1 w nb [.ref (38 + 14 * c), .int (nI b)] F A (qi P) :=
  kX4_placeOf hc (placeOf_loop hc (h5 c hc).2.2.2.1 hb (h5 c hc).2.2.1 (h9 c hc).2 hP _ 0 0 (Nat.zero_add _) rfl (Nat.zero_le _))
/-- joins, over Inv -/
theorem s_joins {c : Nat} {P : MI → MI → Prop} (hI : Inv w nb F0 A0) (hc : c < 6) (kk : ∀ F A, JF F0 A0 F A → F 345 122 = nI (pcn (A0 134 c)) → (∀ k, k < pcn (A0 134 c) → A 140 k = nI (mbr (A0 134 c) k)) → (∀ x y, x < pcn (A0 134 c) → y < pcn (A0 134 c) → A 141 (8 * x + y) = nI (WS A0 c x y)) → A 142 (2 ^ pcn (A0 134 c) - 1) = nI (fwM A0 c) → (∀ k, k < pcn (A0 134 c) → A 143 k = nI (rowM A0 c k)) → P F A) : CM l mX8_joins 3 w nb [.ref 122, .int (nI c)] F0 A0 (qv P) :=
  s_joins' hI.2.1 hI.2.2.2.2.1 hI.2.2.2.2.2.2.2.1 hc kk
theorem op_swaps {x1 : Int32} (hw : TW w) (hI : Inv w nb F A) : CM l mX7_swaps 3 w nb [.ref 1, .int x1] F A (qi fun r F A => CM l mX8_swaps 4 w nb [.ref 122, .int x1] F A (qi fun r' F A => r = r' ∧ Inv w nb F A)) := by
  refine kX7_swaps (s_classAt (fun c hc e => ⟨_, rfl, ?_⟩) (fun h => ⟨-1, rfl, kX8_swaps (s_isClass (fun c hc e => absurd ⟨c, hc, e⟩ h) (fun _ => n0 ⟨-1, rfl, rfl, hI⟩))⟩))
  subst e
  have hp := (hI.2.2.2.2.1 c hc).2.2.2.1
  have h256 := pow8 hp
  have hpos := Nat.two_pow_pos (pcn (A 134 c))
  refine kX8_swaps (s_isClass (fun c' _ _ => n1 ?_) (fun q => absurd ⟨c, hc, rfl⟩ q))
  refine s_joins hI hc (fun F1 A1 j1 j2 j3 j4 j5 j6 => ?_)
  rw [j2, setP _ hp, nI_lit 1, pk_sub hpos, nI_clamp (by omega), j5]
  exact ⟨vp_in_nI (by omega) (by decide), _, rfl, (hI.2.2.2.2.2.2.2.2.1 c hc).1, j1.inv hw hI⟩
theorem op_placed {x1 x2 : Int32} (hw : TW w) (hI : Inv w nb F A) : CM l mX7_placed 3 w nb [.ref 1, .int x1, .int x2] F A (qi fun r F A => CM l mX8_placed 4 w nb [.ref 122, .int x1, .int x2] F A (qi fun r' F A => r = r' ∧ Inv w nb F A)) := by
  refine kX7_placed (s_classAt (fun c hc e => ?_) (fun h => ⟨-1, rfl, kX8_placed (s_isClass (fun c hc e => absurd ⟨c, hc, e⟩ h) (fun _ => n0 ⟨-1, rfl, rfl, hI⟩))⟩))
  subst e
  obtain ⟨-, -, hs, hp, -⟩ := hI.2.2.2.2.1 c hc
  have bad : (¬ ∃ j, 1 ≤ j ∧ j ≤ pcn (A 134 c) ∧ x2 = nI j) → CM l mX8_placed 4 w nb [.ref 122, .int (nI c), .int x2] F A (qi fun r' F A => -1 = r' ∧ Inv w nb F A) := fun h =>
    kX8_placed (s_isClass (fun c' _ _ => n1 (s_joins hI hc (fun F1 A1 j1 j2 j3 j4 j5 j6 => s_lies (a := 1) (b := pcn (A 134 c)) rfl j2 (by decide) (by omega) (fun j q1 q2 e => absurd ⟨j, q1, q2, e⟩ h) (fun _ => z0 ⟨-1, rfl, rfl, j1.inv hw hI⟩)))) (fun q => absurd ⟨c, hc, rfl⟩ q))
  rw [hs]
  refine ⟨fun h => ⟨-1, rfl, bad (fun ⟨j, q1, q2, e⟩ => ?_)⟩, fun h => ⟨fun h2 => ?_, fun h2 => ⟨-1, rfl, bad (fun ⟨j, q1, q2, e⟩ => ?_)⟩⟩⟩
  · subst e
    exact absurd h (nI_nlt (a := j) (b := 1) q1 (by omega))
  · have e1 : (1 : Int32).toInt = 1 := rfl
    have e3 := nI_toInt (n := pcn (A 134 c)) (by omega)
    rw [i_lt] at h
    rw [i_le] at h2
    obtain ⟨j, hj, e⟩ := (bel_iff (x := x2) (n := pcn (A 134 c) + 1) (by omega)).mpr ⟨by omega, by omega⟩
    subst e
    have ej := nI_toInt (n := j) (by omega)
    have q1 : 1 ≤ j := by omega
    have es : nI j - 1 = nI (j - 1) := by rw [nI_lit 1, pk_sub q1]
    rw [es, nI_clamp (by omega)]
    refine ⟨vp_in_nI (by omega) (by decide), _, rfl, kX8_placed (s_isClass (fun c' _ _ => n1 ?_) (fun q => absurd ⟨c, hc, rfl⟩ q))⟩
    refine s_joins hI hc (fun F1 A1 j1 j2 j3 j4 j5 j6 => s_lies (a := 1) (b := pcn (A 134 c)) rfl j2 (by decide) (by omega) (fun j' _ _ _ => z1 ?_) (fun q => absurd ⟨j, q1, by omega, rfl⟩ q))
    rw [es, nI_clamp (by omega), j6 (j - 1) (by omega)]
    exact ⟨vp_in_nI (by omega) (by decide), _, rfl, (hI.2.2.2.2.2.2.2.2.1 c hc).2 (j - 1) (by omega), j1.inv hw hI⟩
  · subst e
    exact absurd (nI_le (a := j) (b := pcn (A 134 c)) q2 (by omega)) h2
end PLACE
