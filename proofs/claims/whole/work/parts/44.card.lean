/-! CARDS -/
def cs (r : Nat → Nat) : Nat → Int32
  | 0 => 0
  | k + 1 => cs r k ||| (1 <<< (nI (r k) &&& 31))
theorem cs_bt {r : Nat → Nat} {n : Nat} (hr : ∀ k, k < n → r k < 20) : ∀ k, k ≤ n → ∀ b, bt (cs r k) b = true ↔ ∃ i, i < k ∧ r i = b
  | 0, _, b => by
    unfold cs
    rw [b_0]
    exact ⟨fun h => (by cases h), fun ⟨i, hi, _⟩ => absurd hi (Nat.not_lt_zero i)⟩
  | k + 1, hk, b => by
    unfold cs
    rw [bit_or (by have := hr k (by omega); omega), Bool.or_eq_true, cs_bt hr k (by omega) b, decide_eq_true_eq]
    constructor
    · rintro (⟨i, h1, h2⟩ | h)
      · exact ⟨i, by omega, h2⟩
      · exact ⟨k, by omega, h.symm⟩
    · rintro ⟨i, h1, h2⟩
      rcases Nat.lt_or_ge i k with z | z
      · exact Or.inl ⟨i, z, h2⟩
      · rw [show i = k by omega] at h2
        exact Or.inr h2.symm
theorem cs_pcn {r : Nat → Nat} {n : Nat} (hr : ∀ k, k < n → r k < 20) (hi : ∀ i k, i < k → k < n → r i ≠ r k) : ∀ k, k ≤ n → pcn (cs r k) = k
  | 0, _ => by
    unfold cs pcn
    exact fb_ct_zero.mpr (fun k _ => b_0 k)
  | k + 1, hk => by
    unfold cs
    rw [pcn_add (by have := hr k (by omega); omega), cs_pcn hr hi k (by omega)]
    cases z : bt (cs r k) (r k)
    · rfl
    · obtain ⟨i, h1, h2⟩ := (cs_bt hr k (by omega) (r k)).mp z
      exact absurd h2 (hi i k h1 (by omega))
/-- the CUTS from PLACE q on, d of them -/
def cb5 (A : MI) (c : Nat) : Nat → Nat → Int32
  | 0, _ => 0
  | d + 1, q => A 139 (3 * c + (q - 1)) + cb5 A c d (q + 1)
def pj (A : MI) (c : Nat) (g : Nat → Nat) (i : Nat) : Nat → Nat → Int32 → Int32
  | 0, _, x => x
  | d + 1, j, x => pj A c g i d (j + 1) (x - cb5 A c (g i - g j) (g j))
def pi5 (A : MI) (c : Nat) (g : Nat → Nat) (n : Nat) : Nat → Nat → Int32 → Int32
  | 0, _, x => x
  | d + 1, i, x => pi5 A c g n d (i + 1) (pj A c g i (n - (i + 1)) (i + 1) x)
section CARD
variable {l : Launch} {w : Nat → Nat} {nb : Nat} {F A F0 A0 : MI} {P : Int32 → MI → MI → Prop}
theorem card_len {n : Nat} (h : n ≤ 8) : (if (4 : Int32) < nI n then 4 else nI n) = nI (min n 4) := by
  by_cases z : 4 < n
  · have h4 : (4 : Int32) < nI n := nI_lt (a := 4) z (by omega)
    rw [if_pos h4, Nat.min_eq_right (by omega)]
    rfl
  · rw [if_neg (fun y => ?_), Nat.min_eq_left (by omega)]
    have := i_lt.mp y
    rw [nI_toInt (by omega)] at this
    have e : (4 : Int32).toInt = 4 := rfl
    omega
theorem s_cardLength {c n : Nat} (hc : c < 6) (hn : n ≤ 8) (hF : F 161 (38 + 14 * c) = nI n) (hP : P (nI (min n 4)) F A) : CM l mX4_cardLength 2 w nb [.ref (38 + 14 * c)] F A (qi P) := by
  refine kX4_cardLength hc ?_
  rw [hF, card_len hn]
  exact ⟨_, rfl, hP⟩
theorem cardBeasts_loop {c n : Nat} {r : Nat → Nat} (hc : c < 6) (hn : n ≤ 8) (hF : F 161 (38 + 14 * c) = nI n) (hR : ∀ k, k < n → A (38 + 14 * c + 12) k = nI (r k)) (hP : P (cs r (min n 4)) F A) : ∀ (d i : Nat) (x1 x2 : Int32), i + d = min n 4 → x2 = nI i → x1 = cs r i → ZM l mX4_cardBeasts 3 w nb (qi P) 4 [(0, .ref (38 + 14 * c)), (1, .int x1), (2, .int x2)] [] F A
  | 0, i, x1, x2, hd, hx, hy => by
    subst hx
    subst hy
    have : i = min n 4 := by omega
    rw [this]
    exact vX4_cardBeasts_4 hc (s_cardLength hc hn hF ⟨fun _ => ⟨_, rfl, hP⟩, fun h => absurd (Int32.le_refl _) h⟩)
  | d + 1, i, x1, x2, hd, hx, hy => by
    subst hx
    subst hy
    have h1 : i < min n 4 := by omega
    have h2 : min n 4 ≤ n := Nat.min_le_left _ _
    refine vX4_cardBeasts_4 hc (s_cardLength hc hn hF ⟨fun h => absurd h (nI_ge (a := i) h1 (by omega)), fun _ => ?_⟩)
    rw [nI_clamp (by omega), hR i (by omega)]
    exact ⟨vp_in_nI (by omega) (by decide), cardBeasts_loop hc hn hF hR hP d (i + 1) _ _ (by omega) (by rw [nI_1]) rfl⟩
theorem nI_p (k : Nat) : nI (k + 1) - 1 = nI k := by
  show nI (k + 1) - nI 1 = _
  rw [pk_sub (by omega)]
  congr 1
theorem cuts_loop {c p : Nat} (hc : c < 6) (h7 : I7 A) (hp : p ≤ 4) : ∀ (d q : Nat) (x3 x4 : Int32), d = p - q → 1 ≤ q → q ≤ 4 → x4 = nI q → P (x3 + cb5 A c d q) F A → ZM l mX4_cutsBetween 2 w nb (qi P) 9 [(0, .ref (38 + 14 * c)), (2, .int (nI p)), (3, .int x3), (4, .int x4)] [] F A
  | 0, q, x3, x4, hd, h1, h4, hx, hP => by
    subst hx
    refine vX4_cutsBetween_9 hc ⟨fun _ => ⟨_, rfl, ?_⟩, fun h => absurd (nI_le (by omega) (by omega)) h⟩
    unfold cb5 at hP
    rw [Int32.add_zero] at hP
    exact hP
  | d + 1, q, x3, x4, hd, h1, h4, hx, hP => by
    subst hx
    obtain ⟨q', rfl⟩ : ∃ q', q = q' + 1 := ⟨q - 1, by omega⟩
    refine vX4_cutsBetween_9 hc ⟨fun h => absurd h (nI_ge (by omega) (by omega)), fun _ => ⟨fun h => ?_, fun _ => ?_⟩⟩
    · have := i_lt.mp h
      rw [nI_toInt (by omega)] at this
      have e : (3 : Int32).toInt = 3 := rfl
      omega
    · rw [nI_p, nI_clamp (by omega)]
      refine ⟨vp_in_nI (by omega) (by decide), cuts_loop hc h7 hp d (q' + 1 + 1) _ _ (by omega) (by omega) (by omega) (by rw [nI_1]) ?_⟩
      obtain ⟨v, -, e1, e2⟩ := h7 c q' hc (by omega)
      unfold cb5 at hP
      rw [Nat.add_sub_cancel] at hP
      rw [e1, ← e2, Int32.add_assoc]
      exact hP
theorem s_cuts {c p q : Nat} (hc : c < 6) (h7 : I7 A) (hp : p ≤ 4) (h1 : 1 ≤ q) (h4 : q ≤ 4) (hP : P (cb5 A c (p - q) q) F A) : CM l mX4_cutsBetween 2 w nb [.ref (38 + 14 * c), .int (nI q), .int (nI p)] F A (qi P) := by
  refine kX4_cutsBetween hc ?_
  have e : (if nI q < 1 then (1 : Int32) else nI q) = nI q := if_neg (fun y => by
    have := i_lt.mp y
    rw [nI_toInt (by omega)] at this
    have e : (1 : Int32).toInt = 1 := rfl
    omega)
  rw [e]
  exact cuts_loop hc h7 hp (p - q) q 0 _ rfl h1 h4 rfl (by rw [Int32.zero_add]; exact hP)
/-- what the tape's BEASTS are, and their PLACES -/
def CG (A A0 : MI) (c n : Nat) (g : Nat → Nat) : Prop := ∀ k, k < n → ∃ v, v < 20 ∧ A 3 k = nI v ∧ A 123 k = nI v ∧ plI A0 c v = nI (g k) ∧ 1 ≤ g k ∧ g k ≤ 4
theorem scoreX_j {c m t i : Nat} {g : Nat → Nat} (hc : c < 6) (hI : Inv w nb F A) (hm : m ≤ 8) (hF : F 161 (38 + 14 * c) = nI m) (ht : F 201 2 = nI t) (h80 : t ≤ 80) (hmt : min m 4 ≤ t) (hg : CG A A c (min m 4) g) (hi : i < min m 4) : ∀ (d j : Nat) (x2 x4 : Int32), j + d = min m 4 → x4 = nI j → ZM l mX4_scoreCard 3 w nb (qi P) 5 [(0, .ref (38 + 14 * c)), (1, .ref 2), (2, .int (pj A c g i d j x2)), (3, .int (nI (i + 1)))] [] F A → ZM l mX4_scoreCard 3 w nb (qi P) 18 [(0, .ref (38 + 14 * c)), (1, .ref 2), (2, .int x2), (3, .int (nI i)), (4, .int x4)] [] F A
  | 0, j, x2, x4, hd, hx, kk => by
    subst hx
    have : j = min m 4 := by omega
    rw [this]
    refine vX4_scoreCard_18 hc (s_cardLength hc hm hF ⟨fun _ => ?_, fun h => absurd (Int32.le_refl _) h⟩)
    rw [nI_1]
    exact kk
  | d + 1, j, x2, x4, hd, hx, kk => by
    subst hx
    have hj : j < min m 4 := by omega
    have h4 : min m 4 ≤ 4 := Nat.min_le_right _ _
    refine vX4_scoreCard_18 hc (s_cardLength hc hm hF ⟨fun h => absurd h (nI_ge (a := j) hj (by omega)), fun _ => ?_⟩)
    obtain ⟨v, v1, v2, v3, v4, v5, v6⟩ := hg j hj
    obtain ⟨u, u1, u2, u3, u4, u5, u6⟩ := hg i hi
    refine s_byteAt ht h80 (by omega) ?_
    rw [v2]
    refine s_placeOf hc hI.2.2.2.2.1 hI.2.2.2.2.2.2.2.2.1 (by omega) ?_
    refine s_byteAt ht h80 (by omega) ?_
    rw [u2]
    refine s_placeOf hc hI.2.2.2.2.1 hI.2.2.2.2.2.2.2.2.1 (by omega) ?_
    rw [v4, u4]
    refine s_cuts hc hI.2.2.2.2.2.2.1 u6 v5 v6 ?_
    exact scoreX_j hc hI hm hF ht h80 hmt hg hi d (j + 1) _ _ (by omega) (by rw [nI_1]) kk
theorem scoreX_i {c m t : Nat} {g : Nat → Nat} (hc : c < 6) (hI : Inv w nb F A) (hm : m ≤ 8) (hF : F 161 (38 + 14 * c) = nI m) (ht : F 201 2 = nI t) (h80 : t ≤ 80) (hmt : min m 4 ≤ t) (hg : CG A A c (min m 4) g) : ∀ (d i : Nat) (x2 x3 : Int32), i + d = min m 4 → x3 = nI i → P (if pi5 A c g (min m 4) d i x2 < 0 then 0 else pi5 A c g (min m 4) d i x2) F A → ZM l mX4_scoreCard 3 w nb (qi P) 5 [(0, .ref (38 + 14 * c)), (1, .ref 2), (2, .int x2), (3, .int x3)] [] F A
  | 0, i, x2, x3, hd, hx, kk => by
    subst hx
    have : i = min m 4 := by omega
    rw [this]
    exact vX4_scoreCard_5 hc (s_cardLength hc hm hF ⟨fun _ => ⟨_, rfl, kk⟩, fun h => absurd (Int32.le_refl _) h⟩)
  | d + 1, i, x2, x3, hd, hx, kk => by
    subst hx
    have hi : i < min m 4 := by omega
    have h4 : min m 4 ≤ 4 := Nat.min_le_right _ _
    refine vX4_scoreCard_5 hc (s_cardLength hc hm hF ⟨fun h => absurd h (nI_ge (a := i) hi (by omega)), fun _ => ?_⟩)
    refine scoreX_j hc hI hm hF ht h80 hmt hg hi (min m 4 - (i + 1)) (i + 1) _ _ (by omega) (by rw [nI_1]) ?_
    exact scoreX_i hc hI hm hF ht h80 hmt hg d (i + 1) _ _ (by omega) rfl kk
/-! the same, M's -/
theorem cardM_set {c n : Nat} {r : Nat → Nat} (hn : n ≤ 8) (hR : ∀ k, k < n → A 143 k = nI (r k)) (kk : CM l mX8_isRowOf 2 w nb [.ref 122, .int (cs r n)] F A (qi fun r1 F1 A1 => ((¬ r1 = 0 → ZM l mX8_card 4 w nb (qi P) 100 [(0, .ref 122), (1, .int (nI c)), (2, .int (nI n)), (4, .int 50), (5, .int 0)] [] F1 A1) ∧ (r1 = 0 → P (-1) F1 A1)))) : ∀ (d i : Nat) (x3 x4 : Int32), i + d = n → x4 = nI i → x3 = cs r i → ZM l mX8_card 4 w nb (qi P) 59 [(0, .ref 122), (1, .int (nI c)), (2, .int (nI n)), (3, .int x3), (4, .int x4)] [] F A
  | 0, i, x3, x4, hd, hx, hy => by
    subst hx
    subst hy
    have : i = n := by omega
    subst this
    exact vX8_card_59 ⟨fun _ => kk.monoi (fun r F A q => ⟨q.1, fun z => ⟨_, rfl, q.2 z⟩⟩), fun h => absurd (Int32.le_refl _) h⟩
  | d + 1, i, x3, x4, hd, hx, hy => by
    subst hx
    subst hy
    refine vX8_card_59 ⟨fun h => absurd h (nI_ge (a := i) (by omega) (by omega)), fun _ => ?_⟩
    rw [nI_clamp (by omega), hR i (by omega)]
    exact ⟨vp_in_nI (by omega) (by decide), cardM_set hn hR kk d (i + 1) _ _ (by omega) (by rw [nI_1]) rfl⟩
theorem cardM_k {c n i j p : Nat} (hc : c < 6) (h139 : ∀ k, A 139 k = A0 139 k) (hp : p ≤ 4) : ∀ (d q : Nat) (x4 x9 : Int32), d = p - q → 1 ≤ q → q ≤ 4 → x9 = nI q → ZM l mX8_card 4 w nb (qi P) 112 [(0, .ref 122), (1, .int (nI c)), (2, .int (nI n)), (4, .int (x4 - cb5 A0 c d q)), (5, .int (nI i)), (6, .int (nI (j + 1)))] [] F A → ZM l mX8_card 4 w nb (qi P) 148 [(0, .ref 122), (1, .int (nI c)), (2, .int (nI n)), (4, .int x4), (5, .int (nI i)), (6, .int (nI j)), (7, .int (nI p)), (9, .int x9)] [] F A
  | 0, q, x4, x9, hd, h1, h4, hx, kk => by
    subst hx
    refine vX8_card_148 ⟨fun _ => ?_, fun h => absurd (nI_le (by omega) (by omega)) h⟩
    unfold cb5 at kk
    rw [Int32.sub_zero] at kk
    rw [nI_1]
    exact kk
  | d + 1, q, x4, x9, hd, h1, h4, hx, kk => by
    subst hx
    obtain ⟨q', rfl⟩ : ∃ q', q = q' + 1 := ⟨q - 1, by omega⟩
    refine vX8_card_148 ⟨fun h => absurd h (nI_ge (by omega) (by omega)), fun _ => ?_⟩
    have e : (3 * nI c + nI (q' + 1) - 1 : Int32) = nI (3 * c + q') := by
      rw [nI_lit 3, pk_mul, nI_add, ← Nat.add_assoc, nI_p]
    rw [e, nI_clamp (by omega), h139]
    refine ⟨vp_in_nI (by omega) (by decide), cardM_k hc h139 hp d (q' + 1 + 1) _ _ (by omega) (by omega) (by omega) (by rw [nI_1]) ?_⟩
    unfold cb5 at kk
    rw [Nat.add_sub_cancel] at kk
    have e2 : ∀ x a b : Int32, x - (a + b) = x - a - b := fun x a b => by
      rw [Int32.sub_eq_add_neg, Int32.neg_add, Int32.sub_eq_add_neg, ← Int32.add_assoc, ← Int32.sub_eq_add_neg x a, ← Int32.sub_eq_add_neg]
    rw [e2] at kk
    exact kk
theorem cardM_j {c m i : Nat} {g : Nat → Nat} (hc : c < 6) (hp : pcn (A0 134 c) ≤ 8) (hF : F 345 122 = nI (pcn (A0 134 c))) (hR : ∀ k, k < pcn (A0 134 c) → A 143 k = nI (rowM A0 c k)) (h139 : ∀ k, A 139 k = A0 139 k) (hn : m ≤ 4) (hg : CG A A0 c m g) (hi : i < m) : ∀ (d j : Nat) (x4 x6 : Int32), j + d = m → x6 = nI j → ZM l mX8_card 4 w nb (qi P) 100 [(0, .ref 122), (1, .int (nI c)), (2, .int (nI m)), (4, .int (pj A0 c g i d j x4)), (5, .int (nI (i + 1)))] [] F A → ZM l mX8_card 4 w nb (qi P) 112 [(0, .ref 122), (1, .int (nI c)), (2, .int (nI m)), (4, .int x4), (5, .int (nI i)), (6, .int x6)] [] F A
  | 0, j, x4, x6, hd, hx, kk => by
    subst hx
    have : j = m := by omega
    rw [this]
    refine vX8_card_112 ⟨fun _ => ?_, fun h => absurd (Int32.le_refl _) h⟩
    rw [nI_1]
    exact kk
  | d + 1, j, x4, x6, hd, hx, kk => by
    subst hx
    obtain ⟨v, v1, v2, v3, v4, v5, v6⟩ := hg j (by omega)
    obtain ⟨u, u1, u2, u3, u4, u5, u6⟩ := hg i hi
    refine vX8_card_112 ⟨fun h => absurd h (nI_ge (a := j) (by omega) (by omega)), fun _ => ⟨vp_in_nI (by omega) (by decide), ?_⟩⟩
    rw [nI_clamp (by omega), u3]
    refine s_placeNow (A0 := A0) (c := c) hp (by omega) hF hR ⟨vp_in_nI (by omega) (by decide), ?_⟩
    rw [nI_clamp (by omega), v3]
    refine s_placeNow (A0 := A0) (c := c) hp (by omega) hF hR ?_
    rw [v4, u4]
    refine cardM_k (A0 := A0) hc h139 u6 (g i - g j) (g j) _ _ rfl v5 v6 rfl ?_
    exact cardM_j hc hp hF hR h139 hn hg hi d (j + 1) _ _ (by omega) rfl kk
theorem cardM_i {c m : Nat} {g : Nat → Nat} (hc : c < 6) (hp : pcn (A0 134 c) ≤ 8) (hF : F 345 122 = nI (pcn (A0 134 c))) (hR : ∀ k, k < pcn (A0 134 c) → A 143 k = nI (rowM A0 c k)) (h139 : ∀ k, A 139 k = A0 139 k) (hn : m ≤ 4) (hg : CG A A0 c m g) : ∀ (d i : Nat) (x4 x5 : Int32), i + d = m → x5 = nI i → P (if pi5 A0 c g m d i x4 < 0 then 0 else pi5 A0 c g m d i x4) F A → ZM l mX8_card 4 w nb (qi P) 100 [(0, .ref 122), (1, .int (nI c)), (2, .int (nI m)), (4, .int x4), (5, .int x5)] [] F A
  | 0, i, x4, x5, hd, hx, kk => by
    subst hx
    have : i = m := by omega
    rw [this]
    have kk2 : P (if x4 < 0 then 0 else x4) F A := kk
    refine vX8_card_100 ⟨fun _ => ⟨fun h => ⟨_, rfl, ?_⟩, fun h => ⟨_, rfl, ?_⟩⟩, fun h => absurd (Int32.le_refl _) h⟩
    · rw [if_neg (fun y => by have h1 := i_lt.mp y; have h2 := i_le.mp h; omega)] at kk2; exact kk2
    · rw [if_pos (fa_of_nle h)] at kk2; exact kk2
  | d + 1, i, x4, x5, hd, hx, kk => by
    subst hx
    refine vX8_card_100 ⟨fun h => absurd h (nI_ge (a := i) (by omega) (by omega)), fun _ => ?_⟩
    refine cardM_j hc hp hF hR h139 hn hg (by omega) (m - (i + 1)) (i + 1) _ _ (by omega) (by rw [nI_1]) ?_
    exact cardM_i hc hp hF hR h139 hn hg d (i + 1) _ _ (by omega) rfl kk
theorem op_card {x1 : Int32} (hw : TW w) (hI : Inv w nb F A) : CM l mX7_card 4 w nb [.ref 1, .int x1] F A (qi fun r F A => CM l mX8_card 4 w nb [.ref 122, .int x1] F A (qi fun r' F A => r = r' ∧ Inv w nb F A)) := by
  obtain ⟨hn1, hn2, hn3, -⟩ := hI.2.1
  have h5 := hI.2.2.2.2.1
  have h8 := hI.2.2.2.2.2.2.2.1
  have h9 := hI.2.2.2.2.2.2.2.2.1
  obtain ⟨⟨t, ht, t1, t2⟩, hT⟩ := id hI.1
  have mlen : ∀ n, n ≤ 8 → ∀ (F2 A2 : MI) (Q : Int32 → Prop), Q (nI (min n 4)) → ((4 : Int32) ≤ nI n → Q 4) ∧ (¬ (4 : Int32) ≤ nI n → Q (nI n)) := fun n hn F2 A2 Q q => by
    refine ⟨fun h => ?_, fun h => ?_⟩
    · have : 4 ≤ n := by
        rcases Nat.lt_or_ge n 4 with z | z
        · exact absurd h (nI_ge (b := 4) z (by decide))
        · exact z
      rw [Nat.min_eq_right this] at q
      exact q
    · have : n ≤ 4 := by
        rcases Nat.lt_or_ge n 4 with z | z
        · omega
        · exact absurd (nI_le (a := 4) z (by omega)) h
      rw [Nat.min_eq_left this] at q
      exact q
  have bad : (¬ Bel x1 6 ∨ ∃ c, c < 6 ∧ x1 = nI c ∧ (pcn (A 134 c) < 2 ∨ t < min (pcn (A 134 c)) 4)) → CM l mX8_card 4 w nb [.ref 122, .int x1] F A (qi fun r' F A => -1 = r' ∧ Inv w nb F A) := by
    intro hb
    refine kX8_card (s_isClass (fun c hc e => n1 ?_) (fun _ => n0 ⟨-1, rfl, rfl, hI⟩))
    subst e
    have g3 := (h5 c hc).2.2.2.1
    refine s_joins hI hc (fun F2 A2 hJ j1 j2 j3 j4 j5 => ?_)
    rw [j1]
    refine mlen _ g3 F2 A2 (fun s0 => ZM l mX8_card 4 w nb (qi fun r' F A => -1 = r' ∧ Inv w nb F A) 30 [(0, .ref 122), (1, .int (nI c))] [.int s0] F2 A2) (vX8_card_30 ?_)
    rw [j1, hJ.1 321 122 (by omega), t2]
    refine ⟨fun _ => ⟨_, rfl, rfl, hJ.inv hw hI⟩, fun h => ⟨fun h2 => ?_, fun _ => ⟨_, rfl, rfl, hJ.inv hw hI⟩⟩⟩
    rcases hb with z | ⟨c', hc', ec, z⟩
    · exact absurd ⟨c, hc, rfl⟩ z
    · have := (nI_eq (by omega) (by omega)).mp ec
      subst this
      rcases z with z | z
      · exact absurd (nI_lt (b := 2) z (by decide)) h
      · exact absurd h2 (nI_ge z (by omega))
  refine kX7_card (s_classAt (fun c hc e => ?_) (fun h => ⟨-1, rfl, bad (Or.inl h)⟩))
  obtain ⟨g0, g1, g2, g3, g4, g5⟩ := h5 c hc
  have bad2 := fun z => bad (Or.inr ⟨c, hc, e, z⟩)
  subst e
  rw [g2]
  have m4 : min (pcn (A 134 c)) 4 ≤ 4 := Nat.min_le_right _ _
  have mn : min (pcn (A 134 c)) 4 ≤ pcn (A 134 c) := Nat.min_le_left _ _
  refine ⟨fun h => ⟨-1, rfl, bad2 (Or.inl ?_)⟩, fun h => s_cardLength hc g3 g2 (s_has5 t1 ht (by omega) (fun hle => n1 ?_) (fun z => n0 ⟨-1, rfl, bad2 (Or.inr z)⟩))⟩
  · have := i_lt.mp h
    rw [nI_toInt (by omega)] at this
    have e : (2 : Int32).toInt = 2 := rfl
    omega
  have h2 : 2 ≤ pcn (A 134 c) := by
    rcases Nat.lt_or_ge (pcn (A 134 c)) 2 with z | z
    · exact absurd (nI_lt (b := 2) z (by decide)) h
    · exact z
  have hr20 : ∀ k, k < pcn (A 134 c) → rowM A c k < 20 := fun k hk => by have := g4 _ (row_mem g3 hk); omega
  have hinj : ∀ i k, i < k → k < pcn (A 134 c) → rowM A c i ≠ rowM A c k := fun i k h1 h2 e => by have := row_inj g3 (by omega) h2 e; omega
  have hplq : ∀ k, k < pcn (A 134 c) → plq A c (rowM A c k) = k := fun k hk => plq_row g3 hk
  have hpl : ∀ v, plq A c v < pcn (A 134 c) → plI A c v = nI (plq A c v + 1) := fun v hv => by unfold plI; rw [if_pos hv]
  generalize hrow : rowM A c = r at hr20 hinj hplq
  have hXr : ∀ k, k < pcn (A 134 c) → A (38 + 14 * c + 12) k = nI (r k) := fun k hk => by rw [(h9 c hc).2 k hk, ← hrow]
  refine kX4_cardBeasts hc (cardBeasts_loop (r := r) hc g3 g2 hXr ?_ (min (pcn (A 134 c)) 4) 0 0 0 (by omega) rfl rfl)
  have hpc := cs_pcn hr20 hinj (min (pcn (A 134 c)) 4) mn
  have hbt := cs_bt hr20 (min (pcn (A 134 c)) 4) mn
  have hb20 : ∀ b, bt (cs r (min (pcn (A 134 c)) 4)) b = true → b < 20 := fun b hb => by
    obtain ⟨i, h1, h2⟩ := (hbt b).mp hb
    rw [← h2]; exact hr20 i (by omega)
  have i2 : I2 nb (Clr F) A := hI.2.1.cong (Clr_ne (by omega)) (Clr_ne (by omega)) (fun k i => Clr_ne (by omega)) (fun _ _ _ _ => rfl) (fun _ _ => rfl)
  have i5 : I5 nb (Clr F) A := h5.cong (fun k c _ _ _ => Clr_ne (by omega)) (fun _ => rfl) (fun _ => rfl)
  -- M, up to the row
  have toM : ∀ x : Int32, (∀ F2 A2, JF (Clr F) A F2 A2 → F2 345 122 = nI (pcn (A 134 c)) → (∀ k, k < pcn (A 134 c) → A2 143 k = nI (rowM A c k)) → CM l mX8_isRowOf 2 w nb [.ref 122, .int (cs r (min (pcn (A 134 c)) 4))] (u2 F2 321 122 0) A2 (qi fun r1 F1 A1 => ((¬ r1 = 0 → ZM l mX8_card 4 w nb (qi fun r' F A => x = r' ∧ Inv w nb F A) 100 [(0, .ref 122), (1, .int (nI c)), (2, .int (nI (min (pcn (A 134 c)) 4))), (4, .int 50), (5, .int 0)] [] F1 A1) ∧ (r1 = 0 → (x = -1 ∧ Inv w nb F1 A1))))) → CM l mX8_card 4 w nb [.ref 122, .int (nI c)] (Clr F) A (qi fun r' F A => x = r' ∧ Inv w nb F A) := by
    intro x kk
    refine kX8_card (s_isClass (fun c' _ _ => n1 ?_) (fun h => absurd ⟨c, hc, rfl⟩ h))
    refine s_joins' i2 i5 h8 hc (fun F2 A2 hJ j1 j2 j3 j4 j5 => ?_)
    rw [j1]
    refine mlen _ g3 F2 A2 (fun s0 => ZM l mX8_card 4 w nb (qi fun r' F A => x = r' ∧ Inv w nb F A) 30 [(0, .ref 122), (1, .int (nI c))] [.int s0] F2 A2) (vX8_card_30 ?_)
    rw [j1, hJ.1 321 122 (by omega), Clr_ne (by omega), t2]
    refine ⟨fun h => ?_, fun _ => ⟨fun _ => ?_, fun h => absurd (nI_le hle (by omega)) h⟩⟩
    · have := i_lt.mp h
      rw [nI_toInt (by omega)] at this
      have e : (2 : Int32).toInt = 2 := rfl
      omega
    · exact cardM_set (r := r) (by omega) (fun k hk => by rw [j5 k (by omega), hrow]) (kk F2 A2 hJ j1 j5) (min (pcn (A 134 c)) 4) 0 0 0 (by omega) rfl rfl
  have hT2 : ∀ F2 A2, JF (Clr F) A F2 A2 → ∀ i, i < 80 → A2 3 i = A2 123 i &&& 255 ∧ (A2 123 i).toInt8.toInt32 = A2 123 i := fun F2 A2 hJ i hi => by
    rw [hJ.2 3 i (by omega), hJ.2 123 i (by omega)]; exact hT i hi
  have hInv : ∀ F2 A2, JF (Clr F) A F2 A2 → Inv w nb (u2 F2 321 122 0) A2 := fun F2 A2 hJ => by
    refine JF.inv (F0 := u2 (Clr F) 321 122 0) (A0 := A) ⟨fun f a q => ?_, hJ.2⟩ hw (hI.clr hw)
    by_cases z : f = 321 ∧ a = 122
    · rw [z.1, z.2, u2_s, u2_s]
    · rw [u2_ne z, u2_ne z]; exact hJ.1 f a q
  have e3 : ∀ F2 A2, JF (Clr F) A F2 A2 → A2 3 = A 3 := fun F2 A2 hJ => by funext k; exact hJ.2 3 k (by omega)
  refine s_names t1 ht (by rw [hpc]; exact hle) hb20 (fun hR => z1 ?_) (fun hR => z0 (vX7_card_60 (s_clear ⟨-1, rfl, toM (-1) (fun F2 A2 hJ j1 j5 => ?_)⟩)))
  rotate_left
  · refine s_isRow hb20 (by rw [hpc]; omega) (hT2 F2 A2 hJ) (fun y => absurd (by rw [e3 F2 A2 hJ] at y; exact y) hR) (fun _ => n0 ⟨rfl, hInv F2 A2 hJ⟩)
  -- the CARD is scored
  have hgg : CG A A c (min (pcn (A 134 c)) 4) (fun k => plq A c (A 3 k).toNatClampNeg + 1) := by
    intro k hk
    obtain ⟨v, v1, v2, v3, -⟩ := hR k (by rw [hpc]; exact hk)
    obtain ⟨i, i1, i3⟩ := (hbt v).mp v3
    have e1 : plq A c v = i := by rw [← i3]; exact hplq i (by omega)
    have e2 : (A 3 k).toNatClampNeg = v := by rw [v2, nI_clamp (by omega)]
    refine ⟨v, v1, v2, byte_of v1 ?_ (hT k (by omega)).2, ?_, ?_, ?_⟩
    · rw [← (hT k (by omega)).1, v2]
    · show plI A c v = nI (plq A c (A 3 k).toNatClampNeg + 1)
      rw [e2]; exact hpl v (by omega)
    · show 1 ≤ plq A c (A 3 k).toNatClampNeg + 1
      omega
    · show plq A c (A 3 k).toNatClampNeg + 1 ≤ 4
      rw [e2]; omega
  generalize (fun k => plq A c (A 3 k).toNatClampNeg + 1) = g at hgg
  refine kX4_scoreCard hc (scoreX_i hc hI g3 g2 t1 ht hle hgg (min (pcn (A 134 c)) 4) 0 50 0 (by omega) rfl ?_)
  refine vX7_card_60 (s_clear ⟨_, rfl, toM _ (fun F2 A2 hJ j1 j5 => ?_)⟩)
  refine s_isRow hb20 (by rw [hpc]; omega) (hT2 F2 A2 hJ) (fun _ => n1 ?_) (fun y => absurd (by rw [e3 F2 A2 hJ]; exact hR) y)
  refine cardM_i (A0 := A) hc g3 (by rw [u2_ne (by omega)]; exact j1) j5 (fun k => hJ.2 _ _ (by omega)) m4 (fun k hk => ?_) (min (pcn (A 134 c)) 4) 0 50 0 (by omega) rfl ⟨rfl, hInv F2 A2 hJ⟩
  obtain ⟨v, q1, q2, q3, q4⟩ := hgg k hk
  exact ⟨v, q1, by rw [hJ.2 3 k (by omega)]; exact q2, by rw [hJ.2 123 k (by omega)]; exact q3, q4⟩
end CARD
