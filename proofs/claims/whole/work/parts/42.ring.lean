/-! RINGS -/
def rsel (k a b c : Nat) : Nat := if k = 0 then a else if k = 1 then b else c
def rgp (W : Nat → Nat → Nat) (a b c : Nat) : Bool := decide (W b a < W a b) && (decide (W c b < W b c) && decide (W a c < W c a))
def rgc (W : Nat → Nat → Nat) (k a b : Nat) : Nat → Nat → Option Nat
  | 0, _ => none
  | d + 1, c => if rgp W a b c = true then some (rsel k a b c) else rgc W k a b d (c + 1)
def rgb (W : Nat → Nat → Nat) (k n a : Nat) : Nat → Nat → Option Nat
  | 0, _ => none
  | d + 1, b => match rgc W k a b n 0 with | some v => some v | none => rgb W k n a d (b + 1)
def rga (W : Nat → Nat → Nat) (k n : Nat) : Nat → Nat → Option Nat
  | 0, _ => none
  | d + 1, a => match rgb W k n a n 0 with | some v => some v | none => rga W k n d (a + 1)
theorem rgc_no {W : Nat → Nat → Nat} {k a b : Nat} (h : ¬ W b a < W a b) : ∀ d c, rgc W k a b d c = none
  | 0, _ => rfl
  | d + 1, c => by
    unfold rgc
    rw [if_neg (by unfold rgp; simp [h])]
    exact rgc_no h d (c + 1)
theorem rgc_ok {W : Nat → Nat → Nat} {k a b n v : Nat} (ha : a < n) (hb : b < n) : ∀ d c, c + d = n → rgc W k a b d c = some v → v < n
  | 0, _, _, h => by cases h
  | d + 1, c, hd, h => by
    unfold rgc at h
    by_cases q : rgp W a b c = true
    · rw [if_pos q] at h
      cases h
      unfold rsel
      split
      · exact ha
      · split
        · exact hb
        · omega
    · rw [if_neg q] at h
      exact rgc_ok ha hb d (c + 1) (by omega) h
section RING
variable {l : Launch} {w : Nat → Nat} {nb : Nat} {F A F0 A0 : MI} {P : Int32 → MI → MI → Prop}
theorem s_beats {x y u v : Nat} (hx : x < 8) (hy : y < 8) (h1 : A (11 + x) y = nI u) (h2 : A (11 + y) x = nI v) (hu : u < 100) (hv : v < 100) (k1 : v < u → P 1 F A) (k0 : ¬ v < u → P 0 F A) : CM l mX2_beats 1 w nb [.ref 7, .int (nI x), .int (nI y)] F A (qi P) := by
  refine kX2_beats ?_
  rw [nI_clamp (by omega), nI_clamp (by omega), h1, h2]
  have a := vp_in_nI hx (N := 8) (by decide)
  have b := vp_in_nI hy (N := 8) (by decide)
  refine ⟨a, b, b, a, fun h => ⟨0, rfl, k0 (fun z => nI_ge z (by omega) h)⟩, fun h => ⟨1, rfl, k1 ?_⟩⟩
  rcases Nat.lt_or_ge v u with z | z
  · exact z
  · exact absurd (nI_le z (by omega)) h
theorem ix_8 {x y : Nat} : (8 * nI x + nI y : Int32) = nI (8 * x + y) := by rw [nI_lit 8, pk_mul, nI_add]
theorem s_isMore {x y u v : Nat} (hx : x < 8) (hy : y < 8) (h1 : A 141 (8 * x + y) = nI u) (h2 : A 141 (8 * y + x) = nI v) (hu : u < 100) (hv : v < 100) (k1 : v < u → P 1 F A) (k0 : ¬ v < u → P 0 F A) : CM l mX8_isMore 1 w nb [.ref 122, .int (nI x), .int (nI y)] F A (qi P) := by
  refine kX8_isMore ?_
  rw [ix_8, ix_8, nI_clamp (by omega), nI_clamp (by omega), h1, h2]
  refine ⟨vp_in_nI (by omega) (by decide), vp_in_nI (by omega) (by decide), fun h => ⟨0, rfl, k0 (fun z => nI_ge z (by omega) h)⟩, fun h => ⟨1, rfl, k1 ?_⟩⟩
  rcases Nat.lt_or_ge v u with z | z
  · exact z
  · exact absurd (nI_le z (by omega)) h
theorem ringX_found {W : Nat → Nat → Nat} {n k : Nat} {e : Int32} (hn : n ≤ 8) (hk : k < 3) (hM : ∀ i, i < n → A 8 i = nI (mbr e i)) {a b c : Nat} (ha : a < n) (hb : b < n) (hc : c < n) (h : P (nI (mbr e (rsel k a b c))) F A) : (¬ nI k = 0 → ((¬ nI k = 1 → ZM l mX2_findInRing 3 w nb (qi P) 94 [] [.int (nI c), .ref 8] F A) ∧ (nI k = 1 → ZM l mX2_findInRing 3 w nb (qi P) 94 [] [.int (nI b), .ref 8] F A))) ∧ (nI k = 0 → ZM l mX2_findInRing 3 w nb (qi P) 94 [] [.int (nI a), .ref 8] F A) := by
  have go : ∀ x, x < n → rsel k a b c = x → ZM l mX2_findInRing 3 w nb (qi P) 94 [] [.int (nI x), .ref 8] F A := fun x hx ex => by
    refine vX2_findInRing_94 (c := 0) (by decide) ⟨vp_in_nI (by omega) (by decide), _, rfl, ?_⟩
    rw [nI_clamp (by omega), hM x hx, ← ex]
    exact h
  have k0 : nI k = 0 ↔ k = 0 := nI_eq (b := 0) (by omega) (by omega)
  have k1 : nI k = 1 ↔ k = 1 := nI_eq (b := 1) (by omega) (by omega)
  rw [k0, k1]
  refine ⟨fun z => ⟨fun z2 => go c hc ?_, fun z2 => go b hb ?_⟩, fun z => go a ha ?_⟩
  · unfold rsel; rw [if_neg z, if_neg z2]
  · unfold rsel; rw [if_neg z, if_pos z2]
  · unfold rsel; rw [if_pos z]
theorem ringX_c {W : Nat → Nat → Nat} {n k : Nat} {e : Int32} (hn : n ≤ 8) (hk : k < 3) (hW : ∀ x y, W x y < 100) (hS : F 82 7 = nI n) (hM : ∀ i, i < n → A 8 i = nI (mbr e i)) (hA : ∀ x y, x < n → y < n → A (11 + x) y = nI (W x y)) {a b : Nat} (ha : a < n) (hb : b < n) : ∀ (d c : Nat) (x5 : Int32), c + d = n → x5 = nI c → (∀ v, rgc W k a b d c = some v → P (nI (mbr e v)) F A) → (rgc W k a b d c = none → ZM l mX2_findInRing 3 w nb (qi P) 102 [(0, .ref 7), (2, .int (nI k)), (3, .int (nI a)), (4, .int (nI b))] [] F A) → ZM l mX2_findInRing 3 w nb (qi P) 30 [(0, .ref 7), (2, .int (nI k)), (3, .int (nI a)), (4, .int (nI b)), (5, .int x5)] [] F A
  | 0, c, x5, hd, hx, hP, hN => by
    subst hx
    refine vX2_findInRing_30 (c := 0) (by decide) ?_
    rw [hS]
    have : c = n := by omega
    subst this
    exact ⟨fun _ => hN rfl, fun h => absurd (Int32.le_refl _) h⟩
  | d + 1, c, x5, hd, hx, hP, hN => by
    subst hx
    have hc : c < n := by omega
    have next : rgp W a b c = false → ZM l mX2_findInRing 3 w nb (qi P) 96 [(0, .ref 7), (2, .int (nI k)), (3, .int (nI a)), (4, .int (nI b)), (5, .int (nI c))] [] F A := fun q => by
      have e : rgc W k a b (d + 1) c = rgc W k a b d (c + 1) := by
        conv => lhs; unfold rgc
        rw [if_neg (by rw [q]; decide)]
      rw [e] at hP hN
      exact vX2_findInRing_96 (c := 0) (by decide) (ringX_c hn hk hW hS hM hA ha hb d (c + 1) _ (by omega) (by rw [nI_1]) hP hN)
    refine vX2_findInRing_30 (c := 0) (by decide) ?_
    rw [hS]
    refine ⟨fun h => absurd h (nI_ge (a := c) (b := n) (by omega) (by omega)), fun _ => ?_⟩
    refine s_beats (by omega) (by omega) (hA a b ha hb) (hA b a hb ha) (hW _ _) (hW _ _) (fun q1 => z1 ?_) (fun q1 => z0 (hN (rgc_no q1 _ _)))
    refine s_beats (by omega) (by omega) (hA b c hb hc) (hA c b hc hb) (hW _ _) (hW _ _) (fun q2 => z1 ?_) (fun q2 => z0 (next (by unfold rgp; simp [q2])))
    refine s_beats (by omega) (by omega) (hA c a hc ha) (hA a c ha hc) (hW _ _) (hW _ _) (fun q3 => z1 ?_) (fun q3 => z0 (next (by unfold rgp; simp [q3])))
    refine ringX_found (W := W) hn hk hM ha hb hc (hP _ ?_)
    unfold rgc
    rw [if_pos (by unfold rgp; simp [q1, q2, q3])]
theorem ringX_b {W : Nat → Nat → Nat} {n k : Nat} {e : Int32} (hn : n ≤ 8) (hk : k < 3) (hW : ∀ x y, W x y < 100) (hS : F 82 7 = nI n) (hM : ∀ i, i < n → A 8 i = nI (mbr e i)) (hA : ∀ x y, x < n → y < n → A (11 + x) y = nI (W x y)) {a : Nat} (ha : a < n) : ∀ (d b : Nat) (x4 : Int32), b + d = n → x4 = nI b → (∀ v, rgb W k n a d b = some v → P (nI (mbr e v)) F A) → (rgb W k n a d b = none → ZM l mX2_findInRing 3 w nb (qi P) 7 [(0, .ref 7), (2, .int (nI k)), (3, .int (nI (a + 1)))] [] F A) → ZM l mX2_findInRing 3 w nb (qi P) 18 [(0, .ref 7), (2, .int (nI k)), (3, .int (nI a)), (4, .int x4)] [] F A
  | 0, b, x4, hd, hx, hP, hN => by
    subst hx
    refine vX2_findInRing_18 (c := 0) (by decide) ?_
    rw [hS, nI_1]
    have : b = n := by omega
    subst this
    exact ⟨fun _ => hN rfl, fun h => absurd (Int32.le_refl _) h⟩
  | d + 1, b, x4, hd, hx, hP, hN => by
    subst hx
    have hb : b < n := by omega
    refine vX2_findInRing_18 (c := 0) (by decide) ?_
    rw [hS]
    refine ⟨fun h => absurd h (nI_ge (a := b) (b := n) (by omega) (by omega)), fun _ => ?_⟩
    refine ringX_c hn hk hW hS hM hA ha hb n 0 0 (by omega) rfl (fun v hv => hP v (by unfold rgb; rw [hv])) (fun hv => ?_)
    have e : rgb W k n a (d + 1) b = rgb W k n a d (b + 1) := by
      conv => lhs; unfold rgb
      rw [hv]
    rw [e] at hP hN
    refine vX2_findInRing_102 (c := 0) (by decide) ?_
    rw [nI_1]
    exact ringX_b hn hk hW hS hM hA ha d (b + 1) _ (by omega) rfl hP hN
theorem ringX_a {W : Nat → Nat → Nat} {n k : Nat} {e : Int32} (hn : n ≤ 8) (hk : k < 3) (hW : ∀ x y, W x y < 100) (hS : F 82 7 = nI n) (hM : ∀ i, i < n → A 8 i = nI (mbr e i)) (hA : ∀ x y, x < n → y < n → A (11 + x) y = nI (W x y)) : ∀ (d a : Nat) (x3 : Int32), a + d = n → x3 = nI a → (∀ v, rga W k n d a = some v → P (nI (mbr e v)) F A) → (rga W k n d a = none → P (-1) F A) → ZM l mX2_findInRing 3 w nb (qi P) 7 [(0, .ref 7), (2, .int (nI k)), (3, .int x3)] [] F A
  | 0, a, x3, hd, hx, hP, hN => by
    subst hx
    refine vX2_findInRing_7 (c := 0) (by decide) ?_
    rw [hS]
    have : a = n := by omega
    subst this
    exact ⟨fun _ => ⟨_, rfl, hN rfl⟩, fun h => absurd (Int32.le_refl _) h⟩
  | d + 1, a, x3, hd, hx, hP, hN => by
    subst hx
    refine vX2_findInRing_7 (c := 0) (by decide) ?_
    rw [hS]
    refine ⟨fun h => absurd h (nI_ge (a := a) (b := n) (by omega) (by omega)), fun _ => ?_⟩
    refine ringX_b hn hk hW hS hM hA (by omega) n 0 0 (by omega) rfl (fun v hv => hP v (by unfold rga; rw [hv])) (fun hv => ?_)
    have e : rga W k n (d + 1) a = rga W k n d (a + 1) := by
      conv => lhs; unfold rga
      rw [hv]
    rw [e] at hP hN
    exact ringX_a hn hk hW hS hM hA d (a + 1) _ (by omega) rfl hP hN
theorem ringM_found {W : Nat → Nat → Nat} {n k : Nat} {e : Int32} (hn : n ≤ 8) (hk : k < 3) (hM : ∀ i, i < n → A 140 i = nI (mbr e i)) {a b c : Nat} (ha : a < n) (hb : b < n) (hc : c < n) (h : P (nI (mbr e (rsel k a b c))) F A) : (¬ nI k = 0 → ((¬ nI k = 1 → ZM l mX8_ring 4 w nb (qi P) 112 [] [.int (nI c), .ref 140] F A) ∧ (nI k = 1 → ZM l mX8_ring 4 w nb (qi P) 112 [] [.int (nI b), .ref 140] F A))) ∧ (nI k = 0 → ZM l mX8_ring 4 w nb (qi P) 112 [] [.int (nI a), .ref 140] F A) := by
  have go : ∀ x, x < n → rsel k a b c = x → ZM l mX8_ring 4 w nb (qi P) 112 [] [.int (nI x), .ref 140] F A := fun x hx ex => by
    refine vX8_ring_112  ⟨vp_in_nI (by omega) (by decide), _, rfl, ?_⟩
    rw [nI_clamp (by omega), hM x hx, ← ex]
    exact h
  have k0 : nI k = 0 ↔ k = 0 := nI_eq (b := 0) (by omega) (by omega)
  have k1 : nI k = 1 ↔ k = 1 := nI_eq (b := 1) (by omega) (by omega)
  rw [k0, k1]
  refine ⟨fun z => ⟨fun z2 => go c hc ?_, fun z2 => go b hb ?_⟩, fun z => go a ha ?_⟩
  · unfold rsel; rw [if_neg z, if_neg z2]
  · unfold rsel; rw [if_neg z, if_pos z2]
  · unfold rsel; rw [if_pos z]
theorem ringM_c {W : Nat → Nat → Nat} {n k : Nat} {e : Int32} (hn : n ≤ 8) (hk : k < 3) (hW : ∀ x y, W x y < 100) (hS : F 345 122 = nI n) (hM : ∀ i, i < n → A 140 i = nI (mbr e i)) (hA : ∀ x y, x < n → y < n → A 141 (8 * x + y) = nI (W x y)) {a b : Nat} (ha : a < n) (hb : b < n) : ∀ (d c : Nat) (x5 : Int32), c + d = n → x5 = nI c → (∀ v, rgc W k a b d c = some v → P (nI (mbr e v)) F A) → (rgc W k a b d c = none → ZM l mX8_ring 4 w nb (qi P) 36 [(0, .ref 122), (2, .int (nI k)), (3, .int (nI a)), (4, .int (nI (b + 1)))] [] F A) → ZM l mX8_ring 4 w nb (qi P) 48 [(0, .ref 122), (2, .int (nI k)), (3, .int (nI a)), (4, .int (nI b)), (5, .int x5)] [] F A
  | 0, c, x5, hd, hx, hP, hN => by
    subst hx
    refine vX8_ring_48  ?_
    rw [hS]
    have : c = n := by omega
    subst this
    rw [nI_1]
    exact ⟨fun _ => hN rfl, fun h => absurd (Int32.le_refl _) h⟩
  | d + 1, c, x5, hd, hx, hP, hN => by
    subst hx
    have hc : c < n := by omega
    have next : rgp W a b c = false → ZM l mX8_ring 4 w nb (qi P) 114 [(0, .ref 122), (2, .int (nI k)), (3, .int (nI a)), (4, .int (nI b)), (5, .int (nI c))] [] F A := fun q => by
      have e : rgc W k a b (d + 1) c = rgc W k a b d (c + 1) := by
        conv => lhs; unfold rgc
        rw [if_neg (by rw [q]; decide)]
      rw [e] at hP hN
      exact vX8_ring_114  (ringM_c hn hk hW hS hM hA ha hb d (c + 1) _ (by omega) (by rw [nI_1]) hP hN)
    refine vX8_ring_48  ?_
    rw [hS]
    refine ⟨fun h => absurd h (nI_ge (a := c) (b := n) (by omega) (by omega)), fun _ => ?_⟩
    refine s_isMore (by omega) (by omega) (hA a b ha hb) (hA b a hb ha) (hW _ _) (hW _ _) (fun q1 => z1 ?_) (fun q1 => z0 (next (by unfold rgp; simp [q1])))
    refine s_isMore (by omega) (by omega) (hA b c hb hc) (hA c b hc hb) (hW _ _) (hW _ _) (fun q2 => z1 ?_) (fun q2 => z0 (next (by unfold rgp; simp [q2])))
    refine s_isMore (by omega) (by omega) (hA c a hc ha) (hA a c ha hc) (hW _ _) (hW _ _) (fun q3 => z1 ?_) (fun q3 => z0 (next (by unfold rgp; simp [q3])))
    refine ringM_found (W := W) hn hk hM ha hb hc (hP _ ?_)
    unfold rgc
    rw [if_pos (by unfold rgp; simp [q1, q2, q3])]
theorem ringM_b {W : Nat → Nat → Nat} {n k : Nat} {e : Int32} (hn : n ≤ 8) (hk : k < 3) (hW : ∀ x y, W x y < 100) (hS : F 345 122 = nI n) (hM : ∀ i, i < n → A 140 i = nI (mbr e i)) (hA : ∀ x y, x < n → y < n → A 141 (8 * x + y) = nI (W x y)) {a : Nat} (ha : a < n) : ∀ (d b : Nat) (x4 : Int32), b + d = n → x4 = nI b → (∀ v, rgb W k n a d b = some v → P (nI (mbr e v)) F A) → (rgb W k n a d b = none → ZM l mX8_ring 4 w nb (qi P) 25 [(0, .ref 122), (2, .int (nI k)), (3, .int (nI (a + 1)))] [] F A) → ZM l mX8_ring 4 w nb (qi P) 36 [(0, .ref 122), (2, .int (nI k)), (3, .int (nI a)), (4, .int x4)] [] F A
  | 0, b, x4, hd, hx, hP, hN => by
    subst hx
    refine vX8_ring_36  ?_
    rw [hS, nI_1]
    have : b = n := by omega
    subst this
    exact ⟨fun _ => hN rfl, fun h => absurd (Int32.le_refl _) h⟩
  | d + 1, b, x4, hd, hx, hP, hN => by
    subst hx
    have hb : b < n := by omega
    refine vX8_ring_36  ?_
    rw [hS]
    refine ⟨fun h => absurd h (nI_ge (a := b) (b := n) (by omega) (by omega)), fun _ => ?_⟩
    refine ringM_c hn hk hW hS hM hA ha hb n 0 0 (by omega) rfl (fun v hv => hP v (by unfold rgb; rw [hv])) (fun hv => ?_)
    have e : rgb W k n a (d + 1) b = rgb W k n a d (b + 1) := by
      conv => lhs; unfold rgb
      rw [hv]
    rw [e] at hP hN
    exact ringM_b hn hk hW hS hM hA ha d (b + 1) _ (by omega) rfl hP hN
theorem ringM_a {W : Nat → Nat → Nat} {n k : Nat} {e : Int32} (hn : n ≤ 8) (hk : k < 3) (hW : ∀ x y, W x y < 100) (hS : F 345 122 = nI n) (hM : ∀ i, i < n → A 140 i = nI (mbr e i)) (hA : ∀ x y, x < n → y < n → A 141 (8 * x + y) = nI (W x y)) : ∀ (d a : Nat) (x3 : Int32), a + d = n → x3 = nI a → (∀ v, rga W k n d a = some v → P (nI (mbr e v)) F A) → (rga W k n d a = none → P (-1) F A) → ZM l mX8_ring 4 w nb (qi P) 25 [(0, .ref 122), (2, .int (nI k)), (3, .int x3)] [] F A
  | 0, a, x3, hd, hx, hP, hN => by
    subst hx
    refine vX8_ring_25  ?_
    rw [hS]
    have : a = n := by omega
    subst this
    exact ⟨fun _ => ⟨_, rfl, hN rfl⟩, fun h => absurd (Int32.le_refl _) h⟩
  | d + 1, a, x3, hd, hx, hP, hN => by
    subst hx
    refine vX8_ring_25  ?_
    rw [hS]
    refine ⟨fun h => absurd h (nI_ge (a := a) (b := n) (by omega) (by omega)), fun _ => ?_⟩
    refine ringM_b hn hk hW hS hM hA (by omega) n 0 0 (by omega) rfl (fun v hv => hP v (by unfold rga; rw [hv])) (fun hv => ?_)
    have e : rga W k n (d + 1) a = rga W k n d (a + 1) := by
      conv => lhs; unfold rga
      rw [hv]
    rw [e] at hP hN
    exact ringM_a hn hk hW hS hM hA d (a + 1) _ (by omega) rfl hP hN
theorem winM_lt (A : MI) (c a b : Nat) : winM A c a b < 100 := by
  unfold winM
  exact Nat.lt_of_le_of_lt (fb_ct_le _ 6) (by decide)
theorem op_ring {x1 x2 : Int32} (hw : TW w) (hI : Inv w nb F A) : CM l mX7_ring 4 w nb [.ref 1, .int x1, .int x2] F A (qi fun r F A => CM l mX8_ring 4 w nb [.ref 122, .int x1, .int x2] F A (qi fun r' F A => r = r' ∧ Inv w nb F A)) := by
  obtain ⟨hn1, hn2, hn3, -⟩ := hI.2.1
  have h5 := hI.2.2.2.2.1
  have h8 := hI.2.2.2.2.2.2.2.1
  have bad : (¬ Bel x1 6 ∨ ¬ Bel x2 3) → CM l mX8_ring 4 w nb [.ref 122, .int x1, .int x2] F A (qi fun r' F A => -1 = r' ∧ Inv w nb F A) := by
    intro hb
    refine kX8_ring (s_isClass (fun c hc e => z1 ?_) (fun _ => z0 ⟨-1, rfl, rfl, hI⟩))
    refine s_lies (a := 0) (b := 2) rfl rfl (by decide) (by decide) (fun j _ hj e1 => ?_) (fun _ => n0 ⟨-1, rfl, rfl, hI⟩)
    rcases hb with z | z
    · exact absurd ⟨c, hc, e⟩ z
    · exact absurd ⟨j, by omega, e1⟩ z
  refine kX7_ring (s_classAt (fun c hc e => ?_) (fun h => ⟨-1, rfl, bad (Or.inl h)⟩))
  refine s_below (n := 3) rfl (by decide) (fun k hk ek => n1 ?_) (fun h => n0 ⟨-1, rfl, bad (Or.inr h)⟩)
  subst e
  subst ek
  obtain ⟨g0, g1, g2, g3, g4, g5⟩ := h5 c hc
  refine kX2_findInRing hc (s_tally (e := A 134 c) hc g0 (fun b hb => by have := g4 b hb; omega) g3 (OX_of h8 hc (fun b hb => hb)) (fun F1 A1 hT hA1 => ?_))
  have eW : WSX A c (A 134 c) = WS A c := by
    unfold WSX WS
    rw [winX_M h8 hc]
  rw [eW] at hA1
  obtain ⟨hTF, hS, hM, -⟩ := hT
  have hI1 : Inv w nb F1 A1 := hI.frame hw.1 (fun f a q => hTF.1 f a (fun z => q (by unfold scF; omega))) (fun a j q => hTF.2 a j (fun z => q (by unfold scA; omega)))
  have e134 : A1 134 c = A 134 c := hTF.2 _ _ (by omega)
  have eWS : WS A1 c = WS A c := WS_cong (fun j => hTF.2 _ _ (by omega)) (fun j => hTF.2 _ _ (by omega)) (fun j => hTF.2 _ _ (by omega)) c
  have hWl : ∀ x y, WS A c x y < 100 := fun x y => winM_lt A c _ _
  -- M finds the same
  have mm : ∀ r : Int32, (∀ v, rga (WS A c) k (pcn (A 134 c)) (pcn (A 134 c)) 0 = some v → r = nI (mbr (A 134 c) v)) → (rga (WS A c) k (pcn (A 134 c)) (pcn (A 134 c)) 0 = none → r = -1) → CM l mX8_ring 4 w nb [.ref 122, .int (nI c), .int (nI k)] F1 A1 (qi fun r' F A => r = r' ∧ Inv w nb F A) := by
    intro r r1 r2
    refine kX8_ring (s_isClass (fun c' _ _ => z1 ?_) (fun h => absurd ⟨c, hc, rfl⟩ h))
    refine s_lies (a := 0) (b := 2) rfl rfl (by decide) (by decide) (fun j _ hj e1 => n1 ?_) (fun h => absurd ⟨k, by omega, by omega, rfl⟩ h)
    refine s_joins hI1 hc (fun F2 A2 hJ j1 j2 j3 j4 j5 => ?_)
    rw [e134] at j1 j2 j3
    rw [eWS] at j3
    exact ringM_a (W := WS A c) (e := A 134 c) g3 hk hWl j1 j2 j3 (pcn (A 134 c)) 0 0 (by omega) rfl (fun v hv => ⟨r1 v hv, hJ.inv hw hI1⟩) (fun hv => ⟨r2 hv, hJ.inv hw hI1⟩)
  refine ringX_a (W := WS A c) (e := A 134 c) g3 hk hWl hS hM hA1 (pcn (A 134 c)) 0 0 (by omega) rfl (fun v hv => ⟨_, rfl, mm _ (fun u hu => ?_) (fun hu => ?_)⟩) (fun hv => ⟨_, rfl, mm _ (fun u hu => ?_) (fun _ => rfl)⟩)
  · rw [hv] at hu; cases hu; rfl
  · rw [hv] at hu; cases hu
  · rw [hv] at hu; cases hu
end RING
