section JOINX
variable {l : Launch} {w : Nat → Nat} {nb : Nat} {F0 A0 : MI} {P : MI → MI → Prop}
/-- the ORDERS of CLASS c as X holds them, over the set e -/
def OX (A : MI) (c : Nat) (e : Int32) : Prop := ∀ j, j < 6 → ∃ t, t ≤ 8 ∧ A (38 + 14 * c + 11) j = nI t ∧ (0 < t → ∃ f : Nat → Nat, (∀ k, k < t → f k < 20 ∧ A (38 + 14 * c + 5 + j) k = nI (f k)) ∧ (∀ i k, i < k → k < t → f i ≠ f k) ∧ ∀ b, bt e b = true → ∃ k, k < t ∧ f k = b)
theorem pos_f {A : MI} {c j t k : Nat} {f : Nat → Nat} (ht : t ≤ 8) (h1 : ∀ k, k < t → f k < 20 ∧ A (38 + 14 * c + 5 + j) k = nI (f k)) (h2 : ∀ i k, i < k → k < t → f i ≠ f k) (hk : k < t) : posX A c j (f k) = k := by
  unfold posX
  refine first_is (by omega) (by rw [(h1 k hk).2]; simp) (fun i hi => ?_)
  rw [(h1 i (by omega)).2]
  simp only [beq_eq_false_iff_ne]
  intro q
  have a1 := (h1 i (by omega)).1
  have a2 := (h1 k hk).1
  exact h2 i k hi hk ((nI_eq (by omega) (by omega)).mp q)
theorem mbr_iff {e : Int32} {b x : Nat} (hx : x < pcn e) : (bt e b = true ∧ fb_ct (bt e) b = x) ↔ b = mbr e x := by
  constructor
  · rintro ⟨h1, rfl⟩
    exact (mbr_of h1).symm
  · intro h
    rw [h]
    exact mbr_ok hx
theorem cnt_pairs {A : MI} {c j t x y : Nat} {e : Int32} {f : Nat → Nat} (ht : t ≤ 8) (hx : x < pcn e) (hy : y < pcn e) (h1 : ∀ k, k < t → f k < 20 ∧ A (38 + 14 * c + 5 + j) k = nI (f k)) (h2 : ∀ i k, i < k → k < t → f i ≠ f k) (h3 : ∀ b, bt e b = true → ∃ k, k < t ∧ f k = b) :
    fb_sm (fun i => fb_ct (prD e f x y i) t) t = if posX A c j (mbr e x) < posX A c j (mbr e y) then 1 else 0 := by
  obtain ⟨kx, hkx, ex⟩ := h3 _ (mbr_ok hx).1
  obtain ⟨ky, hky, ey⟩ := h3 _ (mbr_ok hy).1
  have px := pos_f (A := A) (c := c) (j := j) ht h1 h2 hkx
  have py := pos_f (A := A) (c := c) (j := j) ht h1 h2 hky
  rw [ex] at px
  rw [ey] at py
  rw [px, py]
  have inj : ∀ i k, i < t → k < t → f i = f k → i = k := by
    intro i k hi hk q
    rcases Nat.lt_trichotomy i k with z | z | z
    · exact absurd q (h2 i k z hk)
    · exact z
    · exact absurd q.symm (h2 k i z hi)
  have key : ∀ i k, i < t → k < t → (prD e f x y i k = true ↔ i < k ∧ i = kx ∧ k = ky) := by
    intro i k hi hk
    unfold prD
    simp only [Bool.and_eq_true, decide_eq_true_eq, beq_iff_eq]
    constructor
    · rintro ⟨⟨q1, q2⟩, q3⟩
      exact ⟨q1, inj i kx hi hkx (((mbr_iff hx).mp q2).trans ex.symm), inj k ky hk hky (((mbr_iff hy).mp q3).trans ey.symm)⟩
    · rintro ⟨q1, rfl, rfl⟩
      exact ⟨⟨q1, (mbr_iff hx).mpr ex⟩, (mbr_iff hy).mpr ey⟩
  refine sm_one (k0 := kx) ?_ hkx (fun i hi hne => fb_ct_zero.mpr (fun k hk => ?_))
  · by_cases q : kx < ky
    · rw [if_pos q]
      exact ct_one (k0 := ky) ((key kx ky hkx hky).mpr ⟨q, rfl, rfl⟩) hky (fun k hk h => ((key kx k hkx hk).mp h).2.2)
    · rw [if_neg q]
      refine fb_ct_zero.mpr (fun k hk => ?_)
      cases z : prD e f x y kx k
      · rfl
      · have := (key kx k hkx hk).mp z; omega
  · cases z : prD e f x y i k
    · rfl
    · exact absurd ((key i k hi hk).mp z).2.1 hne
/-- the wins by slots -/
def WSX (A : MI) (c : Nat) (e : Int32) : Nat → Nat → Nat := fun x y => winX A c (mbr e x) (mbr e y)
def wpart (A : MI) (c : Nat) (e : Int32) (x y n : Nat) : Nat := fb_ct (fun j => decide (A (38 + 14 * c + 11) j ≠ 0) && decide (posX A c j (mbr e x) < posX A c j (mbr e y))) n
theorem posX_cong {A A' : MI} {c j : Nat} (h : ∀ k, A' (38 + 14 * c + 5 + j) k = A (38 + 14 * c + 5 + j) k) (b : Nat) : posX A' c j b = posX A c j b := by
  unfold posX
  simp only [h]
theorem tally_3 {c : Nat} {e : Int32} (hc : c < 6) (h8 : pcn e ≤ 8) (hO : OX A0 c e) (hP : ∀ F A, TM F0 A0 e F A → (∀ x y, x < pcn e → y < pcn e → A (11 + x) y = nI (WSX A0 c e x y)) → P F A) :
    ∀ (d j : Nat) (x2 : Int32) (F A : MI), j + d = 6 → x2 = nI j → TM F0 A0 e F A → (∀ x y, x < pcn e → y < pcn e → A (11 + x) y = nI (wpart A0 c e x y j)) → ZM l mX2_tally 2 w nb (qv P) 101 [(0, .ref 7), (1, .ref (38 + 14 * c)), (2, .int x2)] [] F A
  | 0, j, x2, F, A, hd, hx, hJ, hM => by
    have : j = 6 := by omega
    subst this
    subst hx
    exact vX2_tally_101 hc ⟨fun _ => ⟨rfl, hP F A hJ hM⟩, fun h => absurd (Int32.le_refl _) h⟩
  | d + 1, j, x2, F, A, hd, hx, hJ, hM => by
    subst hx
    have hj : j < 6 := by omega
    obtain ⟨t, ht, e1, hf⟩ := hO j hj
    refine vX2_tally_101 hc ⟨fun h => absurd h (nI_ge (a := j) (b := 6) hj (by decide)), fun _ => ⟨vp_in_nI hj (by decide), vp_in_nI hj (by decide), ?_⟩⟩
    rw [nI_clamp (by omega), hJ.1.2 _ _ (by omega), e1]
    have next : ∀ A2, (∀ a j, ¬ (11 ≤ a ∧ a ≤ 18) → A2 a j = A a j) → (∀ x y, x < pcn e → y < pcn e → A2 (11 + x) y = nI (wpart A0 c e x y (j + 1))) → ZM l mX2_tally 2 w nb (qv P) 101 [(0, .ref 7), (1, .ref (38 + 14 * c)), (2, .int (nI j + 1))] [] F A2 := fun A2 g1 g2 =>
      tally_3 hc h8 hO hP d (j + 1) _ F A2 (by omega) (by rw [nI_1]) ⟨⟨hJ.1.1, fun a j' q => (g1 a j' (by omega)).trans (hJ.1.2 a j' q)⟩, hJ.2.1, fun k hk => (g1 _ _ (by omega)).trans (hJ.2.2.1 k hk), fun b hb => (g1 _ _ (by omega)).trans (hJ.2.2.2 b hb)⟩ g2
    rcases Nat.eq_zero_or_pos t with z | z
    · subst z
      refine kX2_tallyOrder hc hj (vX2_tallyOrder_2 hc hj ⟨fun _ => ⟨rfl, next A (fun _ _ _ => rfl) (fun x y hx hy => ?_)⟩, fun h => absurd (Int32.le_refl _) h⟩)
      rw [hM x y hx hy]
      unfold wpart
      rw [fb_ct_succ, e1]
      have : (decide (nI 0 ≠ 0) && decide (posX A0 c j (mbr e x) < posX A0 c j (mbr e y))) = false := by
        have : nI 0 = 0 := rfl
        simp [this]
      rw [this]
      rfl
    · obtain ⟨f, f1, f2, f3⟩ := hf z
      refine kX2_tallyOrder hc hj (tallyOrder_out (M0 := fun x y => wpart A0 c e x y j) hc hj ht h8 (fun k hk => (f1 k hk).1) (fun k hk => (hJ.1.2 _ _ (by omega)).trans (f1 k hk).2) hJ.2.2.2 (fun A2 g1 g2 => next A2 g1 (fun x y hx hy => ?_)) t 0 0 A (by omega) rfl (fun _ _ _ => rfl) (fun x y hx hy => by rw [hM x y hx hy]; rfl))
      rw [g2 x y hx hy, cnt_pairs (A := A0) (c := c) (j := j) ht hx hy f1 f2 f3]
      have e2 : wpart A0 c e x y (j + 1) = wpart A0 c e x y j + (if (decide (A0 (38 + 14 * c + 11) j ≠ 0) && decide (posX A0 c j (mbr e x) < posX A0 c j (mbr e y))) = true then 1 else 0) := fb_ct_succ _ _
      rw [e2]
      have hne : A0 (38 + 14 * c + 11) j ≠ 0 := by rw [e1]; exact nI_ne0 z (by omega)
      simp only [hne, ne_eq, not_false_eq_true, decide_true, Bool.true_and, decide_eq_true_eq]
theorem s_tally {c : Nat} {e : Int32} (hc : c < 6) (he : F0 160 (38 + 14 * c) = e) (hb : ∀ b, bt e b = true → b < 20) (h8 : pcn e ≤ 8) (hO : OX A0 c e) (hP : ∀ F A, TM F0 A0 e F A → (∀ x y, x < pcn e → y < pcn e → A (11 + x) y = nI (WSX A0 c e x y)) → P F A) : CM l mX2_tally 2 w nb [.ref 7, .ref (38 + 14 * c)] F0 A0 (qv P) := by
  refine kX2_tally hc (tally_1 hc he hb h8 (fun F A j => ?_) 20 0 0 _ _ rfl rfl ⟨fun f a q => u2_ne q, fun _ _ _ => rfl⟩ (by rw [u2_s]; rfl) (fun k q => absurd q (Nat.not_lt_zero k)) (fun b q => absurd q (Nat.not_lt_zero b)))
  refine tally_2 hc h8 (fun F A j h => ?_) (pcn e) 0 0 F A (by omega) rfl j (fun x y q => absurd q (Nat.not_lt_zero x))
  exact tally_3 hc h8 hO hP 6 0 0 F A rfl rfl j (fun x y hx hy => h x y hx (by omega))
/-- what the rest of join may change, the empty set's words apart -/
def XF (A1 A : MI) : Prop := ∀ a j, ¬ (20 ≤ a ∧ a ≤ 28 ∧ 0 < j) → A a j = A1 a j
theorem dcs_add {W : Nat → Nat → Nat} {n b t r : Nat} (hn : n ≤ 8) (ht : t < n) (hr : r < 2 ^ t) : dcs W n b (r + 2 ^ t) = dcs W n b r + W t b := by
  have h1 := fb_sm_upd (fun y => if r.testBit y = true then W y b else 0) (W t b) ht
  have z : r.testBit t = false := Nat.testBit_lt_two_pow hr
  simp only [z, Bool.false_eq_true, if_false] at h1
  unfold dcs
  rw [Nat.add_zero] at h1
  rw [← h1]
  refine fb_sm_cong (fun y hy => ?_)
  rw [setT t (by omega) r hr y (by omega)]
  by_cases q : y = t
  · subst q; simp
  · simp [q]
theorem sumLost_in {n b t : Nat} {W : Nat → Nat → Nat} {F A1 : MI} (hn : n ≤ 8) (hb : b < n) (ht : t < n) (hW : ∀ x y, x < n → y < n → A1 (11 + x) y = nI (W x y)) (kk : ∀ A, XF A1 A → (∀ s, s < 2 ^ (t + 1) → A (20 + b) s = nI (dcs W n b s)) → (∀ b' s, b' < b → s < 2 ^ n → A (20 + b') s = nI (dcs W n b' s)) → ZM l mX2_sumLost 1 w nb (qv P) 12 [(0, .ref 7), (1, .int (nI b)), (2, .int (nI t + 1))] [] F A) :
    ∀ (d r : Nat) (x3 : Int32) (A : MI), r + d = 2 ^ t → x3 = nI r → XF A1 A → (∀ s, s < 2 ^ t + r → A (20 + b) s = nI (dcs W n b s)) → (∀ b' s, b' < b → s < 2 ^ n → A (20 + b') s = nI (dcs W n b' s)) → ZM l mX2_sumLost 1 w nb (qv P) 22 [(0, .ref 7), (1, .int (nI b)), (2, .int (nI t)), (3, .int x3)] [] F A := by
  have h128 : ∀ t, t < 8 → 2 ^ t ≤ 128 := by decide
  have h128 := h128 t (by omega)
  have hpos := Nat.two_pow_pos t
  intro d
  induction d with
  | zero =>
    intro r x3 A hd hx hX h1 h2
    subst hx
    refine vX2_sumLost_22 ?_
    rw [setP t (by omega)]
    refine ⟨fun _ => kk A hX (fun s hs => h1 s (by rw [Nat.pow_succ] at hs; omega)) h2, fun h => absurd (nI_le (by omega) (by omega)) h⟩
  | succ d ih =>
    intro r x3 A hd hx hX h1 h2
    subst hx
    refine vX2_sumLost_22 ?_
    rw [setP t (by omega)]
    refine ⟨fun h => absurd h (nI_ge (by omega) (by omega)), fun _ => ?_⟩
    have so := setO t (by omega) r (by omega)
    rw [setP t (by omega)] at so
    rw [so, nI_clamp (n := b) (by omega), nI_clamp (n := t) (by omega), nI_clamp (n := r) (by omega), nI_clamp (n := r + 2 ^ t) (by omega), h1 r (by omega), hX (11 + t) b (by omega), hW t b ht hb, nI_add]
    have hv := vp_in_nI (show b < 8 by omega) (N := 8) (by decide)
    refine ⟨hv, hv, vp_in_nI (by omega) (by decide), vp_in_nI (by omega) (by decide), hv, vp_in_nI (by omega) (by decide), ih (r + 1) _ _ (by omega) (by rw [nI_1]) (fun a j q => (u2_ne (by omega)).trans (hX a j q)) (fun s hs => ?_) (fun b' s q1 q2 => ?_)⟩
    · rcases Nat.lt_or_ge s (2 ^ t + r) with q | q
      · rw [u2_n2 (by omega)]; exact h1 s q
      · rw [show s = r + 2 ^ t by omega, u2_s, dcs_add hn ht (by omega)]
    · rw [u2_n1 (by omega)]; exact h2 b' s q1 q2
theorem sumLost_mid {n b : Nat} {W : Nat → Nat → Nat} {F A1 : MI} (hn : n ≤ 8) (hF : F 82 7 = nI n) (hb : b < n) (hW : ∀ x y, x < n → y < n → A1 (11 + x) y = nI (W x y)) (kk : ∀ A, XF A1 A → (∀ b' s, b' ≤ b → s < 2 ^ n → A (20 + b') s = nI (dcs W n b' s)) → ZM l mX2_sumLost 1 w nb (qv P) 2 [(0, .ref 7), (1, .int (nI b + 1))] [] F A) :
    ∀ (d t : Nat) (x2 : Int32) (A : MI), t + d = n → x2 = nI t → XF A1 A → (∀ s, s < 2 ^ t → A (20 + b) s = nI (dcs W n b s)) → (∀ b' s, b' < b → s < 2 ^ n → A (20 + b') s = nI (dcs W n b' s)) → ZM l mX2_sumLost 1 w nb (qv P) 12 [(0, .ref 7), (1, .int (nI b)), (2, .int x2)] [] F A
  | 0, t, x2, A, hd, hx, hX, h1, h2 => by
    subst hx
    have : t = n := by omega
    subst this
    refine vX2_sumLost_12 ?_
    rw [hF]
    refine ⟨fun _ => kk A hX (fun b' s q1 q2 => ?_), fun h => absurd (Int32.le_refl _) h⟩
    rcases Nat.lt_or_ge b' b with q | q
    · exact h2 b' s q q2
    · rw [show b' = b by omega]; exact h1 s q2
  | d + 1, t, x2, A, hd, hx, hX, h1, h2 => by
    subst hx
    refine vX2_sumLost_12 ?_
    rw [hF]
    refine ⟨fun h => absurd h (nI_ge (by omega) (by omega)), fun _ => sumLost_in hn hb (by omega) hW (fun A g1 g2 g3 => ?_) (2 ^ t) 0 0 A (by omega) rfl hX (fun s hs => h1 s (by omega)) h2⟩
    exact sumLost_mid hn hF hb hW kk d (t + 1) _ A (by omega) (by rw [nI_1]) g1 g2 g3
theorem sumLost_out {n : Nat} {W : Nat → Nat → Nat} {F A1 : MI} (hn : n ≤ 8) (hF : F 82 7 = nI n) (hW : ∀ x y, x < n → y < n → A1 (11 + x) y = nI (W x y)) (h0 : ∀ b, b < 8 → A1 (20 + b) 0 = 0) (hP : ∀ A, XF A1 A → (∀ b s, b < n → s < 2 ^ n → A (20 + b) s = nI (dcs W n b s)) → P F A) :
    ∀ (d b : Nat) (x1 : Int32) (A : MI), b + d = n → x1 = nI b → XF A1 A → (∀ b' s, b' < b → s < 2 ^ n → A (20 + b') s = nI (dcs W n b' s)) → ZM l mX2_sumLost 1 w nb (qv P) 2 [(0, .ref 7), (1, .int x1)] [] F A
  | 0, b, x1, A, hd, hx, hX, h1 => by
    subst hx
    refine vX2_sumLost_2 ?_
    rw [hF]
    exact ⟨fun _ => ⟨rfl, hP A hX (fun b' s q1 q2 => h1 b' s (by omega) q2)⟩, fun h => absurd (nI_le (by omega) (by omega)) h⟩
  | d + 1, b, x1, A, hd, hx, hX, h1 => by
    subst hx
    refine vX2_sumLost_2 ?_
    rw [hF]
    refine ⟨fun h => absurd h (nI_ge (by omega) (by omega)), fun _ => sumLost_mid hn hF (by omega) hW (fun A g1 g2 => ?_) n 0 0 A (by omega) rfl hX (fun s hs => ?_) h1⟩
    · exact sumLost_out hn hF hW h0 hP d (b + 1) _ A (by omega) (by rw [nI_1]) g1 (fun b' s q1 q2 => g2 b' s (by omega) q2)
    · rw [show s = 0 by omega, hX _ _ (by omega), h0 b (by omega)]
      have z : dcs W n b 0 = 0 := by
        unfold dcs
        have := fb_sm_bound (f := fun y => if (0 : Nat).testBit y = true then W y b else 0) (c := 0) (n := n) (fun k _ => by simp)
        omega
      rw [z]
      rfl
end JOINX
