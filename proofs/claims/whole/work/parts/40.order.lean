/-! the tape names each of a set -/
def RowOf (g : Nat → Int32) (e : Int32) (n : Nat) : Prop := ∀ i, i < n → ∃ v, v < 20 ∧ g i = nI v ∧ bt e v = true ∧ ∀ j, j < i → g j ≠ nI v
section ORDER
variable {l : Launch} {w : Nat → Nat} {nb : Nat} {F A : MI}
theorem s_byteAt {k t : Nat} {P : Int32 → MI → MI → Prop} (hF : F 201 2 = nI t) (ht : t ≤ 80) (hk : k < t) (hP : P (A 3 k) F A) : CM l mX5_byteAt 2 w nb [.ref 2, .int (nI k)] F A (qi P) := by
  refine kX5_byteAt (s_below (n := t) hF (by omega) (fun j _ e => z1 ⟨vp_in_nI (by omega) (by decide), _, rfl, ?_⟩) (fun h => absurd ⟨k, hk, rfl⟩ h))
  rw [nI_clamp (by omega)]
  exact hP
theorem names_loop {e : Int32} {t n : Nat} {P : Int32 → MI → MI → Prop} (hF : F 201 2 = nI t) (ht : t ≤ 80) (hn : n ≤ t) (h1 : RowOf (A 3) e n → P 1 F A) (h0 : ¬ RowOf (A 3) e n → P 0 F A) : ∀ (d i : Nat) (s x4 : Int32), i + d = n → x4 = nI i → RowOf (A 3) e i → (∀ b, b < 32 → (bt s b = true ↔ bt e b = true ∧ ∀ j, j < i → A 3 j ≠ nI b)) → ZM l mX5_namesEachOf 3 w nb (qi P) 10 [(0, .ref 2), (2, .int s), (3, .int (nI n)), (4, .int x4)] [] F A
  | 0, i, s, x4, hd, hx, hr, _ => by
    subst hx
    have : i = n := by omega
    subst this
    exact vX5_namesEachOf_10 ⟨fun _ => ⟨1, rfl, h1 hr⟩, fun h => absurd (Int32.le_refl _) h⟩
  | d + 1, i, s, x4, hd, hx, hr, hs => by
    subst hx
    refine vX5_namesEachOf_10 ⟨fun h => absurd h (nI_ge (a := i) (b := n) (by omega) (by omega)), fun _ => s_byteAt hF ht (by omega) (s_below (n := 20) rfl (by decide) (fun v hv ev => z1 ?_) (fun h => z0 ⟨0, rfl, h0 (fun q => ?_)⟩))⟩
    · rw [ev]
      refine ⟨fun h => ?_, fun h => ⟨0, rfl, h0 (fun q => ?_)⟩⟩
      · have hb : bt s v = true := by
          cases z : bt s v
          · exact absurd ((bit_and (by omega)).mpr z) h
          · rfl
        have hh := (hs v (by omega)).mp hb
        refine names_loop hF ht hn h1 h0 d (i + 1) _ _ (by omega) (by rw [nI_1]) (fun k hk => ?_) (fun b hb => ?_)
        · rcases Nat.lt_or_ge k i with z | z
          · exact hr k z
          · rw [show k = i by omega]; exact ⟨v, hv, ev, hh.1, hh.2⟩
        · rw [bit_del (by omega), Bool.and_eq_true, hs b hb, Bool.not_eq_true', decide_eq_false_iff_not]
          constructor
          · rintro ⟨⟨q1, q2⟩, q3⟩
            refine ⟨q1, fun j hj => ?_⟩
            rcases Nat.lt_or_ge j i with z | z
            · exact q2 j z
            · rw [show j = i by omega, ev]
              intro z
              exact q3 ((nI_eq (by omega) (by omega)).mp z).symm
          · rintro ⟨q1, q2⟩
            refine ⟨⟨q1, fun j hj => q2 j (by omega)⟩, fun z => q2 i (by omega) (by rw [ev, z])⟩
      · obtain ⟨u, q1, q2, q3, q4⟩ := q i (by omega)
        rw [ev] at q2
        have := (nI_eq (by omega) (by omega)).mp q2
        subst this
        have hb := (hs v (by omega)).mpr ⟨q3, q4⟩
        rw [(bit_and (by omega)).mp h] at hb
        cases hb
    · obtain ⟨u, q1, q2, -⟩ := q i (by omega)
      exact h ⟨u, q1, q2⟩
theorem s_names {e : Int32} {t : Nat} {P : Int32 → MI → MI → Prop} (hF : F 201 2 = nI t) (ht : t ≤ 80) (hn : pcn e ≤ t) (he : ∀ b, bt e b = true → b < 20) (h1 : RowOf (A 3) e (pcn e) → P 1 F A) (h0 : ¬ RowOf (A 3) e (pcn e) → P 0 F A) : CM l mX5_namesEachOf 3 w nb [.ref 2, .int e] F A (qi P) :=
  kX5_namesEachOf (s_bitCount he (names_loop hF ht hn h1 h0 (pcn e) 0 e 0 (by omega) rfl (fun k hk => absurd hk (Nat.not_lt_zero k)) (fun b hb => ⟨fun h => ⟨h, fun j hj => absurd hj (Nat.not_lt_zero j)⟩, fun h => h.1⟩)))
theorem isRow_loop {e : Int32} {g : Nat → Int32} {P : Int32 → MI → MI → Prop} (he : ∀ b, bt e b = true → b < 20) (h80 : pcn e ≤ 80) (hg : ∀ k, k < pcn e → A 123 k &&& 255 = g k) (h255 : ∀ k, k < pcn e → ∃ v, v < 256 ∧ g k = nI v) (h1 : RowOf g e (pcn e) → P 1 F A) (h0 : ¬ RowOf g e (pcn e) → P 0 F A) : ∀ (d i : Nat) (s x4 : Int32), i + d = pcn e → x4 = nI i → RowOf g e i → (∀ b, b < 32 → (bt s b = true ↔ ∃ j, j < i ∧ g j = nI b)) → ZM l mX8_isRowOf 2 w nb (qi P) 4 [(0, .ref 122), (1, .int e), (2, .int s), (3, .int x4)] [] F A
  | 0, i, s, x4, hd, hx, hr, _ => by
    subst hx
    have : i = pcn e := by omega
    subst this
    exact vX8_isRowOf_4 (s_sizeOf he ⟨fun _ => ⟨1, rfl, h1 hr⟩, fun h => absurd (Int32.le_refl _) h⟩)
  | d + 1, i, s, x4, hd, hx, hr, hs => by
    subst hx
    refine vX8_isRowOf_4 (s_sizeOf he ⟨fun h => absurd h (nI_ge (a := i) (b := pcn e) (by omega) (by omega)), fun _ => ?_⟩)
    refine ⟨vp_in_nI (by omega) (by decide), ?_⟩
    rw [nI_clamp (by omega), hg i (by omega)]
    obtain ⟨v, hv, ev⟩ := h255 i (by omega)
    rw [ev]
    refine ⟨fun h => ⟨0, rfl, h0 (fun q => ?_)⟩, fun h => ?_⟩
    · obtain ⟨u, q1, q2, -⟩ := q i (by omega)
      rw [ev] at q2
      have := (nI_eq (by omega) (by omega)).mp q2
      exact nI_ge (a := v) (b := 20) (by omega) (by decide) h
    · have hv20 : v < 20 := by
        rcases Nat.lt_or_ge v 20 with z | z
        · exact z
        · exact absurd (nI_le (a := 20) z (by omega)) h
      refine s_has (by omega) (fun q1 => z1 (s_has (by omega) (fun q2 => z1 ⟨0, rfl, h0 (fun q => ?_)⟩) (fun q2 => z0 ?_))) (fun q1 => z0 ⟨0, rfl, h0 (fun q => ?_)⟩)
      · obtain ⟨j, hj, ej⟩ := (hs v (by omega)).mp q2
        obtain ⟨u, -, y2, -, y4⟩ := q i (by omega)
        exact y4 j hj (by rw [ej, ← ev, y2])
      · refine isRow_loop he h80 hg h255 h1 h0 d (i + 1) _ _ (by omega) (by rw [nI_1]) (fun k hk => ?_) (fun b hb => ?_)
        · rcases Nat.lt_or_ge k i with z | z
          · exact hr k z
          · rw [show k = i by omega]
            refine ⟨v, hv20, ev, q1, fun j hj ej => ?_⟩
            have := (hs v (by omega)).mpr ⟨j, hj, ej⟩
            rw [q2] at this
            cases this
        · rw [bit_or (by omega), Bool.or_eq_true, hs b hb, decide_eq_true_eq]
          constructor
          · rintro (⟨j, hj, ej⟩ | z)
            · exact ⟨j, by omega, ej⟩
            · exact ⟨i, by omega, by rw [ev, z]⟩
          · rintro ⟨j, hj, ej⟩
            rcases Nat.lt_or_ge j i with z | z
            · exact Or.inl ⟨j, z, ej⟩
            · rw [show j = i by omega, ev] at ej
              exact Or.inr ((nI_eq (by omega) (by omega)).mp ej).symm
      · obtain ⟨u, y1, y2, y3, -⟩ := q i (by omega)
        rw [ev] at y2
        have := (nI_eq (by omega) (by omega)).mp y2
        subst this
        rw [q1] at y3
        cases y3
theorem b255 (x : Int32) : ∃ v, v < 256 ∧ x &&& 255 = nI v := by
  have e : x = nI x.toBitVec.toNat := Int32.toBitVec_inj.mp (by show _ = BitVec.ofNat 32 _; simp)
  refine ⟨x.toBitVec.toNat % 2 ^ 8, Nat.mod_lt _ (by decide), ?_⟩
  rw [← fa_mask, ← e]
  rfl
theorem s_isRow {e : Int32} {P : Int32 → MI → MI → Prop} (he : ∀ b, bt e b = true → b < 20) (h80 : pcn e ≤ 80) (hT : ∀ i, i < 80 → A 3 i = A 123 i &&& 255 ∧ (A 123 i).toInt8.toInt32 = A 123 i) (h1 : RowOf (A 3) e (pcn e) → P 1 F A) (h0 : ¬ RowOf (A 3) e (pcn e) → P 0 F A) : CM l mX8_isRowOf 2 w nb [.ref 122, .int e] F A (qi P) :=
  kX8_isRowOf (isRow_loop he h80 (fun k hk => (hT k (by omega)).1.symm) (fun k hk => by rw [(hT k (by omega)).1]; exact b255 _) h1 h0 (pcn e) 0 0 0 (by omega) rfl (fun k hk => absurd hk (Nat.not_lt_zero k)) (fun b hb => by rw [b_0]; exact ⟨fun h => (by cases h), fun ⟨j, hj, _⟩ => absurd hj (Nat.not_lt_zero j)⟩))
theorem byte_of {x : Int32} {v : Nat} (hv : v < 20) (h1 : x &&& 255 = nI v) (h2 : x.toInt8.toInt32 = x) : x = nI v := by
  rw [← h2, ← fa_byte_low, h1]
  exact fa_byte_small (by omega)
/-- all of the set are named -/
theorem RowOf.all {g : Nat → Int32} {e : Int32} (h : RowOf g e (pcn e)) (he : ∀ b, bt e b = true → b < 20) {b : Nat} (hb : bt e b = true) : ∃ k, k < pcn e ∧ g k = nI b := by
  have key : ∀ k, k < pcn e → ∃ v, v < 20 ∧ g k = nI v ∧ bt e v = true ∧ (g k).toNatClampNeg = v := fun k hk => by
    obtain ⟨v, h1, h2, h3, -⟩ := h k hk
    exact ⟨v, h1, h2, h3, by rw [h2, nI_clamp (by omega)]⟩
  have lt : ∀ v, bt e v = true → fb_ct (bt e) v < pcn e := fun v hv => by
    have h1 := fb_ct_mono (bt e) (m := v + 1) (n := 32) (by have := he v hv; omega)
    rw [fb_ct_succ, if_pos hv] at h1
    unfold pcn
    omega
  obtain ⟨i, hi, ei⟩ := fb_onto (n := pcn e) (f := fun k => fb_ct (bt e) (g k).toNatClampNeg) (fun k hk => by
    obtain ⟨v, -, -, h3, h4⟩ := key k hk
    rw [h4]; exact lt v h3) (fun i j hij hj => by
    obtain ⟨u, -, u2, u3, u4⟩ := key i (by omega)
    obtain ⟨v, -, v2, v3, v4⟩ := key j hj
    rw [u4, v4]
    intro z
    have := fb_ct_kth_one u3 v3 z
    subst this
    obtain ⟨y, -, y2, -, y4⟩ := h j hj
    exact y4 i hij (by rw [u2, ← v2, y2])) (lt b hb)
  obtain ⟨v, -, v2, v3, v4⟩ := key i hi
  refine ⟨i, hi, ?_⟩
  have := fb_ct_kth_one v3 hb (by rw [← v4]; exact ei)
  rw [v2, this]
/-- the tape is empty -/
def Clr (F : MI) : MI := u2 (u2 (u2 F 201 2 0) 203 2 0) 202 2 0
theorem s_clear {P : MI → MI → Prop} (hP : P (Clr F) A) : CM l mX5_clear 3 w nb [.ref 2] F A (qv P) :=
  kX5_clear (kX5_startReading (kX5_has ⟨fun h => absurd h (by decide), fun _ => ⟨fun h => by rw [u2_n1 (by decide), u2_s] at h; exact absurd h (by decide), fun _ => ⟨1, rfl, z1 ⟨rfl, rfl, hP⟩⟩⟩⟩))
theorem Clr_ne {f a : Nat} (h : ¬ (a = 2 ∧ (f = 201 ∨ f = 202 ∨ f = 203))) : Clr F f a = F f a := by
  unfold Clr
  rw [u2_ne (by omega), u2_ne (by omega), u2_ne (by omega)]
theorem Clr_s : Clr F 201 2 = 0 := by
  unfold Clr
  rw [u2_n1 (by decide), u2_n1 (by decide), u2_s]
theorem Inv.clr (hw : TW w) (hI : Inv w nb F A) : Inv w nb (u2 (Clr F) 321 122 0) A := by
  refine hI.exc hw (fun f a => (a = 2 ∧ (f = 201 ∨ f = 202 ∨ f = 203)) ∨ (f = 321 ∧ a = 122)) (fun a => a = 0) (fun f a q => (u2_ne (by omega)).trans (Clr_ne (by omega))) (fun a j q => rfl) (Or.inr (⟨⟨0, by decide, ?_, u2_s⟩, hI.1.2⟩)) (Or.inl ⟨by omega, by omega, fun k i => by omega, fun a _ _ => by omega, fun i => by omega⟩) (Or.inl ⟨by omega, by omega⟩) (Or.inl ⟨by omega, by omega⟩) (Or.inl ⟨fun k c _ _ _ => by omega, by omega, by omega⟩) (Or.inl ⟨⟨by omega, by omega, by omega⟩, fun d _ => ⟨by omega, by omega, by omega⟩, fun a _ _ => by omega⟩) (Or.inl ⟨fun c _ => by omega, by omega⟩) (Or.inl ⟨by omega, fun c d _ _ _ => by omega, by omega, by omega⟩) (Or.inl ⟨fun c _ => by omega, by omega, fun c _ => by omega, by omega, by omega⟩) (Or.inl (fun a _ _ => by omega))
  rw [u2_n1 (by decide), Clr_s]
  rfl
theorem keep_loop {c j n t : Nat} {A0 : MI} {P : MI → MI → Prop} (hc : c < 6) (hj : j < 6) (hn : n ≤ 8) (h161 : F 161 (38 + 14 * c) = nI n) (hF : F 201 2 = nI t) (ht : t ≤ 80) (hnt : n ≤ t) (hP : ∀ A, (∀ a k, ¬ ((a = 38 + 14 * c + 5 + j ∧ k < n) ∨ (a = 38 + 14 * c + 11 ∧ k = j)) → A a k = A0 a k) → (∀ k, k < n → A (38 + 14 * c + 5 + j) k = A0 3 k) → A (38 + 14 * c + 11) j = nI n → P F A) : ∀ (d i : Nat) (x3 : Int32) (A : MI), i + d = n → x3 = nI i → (∀ a k, ¬ (a = 38 + 14 * c + 5 + j ∧ k < n) → A a k = A0 a k) → (∀ k, k < i → A (38 + 14 * c + 5 + j) k = A0 3 k) → ZM l mX4_keepOrder 3 w nb (qv P) 2 [(0, .ref (38 + 14 * c)), (1, .int (nI j)), (2, .ref 2), (3, .int x3)] [] F A
  | 0, i, x3, A, hd, hx, h1, h2 => by
    subst hx
    have : i = n := by omega
    subst this
    refine vX4_keepOrder_2 hc ?_
    rw [h161, nI_clamp (by omega)]
    refine ⟨fun _ => ⟨vp_in_nI hj (by decide), rfl, hP _ (fun a k q => (u2_ne (by omega)).trans (h1 a k (by omega))) (fun k hk => ?_) u2_s⟩, fun h => absurd (Int32.le_refl _) h⟩
    rw [u2_n1 (by omega)]
    exact h2 k hk
  | d + 1, i, x3, A, hd, hx, h1, h2 => by
    subst hx
    refine vX4_keepOrder_2 hc ?_
    rw [h161, nI_clamp (by omega), nI_clamp (by omega)]
    refine ⟨fun h => absurd h (nI_ge (a := i) (b := n) (by omega) (by omega)), fun _ => ⟨vp_in_nI hj (by decide), s_byteAt hF ht (by omega) ⟨vp_in_nI (by omega) (by decide), keep_loop hc hj hn h161 hF ht hnt hP d (i + 1) _ _ (by omega) (by rw [nI_1]) (fun a k q => (u2_ne (by omega)).trans (h1 a k q)) (fun k hk => ?_)⟩⟩⟩
    rcases Nat.lt_or_ge k i with z | z
    · rw [u2_n2 (by omega)]; exact h2 k z
    · rw [show k = i by omega, u2_s]; exact h1 3 i (by omega)
theorem order_loop {c j n : Nat} {A0 : MI} {P : Int32 → MI → MI → Prop} (hc : c < 6) (hj : j < 6) (hn : n ≤ 8) (hP : ∀ A, (∀ a k, ¬ (a = 138 ∧ 8 * (6 * j + c) ≤ k ∧ k < 8 * (6 * j + c) + n) → A a k = A0 a k) → (∀ k, k < n → A 138 (8 * (6 * j + c) + k) = A0 123 k) → P 1 F A) : ∀ (d i : Nat) (x4 : Int32) (A : MI), i + d = n → x4 = nI i → (∀ a k, ¬ (a = 138 ∧ 8 * (6 * j + c) ≤ k ∧ k < 8 * (6 * j + c) + n) → A a k = A0 a k) → (∀ k, k < i → A 138 (8 * (6 * j + c) + k) = A0 123 k) → ZM l mX8_order 3 w nb (qi P) 93 [(0, .ref 122), (1, .int (nI j)), (2, .int (nI c)), (3, .int (nI n)), (4, .int x4)] [] F A
  | 0, i, x4, A, hd, hx, h1, h2 => by
    subst hx
    have : i = n := by omega
    subst this
    exact vX8_order_93 ⟨fun _ => ⟨1, rfl, hP A h1 h2⟩, fun h => absurd (Int32.le_refl _) h⟩
  | d + 1, i, x4, A, hd, hx, h1, h2 => by
    subst hx
    refine vX8_order_93 ⟨fun h => absurd h (nI_ge (a := i) (b := n) (by omega) (by omega)), fun _ => ⟨vp_in_nI (by omega) (by decide), ?_⟩⟩
    have e : (8 * (6 * nI j + nI c) + nI i : Int32) = nI (8 * (6 * j + c) + i) := by
      rw [ix_td, nI_lit 8, pk_mul, nI_add]
    rw [e, nI_clamp (by omega), nI_clamp (by omega)]
    refine ⟨vp_in_nI (by omega) (by decide), order_loop hc hj hn hP d (i + 1) _ _ (by omega) (by rw [nI_1]) (fun a k q => (u2_ne (by omega)).trans (h1 a k q)) (fun k hk => ?_)⟩
    rcases Nat.lt_or_ge k i with z | z
    · rw [u2_n2 (by omega)]; exact h2 k z
    · rw [show k = i by omega, u2_s]; exact h1 123 i (by omega)
end ORDER
