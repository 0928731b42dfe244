/-! REASONS: what both read. A result: (0, 0, points) at the end, (4, place, points) behind a ';', (k, place, 0) for FAULT k -/
abbrev RS : Type := Nat × Nat × Int32
def sepS (s : Nat → Nat) (n i : Nat) (p : Int32) : RS := if n ≤ i then (0, 0, p) else if hv s n i = 59 then (4, i + 1, p) else (1, i, 0)
def trm (s : Nat → Nat) (n i : Nat) : Bool := decide (hv s n i = 45) || (decide (48 ≤ hv s n i) && decide (hv s n i ≤ 50))
def minusAt (s : Nat → Nat) (n i : Nat) : Nat := if hv s n i = 45 then i + 1 else i
def tmS (s : Nat → Nat) (n : Nat) (dl : Bool → Nat → Int32) : Nat → Nat → Int32 → RS
  | 0, i, p => sepS s n i p
  | d + 1, i, p => if d = 3 ∨ trm s n i = true then (if 48 ≤ hv s n (minusAt s n i) ∧ hv s n (minusAt s n i) ≤ 50 then tmS s n dl d (minusAt s n i + 1) (p + dl (decide (hv s n i = 45)) (hv s n (minusAt s n i) - 48)) else (1, minusAt s n i, 0)) else sepS s n i p
def prS (s : Nat → Nat) (n m : Nat) (dl : Nat → Nat → Bool → Nat → Int32) (i : Nat) (p : Int32) : RS :=
  if ¬ (97 ≤ hv s n i ∧ hv s n i ≤ 104) then (1, i, 0) else if m < hv s n i - 96 then (2, i, 0) else
  if ¬ hv s n (i + 1) = 62 then (1, i + 1, 0) else
  if ¬ (97 ≤ hv s n (i + 2) ∧ hv s n (i + 2) ≤ 104) then (1, i + 2, 0) else if m < hv s n (i + 2) - 96 ∨ hv s n (i + 2) = hv s n i then (2, i + 2, 0) else
  if hv s n (i + 2) < hv s n i then (3, i, 0) else if ¬ hv s n (i + 3) = 58 then (1, i + 3, 0) else tmS s n (dl (hv s n i - 96) (hv s n (i + 2) - 96)) 4 (i + 4) p
def pairsS (s : Nat → Nat) (n m : Nat) (dl : Nat → Nat → Bool → Nat → Int32) : Nat → Nat → Int32 → RS
  | 0, _, p => (0, 0, p)
  | k + 1, i, p => if (prS s n m dl i p).1 = 4 then pairsS s n m dl k (prS s n m dl i p).2.1 (prS s n m dl i p).2.2 else prS s n m dl i p
theorem sepS_next {s : Nat → Nat} {n i j : Nat} {p q : Int32} (h : sepS s n i p = (4, j, q)) : j = i + 1 ∧ j ≤ n ∧ q = p ∧ i < n ∧ hv s n i = 59 := by
  unfold sepS at h
  split at h
  · cases h
  · split at h
    · rename_i h1 h2
      simp only [Prod.mk.injEq, true_and] at h
      exact ⟨h.1.symm, by omega, h.2.symm, by omega, h2⟩
    · cases h
theorem tmS_next {s : Nat → Nat} {n j : Nat} {dl : Bool → Nat → Int32} {q : Int32} : ∀ {d i : Nat} {p : Int32}, tmS s n dl d i p = (4, j, q) → i + 1 ≤ j ∧ j ≤ n
  | 0, i, p, h => by
    unfold tmS at h
    have := sepS_next h
    omega
  | d + 1, i, p, h => by
    unfold tmS at h
    have hm : i ≤ minusAt s n i := by unfold minusAt; split <;> omega
    split at h
    · split at h
      · have := tmS_next h
        omega
      · cases h
    · have := sepS_next h
      omega
theorem prS_next {s : Nat → Nat} {n m i j : Nat} {dl : Nat → Nat → Bool → Nat → Int32} {p q : Int32} (h : prS s n m dl i p = (4, j, q)) : i + 5 ≤ j ∧ j ≤ n := by
  unfold prS at h
  split at h
  · cases h
  · split at h
    · cases h
    · split at h
      · cases h
      · split at h
        · cases h
        · split at h
          · cases h
          · split at h
            · cases h
            · split at h
              · cases h
              · have := tmS_next h
                omega
/-- two terms' PLACES held against the MEASURES -/
def dlr (A : MI) (r : Nat → Nat) (p q : Nat) (g : Bool) (m : Nat) : Int32 := if g = true then (if A 128 (3 * r (p - 1) + m) < A 128 (3 * r (q - 1) + m) then 2 else -1) else (if A 128 (3 * r (q - 1) + m) < A 128 (3 * r (p - 1) + m) then 2 else -1)
section REASX
variable {l : Launch} {w : Nat → Nat} {nb : Nat} {F A F0 A0 : MI} {P : Int32 → MI → MI → Prop} {V : MI → MI → Prop} {s : Nat → Nat} {n : Nat}
def XFr (F0 F : MI) : Prop := ∀ f a, ¬ ((f = 203 ∧ a = 2) ∨ (f = 120 ∧ a = 34)) → F f a = F0 f a
def XS (F0 : MI) (i : Nat) (p : Int32) (F : MI) : Prop := XFr F0 F ∧ F 203 2 = nI i ∧ F 120 34 = p
theorem XS.at {i : Nat} {p : Int32} (h : XS F0 i p F) (j : Nat) : XS F0 j p (u2 F 203 2 (nI j)) := ⟨fun f a q => (u2_ne (by omega)).trans (h.1 f a q), u2_s, (u2_n1 (by decide)).trans h.2.2⟩
theorem XS.pt {i : Nat} {p q : Int32} (h : XS F0 i p F) : XS F0 i q (u2 F 120 34 q) := ⟨fun f a q => (u2_ne (by omega)).trans (h.1 f a q), (u2_n1 (by decide)).trans h.2.1, u2_s⟩
theorem XS.len {i : Nat} {p : Int32} (h : XS F0 i p F) (h0 : F0 202 2 = nI n) : F 202 2 = nI n := (h.1 _ _ (by omega)).trans h0
theorem s_isAtMeasure {i : Nat} (hs : ByX A s) (hn : n ≤ 80) (h1 : F 202 2 = nI n) (h2 : F 203 2 = nI i) (hi : i < 200) (k1 : 48 ≤ hv s n i → hv s n i ≤ 50 → P 1 F A) (k0 : ¬ (48 ≤ hv s n i ∧ hv s n i ≤ 50) → P 0 F A) : CM l mX3_isAtMeasure 2 w nb [.ref 2] F A (qi P) := by
  have hp := pkv_toInt (i := i) hs hn
  have hl : hv s n i < 256 := hv_lt (fun k hk => (hs k hk).2) hn
  have e48 : (48 : Int32).toInt = 48 := rfl
  have es : (pkv s n i - 48).toInt = (pkv s n i).toInt - 48 := fb_subI (by rw [e48]; by_cases z : hv s n i = 0; have := hp.2 z; omega; have := hp.1 z; omega) (by rw [e48]; by_cases z : hv s n i = 0; have := hp.2 z; omega; have := hp.1 z; omega)
  have hb := bel_iff (x := pkv s n i - 48) (n := 3) (by decide)
  refine kX3_isAtMeasure (s_peek hs hn h1 h2 hi (s_below (n := 3) rfl (by decide) (fun j hj e => ⟨Or.inr rfl, 1, rfl, ?_⟩) (fun h => ⟨Or.inl rfl, 0, rfl, k0 (fun q => h (hb.mpr ?_))⟩)))
  · have := hb.mp ⟨j, hj, e⟩
    by_cases z : hv s n i = 0
    · have := hp.2 z; omega
    · have := hp.1 z; exact k1 (by omega) (by omega)
  · have := hp.1 (by omega)
    omega
theorem s_isAtTerm {i : Nat} (hs : ByX A s) (hn : n ≤ 80) (h1 : F 202 2 = nI n) (h2 : F 203 2 = nI i) (hi : i < 200) (k1 : trm s n i = true → P 1 F A) (k0 : trm s n i = false → P 0 F A) : CM l mX3_isAtTerm 3 w nb [.ref 2] F A (qi P) := by
  refine kX3_isAtTerm (s_peek hs hn h1 h2 hi ?_)
  have := pkv_eq (i := i) hs hn (c := 45) (by decide) (by decide)
  rw [nI_lit 45, this]
  refine ⟨fun h => ⟨1, rfl, k1 (by unfold trm; simp [h])⟩, fun h => s_isAtMeasure hs hn h1 h2 hi (fun q1 q2 => z1 ⟨1, rfl, k1 (by unfold trm; simp [q1, q2])⟩) (fun q => z0 ⟨0, rfl, k0 ?_⟩)⟩
  unfold trm
  simp only [h, decide_false, Bool.false_or, Bool.and_eq_false_iff, decide_eq_false_iff_not]
  omega
theorem termsX {r : Nat → Nat} {p q : Nat} (hs : ByX A s) (hn : n ≤ 80) (h0 : F0 202 2 = nI n) (h2 : I2 nb F0 A) (hp : r (p - 1) < nb) (hq : r (q - 1) < nb) (res : RS) (kOk : ∀ F i x, i ≤ n → XS F0 i x F → res = sepS s n i x → P 0 F A) (kF : ∀ F i, i ≤ n → XFr F0 F → res = (1, i, 0) → P (nI (100 * 1 + i)) F A) : ∀ (d i : Nat) (x : Int32) (x4 : Int32) (F : MI), d ≤ 4 → i ≤ n → x4 = nI (4 - d) → XS F0 i x F → res = tmS s n (dlr A r p q) d i x → ZM l mX3_readTerms 4 w nb (qi P) 3 [(0, .ref 34), (1, .ref 2), (2, .ref (147 + 2 * r (p - 1))), (3, .ref (147 + 2 * r (q - 1))), (4, .int x4)] [] F A
  | 0, i, x, x4, F, hd, hi, hx, hS, hr => by
    subst hx
    exact vX3_readTerms_3 hp hq ⟨fun _ => ⟨0, rfl, kOk F i x hi hS hr⟩, fun h => absurd (by decide) h⟩
  | d + 1, i, x, x4, F, hd, hi, hx, hS, hr => by
    subst hx
    have h1 := hS.len h0
    have go : (d = 3 ∨ trm s n i = true) → ZM l mX3_readTerms 4 w nb (qi P) 21 [(0, .ref 34), (1, .ref 2), (2, .ref (147 + 2 * r (p - 1))), (3, .ref (147 + 2 * r (q - 1))), (4, .int (nI (4 - (d + 1))))] [] F A := by
      intro ht
      unfold tmS at hr
      rw [if_pos ht] at hr
      -- behind the '-'
      have rest : ∀ (g : Int32) (F1 : MI), (g = 0 ↔ ¬ hv s n i = 45) → XS F0 (minusAt s n i) x F1 → minusAt s n i ≤ n → CM l mX3_isAtMeasure 2 w nb [.ref 2] F1 A (qi fun r2 F2 A2 => ((¬ r2 = 0 → CM l mX5_peek 1 w nb [.ref 2] F2 A2 (qi fun r3 F3 A3 => CM l mX5_skip 1 w nb [.ref 2] F3 A3 (qv fun F4 A4 => (vp_in (r3 - 48) 3 ∧ (vp_in (r3 - 48) 3 ∧ ((g = 0 → ((((A4 (148 + 2 * r (p - 1)) (r3 - 48).toNatClampNeg) - (A4 (148 + 2 * r (q - 1)) (r3 - 48).toNatClampNeg)) ≤ 0 → ZM l mX3_readTerms 4 w nb (qi P) 99 [(0, .ref 34), (1, .ref 2), (2, .ref (147 + 2 * r (p - 1))), (3, .ref (147 + 2 * r (q - 1))), (4, .int (nI (4 - (d + 1))))] [.int (F4 120 34), .ref 34] F4 A4) ∧ (¬ ((A4 (148 + 2 * r (p - 1)) (r3 - 48).toNatClampNeg) - (A4 (148 + 2 * r (q - 1)) (r3 - 48).toNatClampNeg)) ≤ 0 → ZM l mX3_readTerms 4 w nb (qi P) 95 [(0, .ref 34), (1, .ref 2), (2, .ref (147 + 2 * r (p - 1))), (3, .ref (147 + 2 * r (q - 1))), (4, .int (nI (4 - (d + 1))))] [.int (F4 120 34), .ref 34] F4 A4))) ∧ (¬ g = 0 → ((0 ≤ ((A4 (148 + 2 * r (p - 1)) (r3 - 48).toNatClampNeg) - (A4 (148 + 2 * r (q - 1)) (r3 - 48).toNatClampNeg)) → ZM l mX3_readTerms 4 w nb (qi P) 99 [(0, .ref 34), (1, .ref 2), (2, .ref (147 + 2 * r (p - 1))), (3, .ref (147 + 2 * r (q - 1))), (4, .int (nI (4 - (d + 1))))] [.int (F4 120 34), .ref 34] F4 A4) ∧ (¬ 0 ≤ ((A4 (148 + 2 * r (p - 1)) (r3 - 48).toNatClampNeg) - (A4 (148 + 2 * r (q - 1)) (r3 - 48).toNatClampNeg)) → ZM l mX3_readTerms 4 w nb (qi P) 95 [(0, .ref 34), (1, .ref 2), (2, .ref (147 + 2 * r (p - 1))), (3, .ref (147 + 2 * r (q - 1))), (4, .int (nI (4 - (d + 1))))] [.int (F4 120 34), .ref 34] F4 A4))))))))) ∧ (r2 = 0 → CM l mX5_faultHere 2 w nb [.ref 2, .int 1] F2 A2 (qi fun r7 F7 A7 => (qi P) (some (.int r7)) F7 A7)))) := by
        intro g F1 hg hS1 hj
        generalize minusAt s n i = j at hr hS1 hj
        have h11 := hS1.len h0
        refine s_isAtMeasure hs hn h11 hS1.2.1 (by omega) (fun q1 q2 => n1 ?_) (fun q => n0 (s_faultHere (k := 1) hS1.2.1 ⟨_, rfl, kF F1 j hj hS1.1 ?_⟩))
        rotate_left
        · rw [if_neg q] at hr; exact hr
        rw [if_pos ⟨q1, q2⟩] at hr
        have hjn : j < n := hv_in (s := s) (by omega)
        refine s_peek hs hn h11 hS1.2.1 (by omega) (s_skip hn h11 hS1.2.1 hjn ?_)
        obtain ⟨m, hm, em⟩ : ∃ m, m < 3 ∧ hv s n j = m + 48 := ⟨hv s n j - 48, by omega, by omega⟩
        have e1 : pkv s n j - 48 = nI m := by
          rw [(pkv_eq hs hn (c := m + 48) (by omega) (by omega)).mpr em]
          show nI (m + 48) - nI 48 = _
          rw [pk_sub (by omega)]
          congr 1
        have e2 : hv s n j - 48 = m := by omega
        rw [e2] at hr
        have hv3 := vp_in_nI hm (N := 3) (by decide)
        have hS2 := hS1.at (j + 1)
        obtain ⟨a, ha, a1, a2⟩ := h2.2.2.2.2.1 _ hp m hm
        obtain ⟨b, hb, b1, b2⟩ := h2.2.2.2.2.1 _ hq m hm
        rw [e1, nI_clamp (by omega), a1, b1, hS2.2.2]
        have ed : (nI a - nI b).toInt = (a : Int) - b := pk_sub_toInt (by omega) (by omega)
        have d0 : (0 : Int32).toInt = 0 := rfl
        have hlt : ∀ u v : Nat, u ≤ 99 → v ≤ 99 → (nI u < nI v ↔ u < v) := fun u v hu hv => by
          rw [i_lt, nI_toInt (by omega), nI_toInt (by omega)]; omega
        have next : ∀ y : Int32, dlr A r p q (decide (hv s n i = 45)) m = y → ZM l mX3_readTerms 4 w nb (qi P) 100 [(0, .ref 34), (1, .ref 2), (2, .ref (147 + 2 * r (p - 1))), (3, .ref (147 + 2 * r (q - 1))), (4, .int (nI (4 - (d + 1))))] [.int y, .int x, .ref 34] (u2 F1 203 2 (nI (j + 1))) A := fun y ey => by
          rw [ey] at hr
          refine vX3_readTerms_100 hp hq (termsX hs hn h0 h2 hp hq res kOk kF d (j + 1) (x + y) _ _ (by omega) hjn ?_ hS2.pt hr)
          rw [nI_1]
          congr 1
          omega
        refine ⟨hv3, hv3, fun hg0 => ?_, fun hg0 => ?_⟩
        · have g45 := hg.mp hg0
          refine ⟨fun h => vX3_readTerms_99 hp hq (next _ ?_), fun h => vX3_readTerms_95 hp hq (next _ ?_)⟩
          · rw [i_le, ed, d0] at h
            unfold dlr
            rw [decide_eq_false g45, if_neg (by decide : ¬ false = true), a2, b2, if_neg (by rw [hlt _ _ hb ha]; omega)]
          · rw [i_le, ed, d0] at h
            unfold dlr
            rw [decide_eq_false g45, if_neg (by decide : ¬ false = true), a2, b2, if_pos (by rw [hlt _ _ hb ha]; omega)]
        · have g45 : hv s n i = 45 := Classical.byContradiction (fun z => hg0 (hg.mpr z))
          refine ⟨fun h => vX3_readTerms_99 hp hq (next _ ?_), fun h => vX3_readTerms_95 hp hq (next _ ?_)⟩
          · rw [i_le, ed, d0] at h
            unfold dlr
            rw [decide_eq_true g45, if_pos rfl, a2, b2, if_neg (by rw [hlt _ _ ha hb]; omega)]
          · rw [i_le, ed, d0] at h
            unfold dlr
            rw [decide_eq_true g45, if_pos rfl, a2, b2, if_pos (by rw [hlt _ _ ha hb]; omega)]
      refine vX3_readTerms_21 hp hq (s_skipIf hs hn h1 hS.2.1 (by omega) (c := 45) (by decide) (by decide) (fun q => rest 1 _ ?_ ?_ ?_) (fun q => rest 0 _ ?_ ?_ ?_))
      · exact ⟨fun z => absurd z (by decide), fun z => absurd q z⟩
      · unfold minusAt; rw [if_pos q]; exact hS.at (i + 1)
      · unfold minusAt; rw [if_pos q]; exact hv_in (s := s) (by omega)
      · exact ⟨fun _ => q, fun _ => rfl⟩
      · unfold minusAt; rw [if_neg q]; exact hS
      · unfold minusAt; rw [if_neg q]; exact hi
    have hz : nI (4 - (d + 1)) = 0 ↔ d = 3 := by
      have e := nI_eq (a := 4 - (d + 1)) (b := 0) (by omega) (by omega)
      exact e.trans (by omega)
    refine vX3_readTerms_3 hp hq ⟨fun h => absurd h (nI_ge (b := 4) (by omega) (by decide)), fun _ => ⟨fun h => go (Or.inl (hz.mp h)), fun h => s_isAtTerm hs hn h1 hS.2.1 (by omega) (fun q => z1 (go (Or.inr q))) (fun q => z0 ⟨0, rfl, kOk F i x hi hS ?_⟩)⟩⟩
    unfold tmS at hr
    rw [if_neg] at hr
    · exact hr
    · rintro (z | z)
      · exact h (hz.mpr z)
      · rw [q] at z; cases z
end REASX
