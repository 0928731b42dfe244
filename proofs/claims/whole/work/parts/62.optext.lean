section OPTEXT
variable {l : Launch} {w : Nat → Nat} {nb : Nat} {F A F0 A0 : MI} {T : SH} {G B : MN}
theorem zq_V {M M' : MD} {L n idx L' ci pc : Nat} {Q : PQ} {lv : List (Nat × Value)} {st : List Value} {TT : u_T} {N a : Nat} {As rest : List Value} {P : PM} (hd : decode M.2.1 pc = .ok (.invokevirtual idx, 3)) (hM : MOk M' n) (hI : IOk M') (hl : Cond.methodLink M.1.cls idx M'.1 ∈ lw_g) (hcl : vwCl[ci]? = some (M'.1.cls, TT, N)) (h9 : ci < 9) (ha : At T a ci) (hn : As.length = n) (hst : st = As.reverse ++ .ref a :: rest) (hrest : rest.length ≤ 8) (hL : L' + 1 ≤ L) (hY : LY w nb T G B)
    (kk : CM l M' L' w nb (.ref a :: As) F A P) {ac az rc rs : Nat} (h : ∀ v F A, P v F A → Z l M L ac az rc rs Q (pc + 3) lv (v.toList ++ rest) T F G A B) : Z l M L ac az rc rs Q pc lv st T F G A B :=
  z_callV hd hM hI hl hcl h9 ha hn hst hrest hL (by omega) (by omega) (cm_Z hY kk h)
def wsw (w : Nat → Nat) (c : Nat) : Nat → Nat := fun k => if k = c then w 6 else if k = 6 then w c else w k
theorem wsw_c {c : Nat} : wsw w c c = w 6 := if_pos rfl
theorem wsw_6 {c : Nat} (hc : c < 6) : wsw w c 6 = w c := by unfold wsw; rw [if_neg (by omega), if_pos rfl]
theorem wsw_n {c d : Nat} (h1 : d ≠ c) (h2 : d ≠ 6) : wsw w c d = w d := by unfold wsw; rw [if_neg h1, if_neg h2]
theorem TW.sw (hw : TW w) {c : Nat} (hc : c < 6) : TW (wsw w c) := by
  have e : ∀ d, d < 7 → ∃ d', d' < 7 ∧ wsw w c d = w d' ∧ d' = (if d = c then 6 else if d = 6 then c else d) := fun d hd => by
    unfold wsw
    by_cases z : d = c
    · exact ⟨6, by omega, by rw [if_pos z], by rw [if_pos z]⟩
    · by_cases y : d = 6
      · exact ⟨c, by omega, by rw [if_neg z, if_pos y], by rw [if_neg z, if_pos y]⟩
      · exact ⟨d, hd, by rw [if_neg z, if_neg y], by rw [if_neg z, if_neg y]⟩
  refine ⟨fun d hd => ?_, fun d1 d2 h1 h2 h => ?_⟩
  · obtain ⟨d', q1, q2, -⟩ := e d hd
    rw [q2]; exact hw.1 d' q1
  · obtain ⟨a1, q1, q2, q3⟩ := e d1 h1
    obtain ⟨a2, p1, p2, p3⟩ := e d2 h2
    have := hw.2 a1 a2 q1 p1 (by rw [← q2, ← p2]; exact h)
    rw [q3, p3] at this
    split at this
    · split at this
      · omega
      · split at this <;> omega
    · split at this
      · split at this
        · omega
        · split at this <;> omega
      · split at this
        · omega
        · split at this <;> omega
theorem LY.sw (hY : LY w nb T G B) (hw : TW w) {c : Nat} (hc : c < 6) : LY (wsw w c) nb T (u2 (u2 G 163 (38 + 14 * c) (w 6)) 287 1 (w c)) B := by
  have hw2 := hw.sw hc
  refine ⟨hY.1, hY.2.1, fun q hq => ?_, hY.2.2.2.1, fun d hd => ?_, ?_, hw2.1, hw2.2, hY.2.2.2.2.2.2.2.2.1, fun i hi => ?_⟩
  · have h1 : (lyG.all (fun q => !(q.1 == 163) && !(q.1 == 287))) = true := by decide +kernel
    have h2 := List.all_eq_true.mp h1 q hq
    simp only [Bool.and_eq_true, Bool.not_eq_true', beq_eq_false_iff_ne] at h2
    rw [u2_n1 h2.2, u2_n1 h2.1]
    exact hY.2.2.1 q hq
  · rw [u2_n1 (by decide)]
    by_cases z : d = c
    · rw [z, u2_s, wsw_c]
    · rw [u2_n2 (by omega), wsw_n z (by omega)]; exact lwc hY hd
  · rw [u2_s, wsw_6 hc]
  · obtain ⟨h1, h2, h3, h4, h5⟩ := hY.2.2.2.2.2.2.2.2.2 i hi
    exact ⟨h1, h2, h3, h4, by rw [u2_n1 (by decide), u2_n1 (by decide)]; exact h5⟩
theorem s_swap {c : Nat} {R : PQ} (hY : LY w nb T G B) (hw : TW w) (hc : c < 6) (hR : R (some (.ref (w c))) T F (u2 G 163 (38 + 14 * c) (w 6)) A B) : Cn l mX4_swapText 1 0 0 [.ref (38 + 14 * c), .ref (w 6)] T F G A B R := by
  refine Cn.ofZ (lv := [(0, .ref (38 + 14 * c)), (1, .ref (w 6))]) rfl (fun _ _ => rfl) (fun _ _ => Nat.le_of_ble_eq_true rfl) ?_
  refine z_aload_n dX4_swapText_0 0 rfl rfl ?_
  refine z_getr (k := 3) (fc := 163) (r := w c) dX4_swapText_1 ckX4 (by decide) fk_X4_24 rfl rfl (lat4 hY hc) (lwc hY hc) (tx_pos (hw.1 c (by omega))) ?_
  refine z_astore_n (lv' := [(0, .ref (38 + 14 * c)), (1, .ref (w 6)), (2, .ref (w c))]) dX4_swapText_4 rfl (by decide) rfl ?_
  refine z_aload_n dX4_swapText_5 0 rfl rfl ?_
  refine z_aload_n dX4_swapText_6 1 rfl rfl ?_
  refine z_putr (k := 3) (fc := 163) dX4_swapText_7 ckX4 (by decide) fk_X4_24 rfl rfl rfl (lat4 hY hc) (tx_pos (hw.1 6 (by omega))) ?_
  refine z_aload_n dX4_swapText_10 2 rfl rfl ?_
  exact z_aret dX4_swapText_11 rfl (Or.inr ⟨_, rfl⟩) hR
theorem tx7 {t : Nat} (h : isTx t) : t = 35 ∨ t = 39 ∨ t = 53 ∨ t = 67 ∨ t = 81 ∨ t = 95 ∨ t = 109 := by rcases h with z | ⟨c, hc, z⟩ <;> omega
theorem tx_far {t u : Nat} (h : isTx t) (g : isTx u) (ne : u ≠ t) : u + 1 ≠ t + 1 ∧ u + 1 ≠ t + 2 ∧ u + 2 ≠ t + 1 ∧ u + 2 ≠ t + 2 := by
  rcases h with z | ⟨c, hc, z⟩ <;> rcases g with y | ⟨d, hd, y⟩ <;> omega
/-- what op_text says -/
def QT (l : Launch) (nb : Nat) (x1 x2 : Int32) (T : SH) (B : MN) : PQ := fun v T' F' G' A' B' => T' = T ∧ B' = B ∧ ∃ r w', v = some (.int r) ∧ LY w' nb T G' B ∧ TW w' ∧ CM l mX8_text 6 w' nb [.ref 122, .int x1, .int x2] F' A' (qi fun r' F A => r = r' ∧ Inv w' nb F A)
theorem op_text {x1 x2 : Int32} (hw : TW w) (hI : Inv w nb F A) (hY : LY w nb T G B) : Cn l mX7_text 8 0 0 [.ref 1, .int x1, .int x2] T F G A B (QT l nb x1 x2 T B) := by
  obtain ⟨hn1, hn2, hn3, -⟩ := hI.2.1
  have h6 := hI.2.2.2.2.2.1
  obtain ⟨⟨t0, ht0, t1, t2⟩, hTp⟩ := id hI.1
  obtain ⟨s, hsX, hsM⟩ := by_of hI.1
  have bad : (¬ Bel x1 6 ∨ ¬ ∃ n, n ≤ t0 ∧ x2 = nI n) → QT l nb x1 x2 T B (some (.int (-1))) T F G A B := by
    intro hb
    refine ⟨rfl, rfl, -1, w, rfl, hY, hw, kX8_text (s_isClass (fun c hc e => z1 ?_) (fun _ => z0 ⟨-1, rfl, rfl, hI⟩))⟩
    rw [t2]
    refine guardM ht0 (fun n q1 q2 => ?_) (fun _ => ⟨-1, rfl, rfl, hI⟩)
    rcases hb with z | z
    · exact absurd ⟨c, hc, e⟩ z
    · exact absurd ⟨n, q1, q2⟩ z
  refine Cn.ofZ (lv := [(0, .ref 1), (1, .int x1), (2, .int x2)]) rfl (fun _ _ => rfl) (fun _ _ => Nat.le_of_ble_eq_true rfl) ?_
  refine z_aload_n dX7_text_0 0 rfl rfl ?_
  refine z_iload_n dX7_text_1 1 rfl rfl ?_
  refine zq_V (As := [.int x1]) (rest := []) dX7_text_2 okX7_classAt ioX7_classAt mk_X7_80 (ci := 7) rfl (by decide) (lat hY rfl) rfl rfl (Nat.le_of_ble_eq_true rfl) (by decide) hY (s_classAt (P0 := fun F' A' => F' = F ∧ A' = A ∧ ¬ Bel x1 6) (P1 := fun c F' A' => F' = F ∧ A' = A ∧ x1 = nI c) (fun c hc e => ⟨rfl, rfl, e⟩) (fun h => ⟨rfl, rfl, h⟩)) (fun v F1 A1 q => ?_)
  rcases q with ⟨rfl, rfl, rfl, hnb⟩ | ⟨c, hc, rfl, rfl, rfl, e⟩
  · refine z_astore_nN (lv' := [(0, .ref 1), (1, .int x1), (2, .int x2), (3, .null)]) dX7_text_5 rfl (by decide) rfl ?_
    refine z_aload_nN dX7_text_6 3 rfl rfl ?_
    refine z_ifnullN (tgt := 21) dX7_text_7 (by decide) ?_
    refine z_iconst (v := (-1)) dX7_text_21 rfl ?_
    exact z_iret dX7_text_22 rfl (bad (Or.inl hnb))
  refine z_astore_n (lv' := [(0, .ref 1), (1, .int x1), (2, .int x2), (3, .ref (38 + 14 * c))]) dX7_text_5 rfl (by decide) rfl ?_
  refine z_aload_n dX7_text_6 3 rfl rfl ?_
  refine z_ifnull dX7_text_7 ?_
  refine z_aload_n dX7_text_10 0 rfl rfl ?_
  refine z_getr (k := 0) (fc := 280) (r := 2) dX7_text_11 ckX7 (by decide) fk_X7_10 rfl rfl (lat hY rfl) (lgg hY rfl) (by decide) ?_
  refine z_iload_n dX7_text_14 2 rfl rfl ?_
  refine zq_V (As := [.int x2]) (rest := []) dX7_text_15 okX5_has ioX5_has mk_X7_84 (ci := 5) rfl (by decide) (lat hY rfl) rfl rfl (Nat.le_of_ble_eq_true rfl) (by decide) hY (s_hasI (P := fun r F' A' => F' = F1 ∧ A' = A1 ∧ ((r = 1 ∧ ∃ n, n ≤ t0 ∧ x2 = nI n) ∨ (r = 0 ∧ ¬ ∃ n, n ≤ t0 ∧ x2 = nI n))) t1 ht0 (fun n hn en => ⟨rfl, rfl, Or.inl ⟨rfl, n, hn, en⟩⟩) (fun h => ⟨rfl, rfl, Or.inr ⟨rfl, h⟩⟩)) (fun v F2 A2 q => ?_)
  obtain ⟨r, rfl, rfl, rfl, q⟩ := q
  refine z_if_ne (tgt := 23) dX7_text_18 (by decide) (fun hb => ?_) (fun hb => ?_)
  rotate_left
  · rcases q with ⟨q, -⟩ | ⟨-, q⟩
    · rw [q] at hb; exact absurd hb (by decide)
    · refine z_iconst (v := (-1)) dX7_text_21 rfl ?_
      exact z_iret dX7_text_22 rfl (bad (Or.inr q))
  rcases q with ⟨-, n, hn, en⟩ | ⟨q, -⟩
  rotate_left
  · exact absurd q hb
  subst e
  subst en
  obtain ⟨g0, g1, g2, g3, g4, g5⟩ := hI.2.2.2.2.1 c hc
  refine z_aload_n dX7_text_23 0 rfl rfl ?_
  refine z_getr (k := 0) (fc := 280) (r := 2) dX7_text_24 ckX7 (by decide) fk_X7_10 rfl rfl (lat hY rfl) (lgg hY rfl) (by decide) ?_
  refine z_iload_n dX7_text_27 2 rfl rfl ?_
  refine zq_V (As := [.int (nI n)]) (rest := []) dX7_text_28 okX5_startReading ioX5_startReading mk_X7_88 (ci := 5) rfl (by decide) (lat hY rfl) rfl rfl (Nat.le_of_ble_eq_true rfl) (by decide) hY (s_startReading (V := fun F' A' => F' = u2 (u2 F2 203 2 0) 202 2 (nI n) ∧ A' = A2) t1 ht0 hn ⟨rfl, rfl⟩) (fun v F3 A3 q => ?_)
  obtain ⟨rfl, hF3, rfl⟩ := q
  have f3 : ∀ f a, ¬ (a = 2 ∧ (f = 202 ∨ f = 203)) → F3 f a = F2 f a := fun f a q => by rw [hF3]; exact (u2_ne (by omega)).trans (u2_ne (by omega))
  have f202 : F3 202 2 = nI n := by rw [hF3]; exact u2_s
  have f203 : F3 203 2 = 0 := by rw [hF3]; exact (u2_n1 (by decide)).trans u2_s
  refine z_aload_n dX7_text_31 0 rfl rfl ?_
  refine z_getr (k := 7) (fc := 287) (r := w 6) dX7_text_32 ckX7 (by decide) fk_X7_56 rfl rfl (lat hY rfl) (lw6 hY) (tx_pos (hw.1 6 (by omega))) ?_
  refine z_aload_n dX7_text_35 0 rfl rfl ?_
  refine z_getr (k := 0) (fc := 280) (r := 2) dX7_text_36 ckX7 (by decide) fk_X7_10 rfl rfl (lat hY rfl) (lgg hY rfl) (by decide) ?_
  have ht := hw.1 6 (by omega)
  generalize hres : (if n = 0 then (0, 0, []) else txS s n 81 0 [] : TR) = res
  have hrok : res.1 ≤ 3 ∧ res.2.1 ≤ n ∧ res.2.2.length ≤ 8 ∧ ∀ q ∈ res.2.2, q.1 < 9 := by
    rw [← hres]
    split
    · exact ⟨Nat.zero_le 3, Nat.zero_le n, Nat.zero_le 8, fun q hq => absurd hq List.not_mem_nil⟩
    · exact txS_ok (fun k hk => (hsX k hk).2) (by omega) 81 0 [] (Nat.zero_le n) (by decide) (fun q hq => absurd hq List.not_mem_nil)
  refine zq_V (As := [.ref 2]) (rest := []) dX7_text_39 okX1_readFrom ioX1_readFrom mk_X7_91 (ci := 1) rfl (by decide) (lat1 hY ht) rfl rfl (Nat.le_of_ble_eq_true rfl) (by decide) hY (s_readFrom (P := fun r F' A' => TXf F3 A3 (w 6) F' A' ∧ ((r = 0 ∧ res.1 = 0 ∧ okX F' A' (w 6) res.2.2) ∨ (r = nI (100 * res.1 + res.2.1) ∧ res.1 ≠ 0))) ht hsX (by omega) f202 f203 res hres.symm (fun F' A' a b d => ⟨a, Or.inl ⟨rfl, b, d⟩⟩) (fun F' A' a b => ⟨a, Or.inr ⟨rfl, b⟩⟩)) (fun v F4 A4 q => ?_)
  obtain ⟨r, rfl, hX, q⟩ := q
  refine z_istore (lv' := [(0, .ref 1), (1, .int (nI c)), (2, .int (nI n)), (3, .ref (38 + 14 * c)), (4, .int r)]) dX7_text_42 (by decide) rfl ?_
  refine z_aload_n dX7_text_44 0 rfl rfl ?_
  refine z_getr (k := 0) (fc := 280) (r := 2) dX7_text_45 ckX7 (by decide) fk_X7_10 rfl rfl (lat hY rfl) (lgg hY rfl) (by decide) ?_
  refine zq_V (As := []) (rest := []) dX7_text_48 okX5_clear ioX5_clear mk_X7_95 (ci := 5) rfl (by decide) (lat hY rfl) rfl rfl (Nat.le_of_ble_eq_true rfl) (by decide) hY (s_clear (P := fun F' A' => F' = Clr F4 ∧ A' = A4) ⟨rfl, rfl⟩) (fun v F5 A5 q2 => ?_)
  obtain ⟨rfl, hF5, rfl⟩ := q2
  refine z_iload dX7_text_51 4 rfl ?_
  have t7 := tx7 ht
  have far : ∀ d, d < 6 → w d ≠ w 6 ∧ w d + 1 ≠ w 6 + 1 ∧ w d + 1 ≠ w 6 + 2 ∧ w d + 2 ≠ w 6 + 1 ∧ w d + 2 ≠ w 6 + 2 := fun d hd => by
    have ne : w d ≠ w 6 := fun z => by have := hw.2 d 6 (by omega) (by omega) z; omega
    exact ⟨ne, tx_far ht (hw.1 d (by omega)) ne⟩
  have t7d : ∀ d, d < 6 → (w d = 35 ∨ w d = 39 ∨ w d = 53 ∨ w d = 67 ∨ w d = 81 ∨ w d = 95 ∨ w d = 109) := fun d hd => tx7 (hw.1 d (by omega))
  generalize htt : w 6 = t at *
  have f5 : ∀ f a, ¬ ((a = 2 ∧ (f = 201 ∨ f = 202 ∨ f = 203)) ∨ (f = 42 ∧ a = t)) → F5 f a = F2 f a := fun f a q => by rw [hF5]; exact (Clr_ne (by omega)).trans ((hX.1 f a (by omega)).trans (f3 f a (by omega)))
  have f5z : F5 201 2 = 0 := by rw [hF5]; exact Clr_s
  have a5 : ∀ a j, ¬ (a = t + 1 ∨ a = t + 2) → A5 a j = A3 a j := hX.2
  have hsM5 : ByM A5 s := fun k hk => by rw [a5 123 k (by omega)]; exact hsM k hk
  have f321 : F5 321 122 = nI t0 := (f5 _ _ (by omega)).trans t2
  refine z_if_ne (tgt := 68) dX7_text_53 (by decide) (fun hb => ?_) (fun hb => ?_)
  · -- a FAULT
    rcases q with ⟨q, -⟩ | ⟨rfl, hne⟩
    · exact absurd q hb
    refine z_iload dX7_text_68 4 rfl ?_
    refine z_iret dX7_text_70 rfl ⟨rfl, rfl, _, w, rfl, hY, hw, ?_⟩
    refine s_textM hc hsM5 ht0 hn f321 res hres.symm (fun F' A' _ _ _ b => absurd b hne) (fun F6 A6 b1 b2 b3 b4 => ⟨rfl, ?_⟩)
    refine hI.exc hw (fun f a => (a = 2 ∧ (f = 201 ∨ f = 202 ∨ f = 203)) ∨ (f = 42 ∧ a = t) ∨ (a = 122 ∧ (f = 321 ∨ f = 332 ∨ f = 341 ∨ f = 342 ∨ f = 343 ∨ f = 344))) (fun a => a = t + 1 ∨ a = t + 2 ∨ a = 132 ∨ a = 133) (fun f a q => (b1 f a (by omega)).trans (f5 f a (by omega))) (fun a j q => (b3 a j (by omega)).trans (a5 a j (by omega))) (Or.inr (⟨⟨0, by decide, ?_, b2⟩, fun i hi => ?_⟩)) (Or.inl ⟨by omega, by omega, fun k i => by omega, fun a _ _ => by omega, fun i => by omega⟩) (Or.inl ⟨by omega, by omega⟩) (Or.inl ⟨by omega, by omega⟩) (Or.inl ⟨fun k c _ _ _ => by omega, by omega, by omega⟩) (Or.inr (fun d hd => ?_)) (Or.inl ⟨fun c _ => by omega, by omega⟩) (Or.inl ⟨by omega, fun c d _ _ _ => by omega, by omega, by omega⟩) (Or.inl ⟨fun c _ => by omega, by omega, fun c _ => by omega, by omega, by omega⟩) (Or.inl (fun a _ _ => by omega))
    · rw [b1 _ _ (by omega)]; exact f5z
    · rw [b3 3 i (by omega), b3 123 i (by omega), a5 3 i (by omega), a5 123 i (by omega)]; exact hTp i hi
    · have := h6 d hd
      have fd := far d hd
      have td := t7d d hd
      unfold letX letM at this ⊢
      simp only [b1 42 (w d) (by omega), f5 42 (w d) (by omega), b3 (w d + 1) _ (by omega), a5 (w d + 1) _ (by omega), b3 (w d + 2) _ (by omega), a5 (w d + 2) _ (by omega), b3 129 _ (by omega), b3 130 _ (by omega), b3 131 _ (by omega), a5 129 _ (by omega), a5 130 _ (by omega), a5 131 _ (by omega)]
      exact this
  · -- the TEXT counts
    rcases q with ⟨rfl, h0, hok⟩ | ⟨q, hne⟩
    rotate_left
    · rw [hb] at q
      exact absurd q.symm (nI_ne0 (by omega) (by omega))
    refine z_aload_n dX7_text_56 0 rfl rfl ?_
    refine z_aload_n dX7_text_57 3 rfl rfl ?_
    refine z_aload_n dX7_text_58 0 rfl rfl ?_
    refine z_getr (k := 7) (fc := 287) (r := w 6) dX7_text_59 ckX7 (by decide) fk_X7_56 rfl rfl (lat hY rfl) (lw6 hY) (tx_pos (hw.1 6 (by omega))) ?_
    refine z_callV (ac' := 0) (az' := 0) (rc' := 0) (rs' := 0) (As := [.ref (w 6)]) (rest := [.ref 1]) dX7_text_62 okX4_swapText ioX4_swapText mk_X7_98 (ci := 4) rfl (by decide) (lat4 hY hc) rfl rfl (Nat.le_of_ble_eq_true rfl) (L' := 1) (by decide) (Nat.le_refl 0) (Nat.le_refl 0) (s_swap hY hw hc ?_)
    refine z_putr (k := 7) (fc := 287) dX7_text_65 ckX7 (by decide) fk_X7_56 rfl rfl rfl (lat hY rfl) (tx_pos (hw.1 c (Nat.lt_trans hc (by decide)))) ?_
    refine z_iload dX7_text_68 4 rfl ?_
    refine z_iret dX7_text_70 rfl ⟨rfl, rfl, _, wsw w c, rfl, LY.sw hY hw hc, hw.sw hc, ?_⟩
    refine s_textM hc hsM5 ht0 hn f321 res hres.symm (fun F6 A6 b1 b2 b3 _ b5 b6 => ⟨rfl, ?_⟩) (fun F' A' _ _ _ b => absurd h0 b)
    have hI6 : I6 (wsw w c) F6 A6 := by
      intro d hd
      by_cases z : d = c
      · rw [z, wsw_c, htt]
        refine ⟨⟨res.2.2.length, hrok.2.2.1, b5⟩, fun k hk => ?_, fun br ag ms c1 c2 c3 => ?_⟩
        · rw [b5, nI_clamp (by omega)] at hk
          obtain ⟨q, hq⟩ : ∃ q, res.2.2[k]? = some q := ⟨_, List.getElem?_eq_getElem hk⟩
          exact ⟨q.1, hrok.2.2.2 q (List.mem_of_getElem? hq), (b6 k q hq).1⟩
        · have e1 : letX F6 A6 t br ag ms ↔ letX F4 A5 t br ag ms := by
            have e42 : F6 42 t = F4 42 t := by rw [b1 42 t (by omega), hF5, Clr_ne (by omega)]
            rw [letX_iff, letX_iff, e42]
            have bb1 : ∀ j, A6 (t + 1) j = A5 (t + 1) j := fun j => b3 _ _ (by omega)
            have bb2 : ∀ j, A6 (t + 2) j = A5 (t + 2) j := fun j => b3 _ _ (by omega)
            simp only [bb1, bb2]
          rw [e1, hok br ag ms c1 c2 c3]
          unfold letM
          rw [b5, nI_clamp (by omega)]
          constructor
          · intro g k hk
            obtain ⟨q, hq⟩ : ∃ q, res.2.2[k]? = some q := ⟨_, List.getElem?_eq_getElem hk⟩
            rw [(b6 k q hq).1, (b6 k q hq).2]
            exact g q (List.mem_of_getElem? hq)
          · intro g q hq
            obtain ⟨k, hk⟩ := List.getElem?_of_mem hq
            have hkl : k < res.2.2.length := by
              rcases Nat.lt_or_ge k res.2.2.length with y | y
              · exact y
              · rw [List.getElem?_eq_none y] at hk; cases hk
            have := g k hkl
            rw [(b6 k q hk).1, (b6 k q hk).2] at this
            exact this
      · rw [wsw_n z (by omega)]
        have h6d := h6 d hd
        have fd := far d hd
        have td := t7d d hd
        have e129 : A6 129 d = A3 129 d := (b3 129 d (by omega)).trans (a5 129 d (by omega))
        have e130 : ∀ k, k < 8 → A6 130 (8 * d + k) = A3 130 (8 * d + k) := fun k hk => (b3 130 _ (by omega)).trans (a5 130 _ (by omega))
        have e131 : ∀ k, k < 8 → A6 131 (8 * d + k) = A3 131 (8 * d + k) := fun k hk => (b3 131 _ (by omega)).trans (a5 131 _ (by omega))
        obtain ⟨⟨K, hK, eK⟩, p2, p3⟩ := h6d
        have hcl : (A3 129 d).toNatClampNeg = K := by rw [eK, nI_clamp (by omega)]
        refine ⟨⟨K, hK, e129.trans eK⟩, fun k hk => ?_, fun br ag ms c1 c2 c3 => ?_⟩
        · rw [e129, hcl] at hk
          rw [e130 k (by omega)]
          exact p2 k (by rw [hcl]; exact hk)
        · have e1 : letX F6 A6 (w d) br ag ms ↔ letX F2 A3 (w d) br ag ms := by
            rw [letX_iff, letX_iff]
            have bb0 : F6 42 (w d) = F2 42 (w d) := (b1 42 (w d) (by omega)).trans (f5 42 (w d) (by omega))
            have bb1 : ∀ j, A6 (w d + 1) j = A3 (w d + 1) j := fun j => (b3 _ _ (by omega)).trans (a5 _ _ (by omega))
            have bb2 : ∀ j, A6 (w d + 2) j = A3 (w d + 2) j := fun j => (b3 _ _ (by omega)).trans (a5 _ _ (by omega))
            simp only [bb0, bb1, bb2]
          rw [e1, p3 br ag ms c1 c2 c3]
          unfold letM
          rw [e129, hcl]
          exact ⟨fun g k hk => by rw [e130 k (by omega), e131 k (by omega)]; exact g k hk, fun g k hk => by rw [← e130 k (by omega), ← e131 k (by omega)]; exact g k hk⟩
    have hIw : Inv w nb F6 A6 → Inv (wsw w c) nb F6 A6 := fun q => ⟨q.1, q.2.1, q.2.2.1, q.2.2.2.1, q.2.2.2.2.1, hI6, q.2.2.2.2.2.2⟩
    obtain ⟨k1, k2, k3, k4, k5, -, k7, k8, k9, k10⟩ := hI
    have DF : ∀ f a, ¬ ((a = 2 ∧ (f = 201 ∨ f = 202 ∨ f = 203)) ∨ (f = 42 ∧ a = t) ∨ (a = 122 ∧ (f = 321 ∨ f = 332 ∨ f = 341 ∨ f = 342 ∨ f = 343 ∨ f = 344))) → F6 f a = F2 f a := fun f a q => (b1 f a (by omega)).trans (f5 f a (by omega))
    have DA : ∀ a j, ¬ (a = t + 1 ∨ a = t + 2 ∨ (129 ≤ a ∧ a ≤ 133)) → A6 a j = A3 a j := fun a j q => (b3 a j (by omega)).trans (a5 a j (by omega))
    exact ⟨⟨⟨0, by decide, (b1 _ _ (by omega)).trans f5z, b2⟩, fun i hi => by rw [DA 3 i (by omega), DA 123 i (by omega)]; exact hTp i hi⟩, k2.cong (DF _ _ (by omega)) (DF _ _ (by omega)) (fun k i => DF _ _ (by omega)) (fun a j _ _ => DA _ _ (by omega)) (fun i j => DA _ _ (by omega)), k3.cong (DF _ _ (by omega)) (DF _ _ (by omega)), k4.cong (fun j => DA _ _ (by omega)) (fun j => DA _ _ (by omega)), k5.cong (fun k c _ _ _ => DF _ _ (by omega)) (fun j => DA _ _ (by omega)) (fun j => DA _ _ (by omega)), hI6, k7.cong (fun c j _ => DA _ _ (by omega)) (fun j => DA _ _ (by omega)), k8.cong (fun j => DA _ _ (by omega)) (fun c d j _ _ _ => DA _ _ (by omega)) (fun j => DA _ _ (by omega)) (fun j => DA _ _ (by omega)), k9.cong (fun c _ => DF _ _ (by omega)) (fun j => DA _ _ (by omega)) (fun c j _ => DA _ _ (by omega)) (fun j => DA _ _ (by omega)) (fun j => DA _ _ (by omega)), k10.cong (fun a j _ _ => DA _ _ (by omega))⟩
end OPTEXT
