theorem kX3_isAtMeasure {l : Launch} {w : Nat → Nat} {nb : Nat} {Q : PM} {F A : MI}  (h : CM l mX5_peek 1 w nb [.ref 2] F A (qi fun r1 F1 A1 => CM l mX7_isBelow 1 w nb [.int (r1 - 48), .int 3] F1 A1 (qi fun r2 F2 A2 => ((r2 = 0 ∨ r2 = 1) ∧ Q (some (.int r2)) F2 A2)))) : CM l mX3_isAtMeasure 2 w nb [.ref 2] F A Q := CM.ofZ (by decide) (fun _ _ => rfl) (fun _ _ => Nat.le_of_ble_eq_true rfl) (vX3_isAtMeasure_0  h)
set_option maxHeartbeats 4000000 in
set_option maxRecDepth 100000 in
theorem vX3_placeNamed_0 {l : Launch} {w : Nat → Nat} {nb : Nat} {Q : PM} {F A : MI}  (h : CM l mX5_peek 1 w nb [.ref 2] F A (qi fun r1 F1 A1 => Q (some (.int ((r1 - 97) + 1))) F1 A1)) : ZM l mX3_placeNamed 2 w nb Q 0 [(0, .ref 2)] [] F A := by
  intro T G B hY
  refine z_aload_n dX3_placeNamed_0 0 rfl rfl ?_
  refine zm_Vi (As := []) (rest := []) dX3_placeNamed_1 okX5_peek ioX5_peek mk_X3_73 (ci := 5) rfl (by decide) (lat hY rfl) rfl rfl (Nat.le_of_ble_eq_true rfl) (by decide) hY (CM.monoi h fun r1 F1 A1 h => ?_)
  refine z_bipush (v := 97) dX3_placeNamed_4 rfl ?_
  refine z_isub dX3_placeNamed_6 ?_
  refine z_iconst (v := 1) dX3_placeNamed_7 rfl ?_
  refine z_iadd dX3_placeNamed_8 ?_
  exact z_iretM dX3_placeNamed_9 rfl h
theorem kX3_placeNamed {l : Launch} {w : Nat → Nat} {nb : Nat} {Q : PM} {F A : MI}  (h : CM l mX5_peek 1 w nb [.ref 2] F A (qi fun r1 F1 A1 => Q (some (.int ((r1 - 97) + 1))) F1 A1)) : CM l mX3_placeNamed 2 w nb [.ref 2] F A Q := CM.ofZ (by decide) (fun _ _ => rfl) (fun _ _ => Nat.le_of_ble_eq_true rfl) (vX3_placeNamed_0  h)
set_option maxHeartbeats 4000000 in
set_option maxRecDepth 100000 in
theorem vX4_cardLength_0 {l : Launch} {w : Nat → Nat} {nb : Nat} {Q : PM} {F A : MI} {c : Nat} (hc : c < 6) (h : Q (some (.int (if 4 < (F 161 (38 + 14 * c)) then 4 else (F 161 (38 + 14 * c))))) F A) : ZM l mX4_cardLength 2 w nb Q 0 [(0, .ref (38 + 14 * c))] [] F A := by
  intro T G B hY
  refine z_aload_n dX4_cardLength_0 0 rfl rfl ?_
  refine z_geti' (k := 1) (fc := 161) (x := (F 161 (38 + 14 * c))) dX4_cardLength_1 ckX4 (by decide) fk_X4_15 rfl rfl (lat4 hY hc) rfl ?_
  refine z_iconst (v := 4) dX4_cardLength_4 rfl ?_
  refine z_mmin dX4_cardLength_5 mk_X4_62 (by decide) (Nat.le_of_ble_eq_true rfl) ?_
  exact z_iretM dX4_cardLength_8 rfl h
theorem kX4_cardLength {l : Launch} {w : Nat → Nat} {nb : Nat} {Q : PM} {F A : MI} {c : Nat} (hc : c < 6) (h : Q (some (.int (if 4 < (F 161 (38 + 14 * c)) then 4 else (F 161 (38 + 14 * c))))) F A) : CM l mX4_cardLength 2 w nb [.ref (38 + 14 * c)] F A Q := CM.ofZ (by decide) (fun _ _ => rfl) (fun _ _ => Nat.le_of_ble_eq_true rfl) (vX4_cardLength_0 hc h)
set_option maxHeartbeats 4000000 in
set_option maxRecDepth 100000 in
theorem vX4_cutsBetween_0 {l : Launch} {w : Nat → Nat} {nb : Nat} {Q : PM} {x1 x2 : Int32} {F A : MI} {c : Nat} (hc : c < 6) (h : ZM l mX4_cutsBetween 2 w nb Q 9 [(0, .ref (38 + 14 * c)), (2, .int x2), (3, .int 0), (4, .int (if x1 < 1 then 1 else x1))] [] F A) : ZM l mX4_cutsBetween 2 w nb Q 0 [(0, .ref (38 + 14 * c)), (1, .int x1), (2, .int x2)] [] F A := by
  intro T G B hY
  refine z_iconst (v := 0) dX4_cutsBetween_0 rfl ?_
  refine z_istore_n (lv' := [(0, .ref (38 + 14 * c)), (1, .int x1), (2, .int x2), (3, .int 0)]) dX4_cutsBetween_1 rfl (by decide) rfl ?_
  refine z_iload_n dX4_cutsBetween_2 1 rfl rfl ?_
  refine z_iconst (v := 1) dX4_cutsBetween_3 rfl ?_
  refine z_mmax dX4_cutsBetween_4 mk_X4_78 (by decide) (Nat.le_of_ble_eq_true rfl) ?_
  refine z_istore (lv' := [(0, .ref (38 + 14 * c)), (1, .int x1), (2, .int x2), (3, .int 0), (4, .int (if x1 < 1 then 1 else x1))]) dX4_cutsBetween_7 (by decide) rfl ?_
  exact z_pick [0, 2, 3, 4] rfl (h T G B hY)
theorem kX4_cutsBetween {l : Launch} {w : Nat → Nat} {nb : Nat} {Q : PM} {x1 x2 : Int32} {F A : MI} {c : Nat} (hc : c < 6) (h : ZM l mX4_cutsBetween 2 w nb Q 9 [(0, .ref (38 + 14 * c)), (2, .int x2), (3, .int 0), (4, .int (if x1 < 1 then 1 else x1))] [] F A) : CM l mX4_cutsBetween 2 w nb [.ref (38 + 14 * c), .int x1, .int x2] F A Q := CM.ofZ (by decide) (fun _ _ => rfl) (fun _ _ => Nat.le_of_ble_eq_true rfl) (vX4_cutsBetween_0 hc h)
set_option maxHeartbeats 4000000 in
set_option maxRecDepth 100000 in
theorem vX4_cutsBetween_9 {l : Launch} {w : Nat → Nat} {nb : Nat} {Q : PM} {x2 x3 x4 : Int32} {F A : MI} {c : Nat} (hc : c < 6) (h : ((x2 ≤ x4 → Q (some (.int x3)) F A) ∧ (¬ x2 ≤ x4 → ((3 < x4 → Q (some (.int x3)) F A) ∧ (¬ 3 < x4 → (vp_in (x4 - 1) 3 ∧ ZM l mX4_cutsBetween 2 w nb Q 9 [(0, .ref (38 + 14 * c)), (2, .int x2), (3, .int (x3 + (A (38 + 14 * c + 13) (x4 - 1).toNatClampNeg))), (4, .int (x4 + 1))] [] F A)))))) : ZM l mX4_cutsBetween 2 w nb Q 9 [(0, .ref (38 + 14 * c)), (2, .int x2), (3, .int x3), (4, .int x4)] [] F A := by
  intro T G B hY
  refine z_iload dX4_cutsBetween_9 3 rfl ?_
  refine z_iload_n dX4_cutsBetween_11 1 rfl rfl ?_
  refine z_icmp_ge (tgt := 39) dX4_cutsBetween_12 (by decide) (fun hb => ?_) (fun hb => ?_)
  · have h := h.1 hb
    refine z_iload_n dX4_cutsBetween_39 2 rfl rfl ?_
    exact z_iretM dX4_cutsBetween_40 rfl h
  · have h := h.2 hb
    refine z_iload dX4_cutsBetween_15 3 rfl ?_
    refine z_iconst (v := 3) dX4_cutsBetween_17 rfl ?_
    refine z_icmp_gt (tgt := 39) dX4_cutsBetween_18 (by decide) (fun hb => ?_) (fun hb => ?_)
    · have h := h.1 hb
      refine z_iload_n dX4_cutsBetween_39 2 rfl rfl ?_
      exact z_iretM dX4_cutsBetween_40 rfl h
    · have h := h.2 hb
      refine z_iload_n dX4_cutsBetween_21 2 rfl rfl ?_
      refine z_aload_n dX4_cutsBetween_22 0 rfl rfl ?_
      refine z_getr (k := 8) (fc := 168) (r := (38 + 14 * c + 13)) dX4_cutsBetween_23 ckX4 (by decide) fk_X4_43 rfl rfl (lat4 hY hc) (lggc hY 168 13 hc (by decide)) (by omega) ?_
      refine z_iload dX4_cutsBetween_26 3 rfl ?_
      refine z_iconst (v := 1) dX4_cutsBetween_28 rfl ?_
      refine z_isub dX4_cutsBetween_29 ?_
      have hin1 := h.1
      have h := h.2
      refine z_iald' (n := 3) (x := (A (38 + 14 * c + 13) (x4 - 1).toNatClampNeg)) dX4_cutsBetween_30 (latc hY hc 13 (by decide)) (llnc hY hc 13 (by decide)) hin1 rfl ?_
      refine z_iadd dX4_cutsBetween_31 ?_
      refine z_istore_n (lv' := [(0, .ref (38 + 14 * c)), (2, .int x2), (3, .int (x3 + (A (38 + 14 * c + 13) (x4 - 1).toNatClampNeg))), (4, .int x4)]) dX4_cutsBetween_32 rfl (by decide) rfl ?_
      refine z_iinc (v := (x4 + 1)) (lv' := [(0, .ref (38 + 14 * c)), (2, .int x2), (3, .int (x3 + (A (38 + 14 * c + 13) (x4 - 1).toNatClampNeg))), (4, .int (x4 + 1))]) dX4_cutsBetween_33 3 rfl rfl (by decide) rfl ?_
      refine z_goto (tgt := 9) dX4_cutsBetween_36 (by decide) ?_
      exact z_pick [0, 1, 2, 3] rfl (h T G B hY)
set_option maxHeartbeats 4000000 in
set_option maxRecDepth 100000 in
theorem vX4_take_0 {l : Launch} {w : Nat → Nat} {nb : Nat} {Q : PM} {x1 : Int32} {F A : MI} {c : Nat} (hc : c < 6) (h : CM l mJ7_fill_53178 1 w nb [.ref (38 + 14 * c + 11), .int 0] (u2 (u2 F 160 (38 + 14 * c) ((F 160 (38 + 14 * c)) ||| (1 <<< (x1 &&& 31)))) 161 (38 + 14 * c) ((F 161 (38 + 14 * c)) + 1)) A (qv fun F1 A1 => Q none F1 A1)) : ZM l mX4_take 2 w nb Q 0 [(0, .ref (38 + 14 * c)), (1, .int x1)] [] F A := by
  intro T G B hY
  refine z_aload_n dX4_take_0 0 rfl rfl ?_
  refine z_dup dX4_take_1 ?_
  refine z_geti' (k := 0) (fc := 160) (x := (F 160 (38 + 14 * c))) dX4_take_2 ckX4 (by decide) fk_X4_9 rfl rfl (lat4 hY hc) rfl ?_
  refine z_iconst (v := 1) dX4_take_5 rfl ?_
  refine z_iload_n dX4_take_6 1 rfl rfl ?_
  refine z_ishl dX4_take_7 ?_
  refine z_ior dX4_take_8 ?_
  refine z_puti (k := 0) (fc := 160) dX4_take_9 ckX4 (by decide) fk_X4_9 rfl rfl rfl (lat4 hY hc) ?_
  refine z_aload_n dX4_take_12 0 rfl rfl ?_
  refine z_dup dX4_take_13 ?_
  refine z_geti' (k := 1) (fc := 161) (x := (F 161 (38 + 14 * c))) dX4_take_14 ckX4 (by decide) fk_X4_15 rfl rfl (lat4 hY hc) ((u2_n1 (by decide)).trans rfl) ?_
  refine z_iconst (v := 1) dX4_take_17 rfl ?_
  refine z_iadd dX4_take_18 ?_
  refine z_puti (k := 1) (fc := 161) dX4_take_19 ckX4 (by decide) fk_X4_15 rfl rfl rfl (lat4 hY hc) ?_
  refine z_aload_n dX4_take_22 0 rfl rfl ?_
  refine z_getr (k := 5) (fc := 165) (r := (38 + 14 * c + 11)) dX4_take_23 ckX4 (by decide) fk_X4_33 rfl rfl (lat4 hY hc) (lggc hY 165 11 hc (by decide)) (by omega) ?_
  refine z_iconst (v := 0) dX4_take_26 rfl ?_
  refine zm_Sv (As := [.ref (38 + 14 * c + 11), .int 0]) (rest := []) dX4_take_27 okJ7_fill_53178 smJ7_fill_53178 mk_X4_46 rfl rfl (Nat.le_of_ble_eq_true rfl) (by decide) hY (CM.monov h fun F1 A1 h => ?_)
  exact z_vretM dX4_take_30 rfl h
theorem kX4_take {l : Launch} {w : Nat → Nat} {nb : Nat} {Q : PM} {x1 : Int32} {F A : MI} {c : Nat} (hc : c < 6) (h : CM l mJ7_fill_53178 1 w nb [.ref (38 + 14 * c + 11), .int 0] (u2 (u2 F 160 (38 + 14 * c) ((F 160 (38 + 14 * c)) ||| (1 <<< (x1 &&& 31)))) 161 (38 + 14 * c) ((F 161 (38 + 14 * c)) + 1)) A (qv fun F1 A1 => Q none F1 A1)) : CM l mX4_take 2 w nb [.ref (38 + 14 * c), .int x1] F A Q := CM.ofZ (by decide) (fun _ _ => rfl) (fun _ _ => Nat.le_of_ble_eq_true rfl) (vX4_take_0 hc h)
set_option maxHeartbeats 4000000 in
set_option maxRecDepth 100000 in
theorem vX5_byteAt_0 {l : Launch} {w : Nat → Nat} {nb : Nat} {Q : PM} {x1 : Int32} {F A : MI}  (h : CM l mX7_isBelow 1 w nb [.int x1, .int (F 201 2)] F A (qi fun r1 F1 A1 => ((r1 = 0 → Q (some (.int (-1))) F1 A1) ∧ (¬ r1 = 0 → (vp_in x1 80 ∧ Q (some (.int (A1 3 x1.toNatClampNeg))) F1 A1))))) : ZM l mX5_byteAt 2 w nb Q 0 [(0, .ref 2), (1, .int x1)] [] F A := by
  intro T G B hY
  refine z_iload_n dX5_byteAt_0 1 rfl rfl ?_
  refine z_aload_n dX5_byteAt_1 0 rfl rfl ?_
  refine z_geti' (k := 1) (fc := 201) (x := (F 201 2)) dX5_byteAt_2 ckX5 (by decide) fk_X5_15 rfl rfl (lat hY rfl) rfl ?_
  refine zm_SNi (As := [.int x1, .int (F 201 2)]) (rest := []) dX5_byteAt_5 okX7_isBelow smX7_isBelow (by decide) rfl rfl (Nat.le_of_ble_eq_true rfl) (by decide) hY (CM.monoi h fun r1 F1 A1 h => ?_)
  refine z_if_eq (tgt := 20) dX5_byteAt_8 (by decide) (fun hb => ?_) (fun hb => ?_)
  · have h := h.1 hb
    refine z_iconst (v := (-1)) dX5_byteAt_20 rfl ?_
    exact z_iretM dX5_byteAt_21 rfl h
  · have h := h.2 hb
    refine z_aload_n dX5_byteAt_11 0 rfl rfl ?_
    refine z_getr (k := 0) (fc := 200) (r := 3) dX5_byteAt_12 ckX5 (by decide) fk_X5_9 rfl rfl (lat hY rfl) (lgg hY rfl) (by decide) ?_
    refine z_iload_n dX5_byteAt_15 1 rfl rfl ?_
    have hin2 := h.1
    have h := h.2
    refine z_iald' (n := 80) (x := (A1 3 x1.toNatClampNeg)) dX5_byteAt_16 (lat hY rfl) (lln hY rfl) hin2 rfl ?_
    refine z_goto (tgt := 21) dX5_byteAt_17 (by decide) ?_
    exact z_iretM dX5_byteAt_21 rfl h
theorem kX5_byteAt {l : Launch} {w : Nat → Nat} {nb : Nat} {Q : PM} {x1 : Int32} {F A : MI}  (h : CM l mX7_isBelow 1 w nb [.int x1, .int (F 201 2)] F A (qi fun r1 F1 A1 => ((r1 = 0 → Q (some (.int (-1))) F1 A1) ∧ (¬ r1 = 0 → (vp_in x1 80 ∧ Q (some (.int (A1 3 x1.toNatClampNeg))) F1 A1))))) : CM l mX5_byteAt 2 w nb [.ref 2, .int x1] F A Q := CM.ofZ (by decide) (fun _ _ => rfl) (fun _ _ => Nat.le_of_ble_eq_true rfl) (vX5_byteAt_0  h)
set_option maxHeartbeats 4000000 in
set_option maxRecDepth 100000 in
theorem vX5_faultHere_0 {l : Launch} {w : Nat → Nat} {nb : Nat} {Q : PM} {x1 : Int32} {F A : MI}  (h : CM l mX5_faultAt 1 w nb [.ref 2, .int x1, .int (F 203 2)] F A (qi fun r1 F1 A1 => Q (some (.int r1)) F1 A1)) : ZM l mX5_faultHere 2 w nb Q 0 [(0, .ref 2), (1, .int x1)] [] F A := by
  intro T G B hY
  refine z_aload_n dX5_faultHere_0 0 rfl rfl ?_
  refine z_iload_n dX5_faultHere_1 1 rfl rfl ?_
  refine z_aload_n dX5_faultHere_2 0 rfl rfl ?_
  refine z_geti' (k := 3) (fc := 203) (x := (F 203 2)) dX5_faultHere_3 ckX5 (by decide) fk_X5_22 rfl rfl (lat hY rfl) rfl ?_
  refine zm_Vi (As := [.int x1, .int (F 203 2)]) (rest := []) dX5_faultHere_6 okX5_faultAt ioX5_faultAt mk_X5_57 (ci := 5) rfl (by decide) (lat hY rfl) rfl rfl (Nat.le_of_ble_eq_true rfl) (by decide) hY (CM.monoi h fun r1 F1 A1 h => ?_)
  exact z_iretM dX5_faultHere_9 rfl h
theorem kX5_faultHere {l : Launch} {w : Nat → Nat} {nb : Nat} {Q : PM} {x1 : Int32} {F A : MI}  (h : CM l mX5_faultAt 1 w nb [.ref 2, .int x1, .int (F 203 2)] F A (qi fun r1 F1 A1 => Q (some (.int r1)) F1 A1)) : CM l mX5_faultHere 2 w nb [.ref 2, .int x1] F A Q := CM.ofZ (by decide) (fun _ _ => rfl) (fun _ _ => Nat.le_of_ble_eq_true rfl) (vX5_faultHere_0  h)
set_option maxHeartbeats 4000000 in
set_option maxRecDepth 100000 in
theorem vX5_isAtDigit_0 {l : Launch} {w : Nat → Nat} {nb : Nat} {Q : PM} {F A : MI}  (h : CM l mX5_peek 1 w nb [.ref 2] F A (qi fun r1 F1 A1 => ((r1 < 48 → Q (some (.int 0)) F1 A1) ∧ (¬ r1 < 48 → CM l mX5_peek 1 w nb [.ref 2] F1 A1 (qi fun r2 F2 A2 => ((57 < r2 → Q (some (.int 0)) F2 A2) ∧ (¬ 57 < r2 → Q (some (.int 1)) F2 A2))))))) : ZM l mX5_isAtDigit 2 w nb Q 0 [(0, .ref 2)] [] F A := by
  intro T G B hY
  refine z_aload_n dX5_isAtDigit_0 0 rfl rfl ?_
  refine zm_Vi (As := []) (rest := []) dX5_isAtDigit_1 okX5_peek ioX5_peek mk_X5_46 (ci := 5) rfl (by decide) (lat hY rfl) rfl rfl (Nat.le_of_ble_eq_true rfl) (by decide) hY (CM.monoi h fun r1 F1 A1 h => ?_)
  refine z_bipush (v := 48) dX5_isAtDigit_4 rfl ?_
  refine z_icmp_lt (tgt := 22) dX5_isAtDigit_6 (by decide) (fun hb => ?_) (fun hb => ?_)
  · have h := h.1 hb
    refine z_iconst (v := 0) dX5_isAtDigit_22 rfl ?_
    exact z_zretM dX5_isAtDigit_23 rfl (by decide) h
  · have h := h.2 hb
    refine z_aload_n dX5_isAtDigit_9 0 rfl rfl ?_
    refine zm_Vi (As := []) (rest := []) dX5_isAtDigit_10 okX5_peek ioX5_peek mk_X5_46 (ci := 5) rfl (by decide) (lat hY rfl) rfl rfl (Nat.le_of_ble_eq_true rfl) (by decide) hY (CM.monoi h fun r2 F2 A2 h => ?_)
    refine z_bipush (v := 57) dX5_isAtDigit_13 rfl ?_
    refine z_icmp_gt (tgt := 22) dX5_isAtDigit_15 (by decide) (fun hb => ?_) (fun hb => ?_)
    · have h := h.1 hb
      refine z_iconst (v := 0) dX5_isAtDigit_22 rfl ?_
      exact z_zretM dX5_isAtDigit_23 rfl (by decide) h
    · have h := h.2 hb
      refine z_iconst (v := 1) dX5_isAtDigit_18 rfl ?_
      refine z_goto (tgt := 23) dX5_isAtDigit_19 (by decide) ?_
      exact z_zretM dX5_isAtDigit_23 rfl (by decide) h
theorem kX5_isAtDigit {l : Launch} {w : Nat → Nat} {nb : Nat} {Q : PM} {F A : MI}  (h : CM l mX5_peek 1 w nb [.ref 2] F A (qi fun r1 F1 A1 => ((r1 < 48 → Q (some (.int 0)) F1 A1) ∧ (¬ r1 < 48 → CM l mX5_peek 1 w nb [.ref 2] F1 A1 (qi fun r2 F2 A2 => ((57 < r2 → Q (some (.int 0)) F2 A2) ∧ (¬ 57 < r2 → Q (some (.int 1)) F2 A2))))))) : CM l mX5_isAtDigit 2 w nb [.ref 2] F A Q := CM.ofZ (by decide) (fun _ _ => rfl) (fun _ _ => Nat.le_of_ble_eq_true rfl) (vX5_isAtDigit_0  h)
set_option maxHeartbeats 4000000 in
set_option maxRecDepth 100000 in
theorem vX5_skipIf_0 {l : Launch} {w : Nat → Nat} {nb : Nat} {Q : PM} {x1 : Int32} {F A : MI}  (h : CM l mX5_peek 1 w nb [.ref 2] F A (qi fun r1 F1 A1 => ((¬ r1 = x1 → ZM l mX5_skipIf 2 w nb Q 13 [(0, .ref 2)] [.int 0] F1 A1) ∧ (r1 = x1 → ZM l mX5_skipIf 2 w nb Q 13 [(0, .ref 2)] [.int 1] F1 A1)))) : ZM l mX5_skipIf 2 w nb Q 0 [(0, .ref 2), (1, .int x1)] [] F A := by
  intro T G B hY
  refine z_aload_n dX5_skipIf_0 0 rfl rfl ?_
  refine zm_Vi (As := []) (rest := []) dX5_skipIf_1 okX5_peek ioX5_peek mk_X5_46 (ci := 5) rfl (by decide) (lat hY rfl) rfl rfl (Nat.le_of_ble_eq_true rfl) (by decide) hY (CM.monoi h fun r1 F1 A1 h => ?_)
  refine z_iload_n dX5_skipIf_4 1 rfl rfl ?_
  refine z_icmp_ne (tgt := 12) dX5_skipIf_5 (by decide) (fun hb => ?_) (fun hb => ?_)
  · have h := h.1 hb
    refine z_iconst (v := 0) dX5_skipIf_12 rfl ?_
    exact z_pick [0] rfl (h T G B hY)
  · have h := h.2 hb
    refine z_iconst (v := 1) dX5_skipIf_8 rfl ?_
    refine z_goto (tgt := 13) dX5_skipIf_9 (by decide) ?_
    exact z_pick [0] rfl (h T G B hY)
theorem kX5_skipIf {l : Launch} {w : Nat → Nat} {nb : Nat} {Q : PM} {x1 : Int32} {F A : MI}  (h : CM l mX5_peek 1 w nb [.ref 2] F A (qi fun r1 F1 A1 => ((¬ r1 = x1 → ZM l mX5_skipIf 2 w nb Q 13 [(0, .ref 2)] [.int 0] F1 A1) ∧ (r1 = x1 → ZM l mX5_skipIf 2 w nb Q 13 [(0, .ref 2)] [.int 1] F1 A1)))) : CM l mX5_skipIf 2 w nb [.ref 2, .int x1] F A Q := CM.ofZ (by decide) (fun _ _ => rfl) (fun _ _ => Nat.le_of_ble_eq_true rfl) (vX5_skipIf_0  h)
set_option maxHeartbeats 4000000 in
set_option maxRecDepth 100000 in
theorem vX5_skipIf_13 {l : Launch} {w : Nat → Nat} {nb : Nat} {Q : PM} {s0 : Int32} {F A : MI}  (h : ((s0 = 0 → ((s0 = 0 ∨ s0 = 1) ∧ Q (some (.int s0)) F A)) ∧ (¬ s0 = 0 → CM l mX5_skip 1 w nb [.ref 2] F A (qv fun F1 A1 => ((s0 = 0 ∨ s0 = 1) ∧ Q (some (.int s0)) F1 A1))))) : ZM l mX5_skipIf 2 w nb Q 13 [(0, .ref 2)] [.int s0] F A := by
  intro T G B hY
  refine z_istore_n (lv' := [(0, .ref 2), (2, .int s0)]) dX5_skipIf_13 rfl (by decide) rfl ?_
  refine z_iload_n dX5_skipIf_14 1 rfl rfl ?_
  refine z_if_eq (tgt := 22) dX5_skipIf_15 (by decide) (fun hb => ?_) (fun hb => ?_)
  · have h := h.1 hb
    refine z_iload_n dX5_skipIf_22 1 rfl rfl ?_
    exact z_zretM dX5_skipIf_23 rfl h.1 h.2
  · have h := h.2 hb
    refine z_aload_n dX5_skipIf_18 0 rfl rfl ?_
    refine zm_Vv (As := []) (rest := []) dX5_skipIf_19 okX5_skip ioX5_skip mk_X5_50 (ci := 5) rfl (by decide) (lat hY rfl) rfl rfl (Nat.le_of_ble_eq_true rfl) (by decide) hY (CM.monov h fun F1 A1 h => ?_)
    refine z_iload_n dX5_skipIf_22 1 rfl rfl ?_
    exact z_zretM dX5_skipIf_23 rfl h.1 h.2
set_option maxHeartbeats 4000000 in
set_option maxRecDepth 100000 in
theorem vX5_startReading_0 {l : Launch} {w : Nat → Nat} {nb : Nat} {Q : PM} {x1 : Int32} {F A : MI}  (h : CM l mX5_has 1 w nb [.ref 2, .int x1] (u2 F 203 2 0) A (qi fun r1 F1 A1 => ((r1 = 0 → Q none (u2 F1 202 2 0) A1) ∧ (¬ r1 = 0 → Q none (u2 F1 202 2 x1) A1)))) : ZM l mX5_startReading 2 w nb Q 0 [(0, .ref 2), (1, .int x1)] [] F A := by
  intro T G B hY
  refine z_aload_n dX5_startReading_0 0 rfl rfl ?_
  refine z_iconst (v := 0) dX5_startReading_1 rfl ?_
  refine z_puti (k := 3) (fc := 203) dX5_startReading_2 ckX5 (by decide) fk_X5_22 rfl rfl rfl (lat hY rfl) ?_
  refine z_aload_n dX5_startReading_5 0 rfl rfl ?_
  refine z_aload_n dX5_startReading_6 0 rfl rfl ?_
  refine z_iload_n dX5_startReading_7 1 rfl rfl ?_
  refine zm_Vi (As := [.int x1]) (rest := [.ref 2]) dX5_startReading_8 okX5_has ioX5_has mk_X5_42 (ci := 5) rfl (by decide) (lat hY rfl) rfl rfl (Nat.le_of_ble_eq_true rfl) (by decide) hY (CM.monoi h fun r1 F1 A1 h => ?_)
  refine z_if_eq (tgt := 18) dX5_startReading_11 (by decide) (fun hb => ?_) (fun hb => ?_)
  · have h := h.1 hb
    refine z_iconst (v := 0) dX5_startReading_18 rfl ?_
    refine z_puti (k := 2) (fc := 202) dX5_startReading_19 ckX5 (by decide) fk_X5_19 rfl rfl rfl (lat hY rfl) ?_
    exact z_vretM dX5_startReading_22 rfl h
  · have h := h.2 hb
    refine z_iload_n dX5_startReading_14 1 rfl rfl ?_
    refine z_goto (tgt := 19) dX5_startReading_15 (by decide) ?_
    refine z_puti (k := 2) (fc := 202) dX5_startReading_19 ckX5 (by decide) fk_X5_19 rfl rfl rfl (lat hY rfl) ?_
    exact z_vretM dX5_startReading_22 rfl h
theorem kX5_startReading {l : Launch} {w : Nat → Nat} {nb : Nat} {Q : PM} {x1 : Int32} {F A : MI}  (h : CM l mX5_has 1 w nb [.ref 2, .int x1] (u2 F 203 2 0) A (qi fun r1 F1 A1 => ((r1 = 0 → Q none (u2 F1 202 2 0) A1) ∧ (¬ r1 = 0 → Q none (u2 F1 202 2 x1) A1)))) : CM l mX5_startReading 2 w nb [.ref 2, .int x1] F A Q := CM.ofZ (by decide) (fun _ _ => rfl) (fun _ _ => Nat.le_of_ble_eq_true rfl) (vX5_startReading_0  h)
set_option maxHeartbeats 4000000 in
set_option maxRecDepth 100000 in
theorem vX6_lastHour_0 {l : Launch} {w : Nat → Nat} {nb : Nat} {Q : PM} {F A : MI}  (h : ZM l mX6_lastHour 2 w nb Q 4 [(0, .ref 29), (1, .int (-1)), (2, .int 0)] [] F A) : ZM l mX6_lastHour 2 w nb Q 0 [(0, .ref 29)] [] F A := by
  intro T G B hY
  refine z_iconst (v := (-1)) dX6_lastHour_0 rfl ?_
  refine z_istore_n (lv' := [(0, .ref 29), (1, .int (-1))]) dX6_lastHour_1 rfl (by decide) rfl ?_
  refine z_iconst (v := 0) dX6_lastHour_2 rfl ?_
  refine z_istore_n (lv' := [(0, .ref 29), (1, .int (-1)), (2, .int 0)]) dX6_lastHour_3 rfl (by decide) rfl ?_
  exact z_pick [0, 1, 2] rfl (h T G B hY)
theorem kX6_lastHour {l : Launch} {w : Nat → Nat} {nb : Nat} {Q : PM} {F A : MI}  (h : ZM l mX6_lastHour 2 w nb Q 4 [(0, .ref 29), (1, .int (-1)), (2, .int 0)] [] F A) : CM l mX6_lastHour 2 w nb [.ref 29] F A Q := CM.ofZ (by decide) (fun _ _ => rfl) (fun _ _ => Nat.le_of_ble_eq_true rfl) (vX6_lastHour_0  h)
set_option maxHeartbeats 4000000 in
set_option maxRecDepth 100000 in
theorem vX6_lastHour_4 {l : Launch} {w : Nat → Nat} {nb : Nat} {Q : PM} {x1 x2 : Int32} {F A : MI}  (h : ((6 ≤ x2 → Q (some (.int x1)) F A) ∧ (¬ 6 ≤ x2 → (vp_in x2 6 ∧ ZM l mX6_lastHour 2 w nb Q 4 [(0, .ref 29), (1, .int (if x1 < (A 31 x2.toNatClampNeg) then (A 31 x2.toNatClampNeg) else x1)), (2, .int (x2 + 1))] [] F A)))) : ZM l mX6_lastHour 2 w nb Q 4 [(0, .ref 29), (1, .int x1), (2, .int x2)] [] F A := by
  intro T G B hY
  refine z_iload_n dX6_lastHour_4 2 rfl rfl ?_
  refine z_bipush (v := 6) dX6_lastHour_5 rfl ?_
  refine z_icmp_ge (tgt := 27) dX6_lastHour_7 (by decide) (fun hb => ?_) (fun hb => ?_)
  · have h := h.1 hb
    refine z_iload_n dX6_lastHour_27 1 rfl rfl ?_
    exact z_iretM dX6_lastHour_28 rfl h
  · have h := h.2 hb
    refine z_iload_n dX6_lastHour_10 1 rfl rfl ?_
    refine z_aload_n dX6_lastHour_11 0 rfl rfl ?_
    refine z_getr (k := 1) (fc := 241) (r := 31) dX6_lastHour_12 ckX6 (by decide) fk_X6_15 rfl rfl (lat hY rfl) (lgg hY rfl) (by decide) ?_
    refine z_iload_n dX6_lastHour_15 2 rfl rfl ?_
    have hin1 := h.1
    have h := h.2
    refine z_iald' (n := 6) (x := (A 31 x2.toNatClampNeg)) dX6_lastHour_16 (lat hY rfl) (lln hY rfl) hin1 rfl ?_
    refine z_mmax dX6_lastHour_17 mk_X6_32 (by decide) (Nat.le_of_ble_eq_true rfl) ?_
    refine z_istore_n (lv' := [(0, .ref 29), (1, .int (if x1 < (A 31 x2.toNatClampNeg) then (A 31 x2.toNatClampNeg) else x1)), (2, .int x2)]) dX6_lastHour_20 rfl (by decide) rfl ?_
    refine z_iinc (v := (x2 + 1)) (lv' := [(0, .ref 29), (1, .int (if x1 < (A 31 x2.toNatClampNeg) then (A 31 x2.toNatClampNeg) else x1)), (2, .int (x2 + 1))]) dX6_lastHour_21 2 rfl rfl (by decide) rfl ?_
    refine z_goto (tgt := 4) dX6_lastHour_24 (by decide) ?_
    exact z_pick [0, 1, 2] rfl (h T G B hY)
set_option maxHeartbeats 4000000 in
set_option maxRecDepth 100000 in
theorem vX7_beastAt_0 {l : Launch} {w : Nat → Nat} {nb : Nat} {Q : PM} {x1 : Int32} {F A : MI}  (h : CM l mX7_isBelow 1 w nb [.int x1, .int (F 288 1)] F A (qi fun r1 F1 A1 => ((r1 = 0 → Q (some (.null)) F1 A1) ∧ (¬ r1 = 0 → (vp_in x1 20 ∧ x1.toNatClampNeg < nb ∧ Q (some (.ref (147 + 2 * x1.toNatClampNeg))) F1 A1))))) : ZM l mX7_beastAt 2 w nb Q 0 [(0, .ref 1), (1, .int x1)] [] F A := by
  intro T G B hY
  refine z_iload_n dX7_beastAt_0 1 rfl rfl ?_
  refine z_aload_n dX7_beastAt_1 0 rfl rfl ?_
  refine z_geti' (k := 8) (fc := 288) (x := (F 288 1)) dX7_beastAt_2 ckX7 (by decide) fk_X7_60 rfl rfl (lat hY rfl) rfl ?_
  refine zm_Si (As := [.int x1, .int (F 288 1)]) (rest := []) dX7_beastAt_5 okX7_isBelow smX7_isBelow mk_X7_102 rfl rfl (Nat.le_of_ble_eq_true rfl) (by decide) hY (CM.monoi h fun r1 F1 A1 h => ?_)
  refine z_if_eq (tgt := 20) dX7_beastAt_8 (by decide) (fun hb => ?_) (fun hb => ?_)
  · have h := h.1 hb
    refine z_null dX7_beastAt_20 ?_
    exact z_aretM dX7_beastAt_21 rfl (Or.inl rfl) h
  · have h := h.2 hb
    refine z_aload_n dX7_beastAt_11 0 rfl rfl ?_
    refine z_getr (k := 1) (fc := 281) (r := 4) dX7_beastAt_12 ckX7 (by decide) fk_X7_18 rfl rfl (lat hY rfl) (lgg hY rfl) (by decide) ?_
    refine z_iload_n dX7_beastAt_15 1 rfl rfl ?_
    have hin2 := h.1
    have h := h.2
    have hi2 := h.1
    have h := h.2
    refine z_aald' (ci := 11) (n := 20) (r := (147 + 2 * x1.toNatClampNeg)) dX7_beastAt_16 (lat hY rfl) (by decide) (lln hY rfl) hin2 (lbb0 hY hi2) (by omega) ?_
    refine z_goto (tgt := 21) dX7_beastAt_17 (by decide) ?_
    exact z_aretM dX7_beastAt_21 rfl (Or.inr ⟨_, rfl⟩) h
theorem kX7_beastAt {l : Launch} {w : Nat → Nat} {nb : Nat} {Q : PM} {x1 : Int32} {F A : MI}  (h : CM l mX7_isBelow 1 w nb [.int x1, .int (F 288 1)] F A (qi fun r1 F1 A1 => ((r1 = 0 → Q (some (.null)) F1 A1) ∧ (¬ r1 = 0 → (vp_in x1 20 ∧ x1.toNatClampNeg < nb ∧ Q (some (.ref (147 + 2 * x1.toNatClampNeg))) F1 A1))))) : CM l mX7_beastAt 2 w nb [.ref 1, .int x1] F A Q := CM.ofZ (by decide) (fun _ _ => rfl) (fun _ _ => Nat.le_of_ble_eq_true rfl) (vX7_beastAt_0  h)
set_option maxHeartbeats 4000000 in
set_option maxRecDepth 100000 in
theorem vX7_classAt_0 {l : Launch} {w : Nat → Nat} {nb : Nat} {Q : PM} {x1 : Int32} {F A : MI}  (h : CM l mX7_isBelow 1 w nb [.int x1, .int 6] F A (qi fun r1 F1 A1 => ((r1 = 0 → Q (some (.null)) F1 A1) ∧ (¬ r1 = 0 → (vp_in x1 6 ∧ Q (some (.ref (38 + 14 * x1.toNatClampNeg))) F1 A1))))) : ZM l mX7_classAt 2 w nb Q 0 [(0, .ref 1), (1, .int x1)] [] F A := by
  intro T G B hY
  refine z_iload_n dX7_classAt_0 1 rfl rfl ?_
  refine z_bipush (v := 6) dX7_classAt_1 rfl ?_
  refine zm_Si (As := [.int x1, .int 6]) (rest := []) dX7_classAt_3 okX7_isBelow smX7_isBelow mk_X7_102 rfl rfl (Nat.le_of_ble_eq_true rfl) (by decide) hY (CM.monoi h fun r1 F1 A1 h => ?_)
  refine z_if_eq (tgt := 18) dX7_classAt_6 (by decide) (fun hb => ?_) (fun hb => ?_)
  · have h := h.1 hb
    refine z_null dX7_classAt_18 ?_
    exact z_aretM dX7_classAt_19 rfl (Or.inl rfl) h
  · have h := h.2 hb
    refine z_aload_n dX7_classAt_9 0 rfl rfl ?_
    refine z_getr (k := 2) (fc := 282) (r := 5) dX7_classAt_10 ckX7 (by decide) fk_X7_24 rfl rfl (lat hY rfl) (lgg hY rfl) (by decide) ?_
    refine z_iload_n dX7_classAt_13 1 rfl rfl ?_
    have hin2 := h.1
    have h := h.2
    refine z_aald' (ci := 12) (n := 6) (r := (38 + 14 * x1.toNatClampNeg)) dX7_classAt_14 (lat hY rfl) (by decide) (lln hY rfl) hin2 (lbb5 hY (vin hin2)) (by omega) ?_
    refine z_goto (tgt := 19) dX7_classAt_15 (by decide) ?_
    exact z_aretM dX7_classAt_19 rfl (Or.inr ⟨_, rfl⟩) h
theorem kX7_classAt {l : Launch} {w : Nat → Nat} {nb : Nat} {Q : PM} {x1 : Int32} {F A : MI}  (h : CM l mX7_isBelow 1 w nb [.int x1, .int 6] F A (qi fun r1 F1 A1 => ((r1 = 0 → Q (some (.null)) F1 A1) ∧ (¬ r1 = 0 → (vp_in x1 6 ∧ Q (some (.ref (38 + 14 * x1.toNatClampNeg))) F1 A1))))) : CM l mX7_classAt 2 w nb [.ref 1, .int x1] F A Q := CM.ofZ (by decide) (fun _ _ => rfl) (fun _ _ => Nat.le_of_ble_eq_true rfl) (vX7_classAt_0  h)
set_option maxHeartbeats 4000000 in
set_option maxRecDepth 100000 in
theorem vX7_classesOf_0 {l : Launch} {w : Nat → Nat} {nb : Nat} {Q : PM} {x1 : Int32} {F A : MI}  (h : ZM l mX7_classesOf 2 w nb Q 4 [(0, .ref 1), (1, .int x1), (2, .int 0), (3, .int 0)] [] F A) : ZM l mX7_classesOf 2 w nb Q 0 [(0, .ref 1), (1, .int x1)] [] F A := by
  intro T G B hY
  refine z_iconst (v := 0) dX7_classesOf_0 rfl ?_
  refine z_istore_n (lv' := [(0, .ref 1), (1, .int x1), (2, .int 0)]) dX7_classesOf_1 rfl (by decide) rfl ?_
  refine z_iconst (v := 0) dX7_classesOf_2 rfl ?_
  refine z_istore_n (lv' := [(0, .ref 1), (1, .int x1), (2, .int 0), (3, .int 0)]) dX7_classesOf_3 rfl (by decide) rfl ?_
  exact z_pick [0, 1, 2, 3] rfl (h T G B hY)
theorem kX7_classesOf {l : Launch} {w : Nat → Nat} {nb : Nat} {Q : PM} {x1 : Int32} {F A : MI}  (h : ZM l mX7_classesOf 2 w nb Q 4 [(0, .ref 1), (1, .int x1), (2, .int 0), (3, .int 0)] [] F A) : CM l mX7_classesOf 2 w nb [.ref 1, .int x1] F A Q := CM.ofZ (by decide) (fun _ _ => rfl) (fun _ _ => Nat.le_of_ble_eq_true rfl) (vX7_classesOf_0  h)
set_option maxHeartbeats 4000000 in
set_option maxRecDepth 100000 in
theorem vX7_classesOf_4 {l : Launch} {w : Nat → Nat} {nb : Nat} {Q : PM} {x1 x2 x3 : Int32} {F A : MI}  (h : ((6 ≤ x3 → Q (some (.int x2)) F A) ∧ (¬ 6 ≤ x3 → (vp_in x3 6 ∧ CM l mX4_holds 1 w nb [.ref (38 + 14 * x3.toNatClampNeg), .int x1] F A (qi fun r2 F2 A2 => ((r2 = 0 → ZM l mX7_classesOf 2 w nb Q 26 [(0, .ref 1), (1, .int x1), (2, .int x2), (3, .int x3)] [] F2 A2) ∧ (¬ r2 = 0 → ZM l mX7_classesOf 2 w nb Q 26 [(0, .ref 1), (1, .int x1), (2, .int (x2 + 1)), (3, .int x3)] [] F2 A2))))))) : ZM l mX7_classesOf 2 w nb Q 4 [(0, .ref 1), (1, .int x1), (2, .int x2), (3, .int x3)] [] F A := by
  intro T G B hY
  refine z_iload_n dX7_classesOf_4 3 rfl rfl ?_
  refine z_bipush (v := 6) dX7_classesOf_5 rfl ?_
  refine z_icmp_ge (tgt := 32) dX7_classesOf_7 (by decide) (fun hb => ?_) (fun hb => ?_)
  · have h := h.1 hb
    refine z_iload_n dX7_classesOf_32 2 rfl rfl ?_
    exact z_iretM dX7_classesOf_33 rfl h
  · have h := h.2 hb
    refine z_aload_n dX7_classesOf_10 0 rfl rfl ?_
    refine z_getr (k := 2) (fc := 282) (r := 5) dX7_classesOf_11 ckX7 (by decide) fk_X7_24 rfl rfl (lat hY rfl) (lgg hY rfl) (by decide) ?_
    refine z_iload_n dX7_classesOf_14 3 rfl rfl ?_
    have hin1 := h.1
    have h := h.2
    refine z_aald' (ci := 12) (n := 6) (r := (38 + 14 * x3.toNatClampNeg)) dX7_classesOf_15 (lat hY rfl) (by decide) (lln hY rfl) hin1 (lbb5 hY (vin hin1)) (by omega) ?_
    refine z_iload_n dX7_classesOf_16 1 rfl rfl ?_
    refine zm_Vi (As := [.int x1]) (rest := []) dX7_classesOf_17 okX4_holds ioX4_holds mk_X7_134 (ci := 4) rfl (by decide) (lat4 hY (vin hin1)) rfl rfl (Nat.le_of_ble_eq_true rfl) (by decide) hY (CM.monoi h fun r2 F2 A2 h => ?_)
    refine z_if_eq (tgt := 26) dX7_classesOf_20 (by decide) (fun hb => ?_) (fun hb => ?_)
    · have h := h.1 hb
      exact z_pick [0, 1, 2, 3] rfl (h T G B hY)
    · have h := h.2 hb
      refine z_iinc (v := (x2 + 1)) (lv' := [(0, .ref 1), (1, .int x1), (2, .int (x2 + 1)), (3, .int x3)]) dX7_classesOf_23 2 rfl rfl (by decide) rfl ?_
      exact z_pick [0, 1, 2, 3] rfl (h T G B hY)
set_option maxHeartbeats 4000000 in
set_option maxRecDepth 100000 in
theorem vX7_classesOf_26 {l : Launch} {w : Nat → Nat} {nb : Nat} {Q : PM} {x1 x2 x3 : Int32} {F A : MI}  (h : ZM l mX7_classesOf 2 w nb Q 4 [(0, .ref 1), (1, .int x1), (2, .int x2), (3, .int (x3 + 1))] [] F A) : ZM l mX7_classesOf 2 w nb Q 26 [(0, .ref 1), (1, .int x1), (2, .int x2), (3, .int x3)] [] F A := by
  intro T G B hY
  refine z_iinc (v := (x3 + 1)) (lv' := [(0, .ref 1), (1, .int x1), (2, .int x2), (3, .int (x3 + 1))]) dX7_classesOf_26 3 rfl rfl (by decide) rfl ?_
  refine z_goto (tgt := 4) dX7_classesOf_29 (by decide) ?_
  exact z_pick [0, 1, 2, 3] rfl (h T G B hY)
set_option maxHeartbeats 4000000 in
set_option maxRecDepth 100000 in
theorem vX7_feed_0 {l : Launch} {w : Nat → Nat} {nb : Nat} {Q : PM} {x1 x2 x3 x4 x5 : Int32} {F A : MI}  (h : CM l mX5_hasRoom 1 w nb [.ref 2] F A (qi fun r1 F1 A1 => ((¬ r1 = 0 → CM l mX5_append 1 w nb [.ref 2, .int x1] F1 A1 (qv fun F2 A2 => CM l mX5_append 1 w nb [.ref 2, .int x2] F2 A2 (qv fun F3 A3 => CM l mX5_append 1 w nb [.ref 2, .int x3] F3 A3 (qv fun F4 A4 => CM l mX5_append 1 w nb [.ref 2, .int x4] F4 A4 (qv fun F5 A5 => CM l mX5_append 1 w nb [.ref 2, .int x5] F5 A5 (qv fun F6 A6 => CM l mX5_length 1 w nb [.ref 2] F6 A6 (qi fun r7 F7 A7 => Q (some (.int r7)) F7 A7))))))) ∧ (r1 = 0 → Q (some (.int (-1))) F1 A1)))) : ZM l mX7_feed 2 w nb Q 0 [(0, .ref 1), (1, .int x1), (2, .int x2), (3, .int x3), (4, .int x4), (5, .int x5)] [] F A := by
  intro T G B hY
  refine z_aload_n dX7_feed_0 0 rfl rfl ?_
  refine z_getr (k := 0) (fc := 280) (r := 2) dX7_feed_1 ckX7 (by decide) fk_X7_10 rfl rfl (lat hY rfl) (lgg hY rfl) (by decide) ?_
  refine zm_Vi (As := []) (rest := []) dX7_feed_4 okX5_hasRoom ioX5_hasRoom mk_X7_68 (ci := 5) rfl (by decide) (lat hY rfl) rfl rfl (Nat.le_of_ble_eq_true rfl) (by decide) hY (CM.monoi h fun r1 F1 A1 h => ?_)
  refine z_if_ne (tgt := 12) dX7_feed_7 (by decide) (fun hb => ?_) (fun hb => ?_)
  · have h := h.1 hb
    refine z_aload_n dX7_feed_12 0 rfl rfl ?_
    refine z_getr (k := 0) (fc := 280) (r := 2) dX7_feed_13 ckX7 (by decide) fk_X7_10 rfl rfl (lat hY rfl) (lgg hY rfl) (by decide) ?_
    refine z_iload_n dX7_feed_16 1 rfl rfl ?_
    refine zm_Vv (As := [.int x1]) (rest := []) dX7_feed_17 okX5_append ioX5_append mk_X7_72 (ci := 5) rfl (by decide) (lat hY rfl) rfl rfl (Nat.le_of_ble_eq_true rfl) (by decide) hY (CM.monov h fun F2 A2 h => ?_)
    refine z_aload_n dX7_feed_20 0 rfl rfl ?_
    refine z_getr (k := 0) (fc := 280) (r := 2) dX7_feed_21 ckX7 (by decide) fk_X7_10 rfl rfl (lat hY rfl) (lgg hY rfl) (by decide) ?_
    refine z_iload_n dX7_feed_24 2 rfl rfl ?_
    refine zm_Vv (As := [.int x2]) (rest := []) dX7_feed_25 okX5_append ioX5_append mk_X7_72 (ci := 5) rfl (by decide) (lat hY rfl) rfl rfl (Nat.le_of_ble_eq_true rfl) (by decide) hY (CM.monov h fun F3 A3 h => ?_)
    refine z_aload_n dX7_feed_28 0 rfl rfl ?_
    refine z_getr (k := 0) (fc := 280) (r := 2) dX7_feed_29 ckX7 (by decide) fk_X7_10 rfl rfl (lat hY rfl) (lgg hY rfl) (by decide) ?_
    refine z_iload_n dX7_feed_32 3 rfl rfl ?_
    refine zm_Vv (As := [.int x3]) (rest := []) dX7_feed_33 okX5_append ioX5_append mk_X7_72 (ci := 5) rfl (by decide) (lat hY rfl) rfl rfl (Nat.le_of_ble_eq_true rfl) (by decide) hY (CM.monov h fun F4 A4 h => ?_)
    refine z_aload_n dX7_feed_36 0 rfl rfl ?_
    refine z_getr (k := 0) (fc := 280) (r := 2) dX7_feed_37 ckX7 (by decide) fk_X7_10 rfl rfl (lat hY rfl) (lgg hY rfl) (by decide) ?_
    refine z_iload dX7_feed_40 4 rfl ?_
    refine zm_Vv (As := [.int x4]) (rest := []) dX7_feed_42 okX5_append ioX5_append mk_X7_72 (ci := 5) rfl (by decide) (lat hY rfl) rfl rfl (Nat.le_of_ble_eq_true rfl) (by decide) hY (CM.monov h fun F5 A5 h => ?_)
    refine z_aload_n dX7_feed_45 0 rfl rfl ?_
    refine z_getr (k := 0) (fc := 280) (r := 2) dX7_feed_46 ckX7 (by decide) fk_X7_10 rfl rfl (lat hY rfl) (lgg hY rfl) (by decide) ?_
    refine z_iload dX7_feed_49 5 rfl ?_
    refine zm_Vv (As := [.int x5]) (rest := []) dX7_feed_51 okX5_append ioX5_append mk_X7_72 (ci := 5) rfl (by decide) (lat hY rfl) rfl rfl (Nat.le_of_ble_eq_true rfl) (by decide) hY (CM.monov h fun F6 A6 h => ?_)
    refine z_aload_n dX7_feed_54 0 rfl rfl ?_
    refine z_getr (k := 0) (fc := 280) (r := 2) dX7_feed_55 ckX7 (by decide) fk_X7_10 rfl rfl (lat hY rfl) (lgg hY rfl) (by decide) ?_
    refine zm_Vi (As := []) (rest := []) dX7_feed_58 okX5_length ioX5_length mk_X7_76 (ci := 5) rfl (by decide) (lat hY rfl) rfl rfl (Nat.le_of_ble_eq_true rfl) (by decide) hY (CM.monoi h fun r7 F7 A7 h => ?_)
    exact z_iretM dX7_feed_61 rfl h
  · have h := h.2 hb
    refine z_iconst (v := (-1)) dX7_feed_10 rfl ?_
    exact z_iretM dX7_feed_11 rfl h
theorem kX7_feed {l : Launch} {w : Nat → Nat} {nb : Nat} {Q : PM} {x1 x2 x3 x4 x5 : Int32} {F A : MI}  (h : CM l mX5_hasRoom 1 w nb [.ref 2] F A (qi fun r1 F1 A1 => ((¬ r1 = 0 → CM l mX5_append 1 w nb [.ref 2, .int x1] F1 A1 (qv fun F2 A2 => CM l mX5_append 1 w nb [.ref 2, .int x2] F2 A2 (qv fun F3 A3 => CM l mX5_append 1 w nb [.ref 2, .int x3] F3 A3 (qv fun F4 A4 => CM l mX5_append 1 w nb [.ref 2, .int x4] F4 A4 (qv fun F5 A5 => CM l mX5_append 1 w nb [.ref 2, .int x5] F5 A5 (qv fun F6 A6 => CM l mX5_length 1 w nb [.ref 2] F6 A6 (qi fun r7 F7 A7 => Q (some (.int r7)) F7 A7))))))) ∧ (r1 = 0 → Q (some (.int (-1))) F1 A1)))) : CM l mX7_feed 2 w nb [.ref 1, .int x1, .int x2, .int x3, .int x4, .int x5] F A Q := CM.ofZ (by decide) (fun _ _ => rfl) (fun _ _ => Nat.le_of_ble_eq_true rfl) (vX7_feed_0  h)
set_option maxHeartbeats 4000000 in
set_option maxRecDepth 100000 in
theorem vX7_leastPlace_0 {l : Launch} {w : Nat → Nat} {nb : Nat} {Q : PM} {x1 : Int32} {F A : MI}  (h : ZM l mX7_leastPlace 2 w nb Q 4 [(0, .ref 1), (1, .int x1), (2, .int (-1)), (3, .int 0)] [] F A) : ZM l mX7_leastPlace 2 w nb Q 0 [(0, .ref 1), (1, .int x1)] [] F A := by
  intro T G B hY
  refine z_iconst (v := (-1)) dX7_leastPlace_0 rfl ?_
  refine z_istore_n (lv' := [(0, .ref 1), (1, .int x1), (2, .int (-1))]) dX7_leastPlace_1 rfl (by decide) rfl ?_
  refine z_iconst (v := 0) dX7_leastPlace_2 rfl ?_
  refine z_istore_n (lv' := [(0, .ref 1), (1, .int x1), (2, .int (-1)), (3, .int 0)]) dX7_leastPlace_3 rfl (by decide) rfl ?_
  exact z_pick [0, 1, 2, 3] rfl (h T G B hY)
theorem kX7_leastPlace {l : Launch} {w : Nat → Nat} {nb : Nat} {Q : PM} {x1 : Int32} {F A : MI}  (h : ZM l mX7_leastPlace 2 w nb Q 4 [(0, .ref 1), (1, .int x1), (2, .int (-1)), (3, .int 0)] [] F A) : CM l mX7_leastPlace 2 w nb [.ref 1, .int x1] F A Q := CM.ofZ (by decide) (fun _ _ => rfl) (fun _ _ => Nat.le_of_ble_eq_true rfl) (vX7_leastPlace_0  h)
set_option maxHeartbeats 4000000 in
set_option maxRecDepth 100000 in
theorem vX7_leastPlace_4 {l : Launch} {w : Nat → Nat} {nb : Nat} {Q : PM} {x1 x2 x3 : Int32} {F A : MI}  (h : ((6 ≤ x3 → Q (some (.int x2)) F A) ∧ (¬ 6 ≤ x3 → (vp_in x3 6 ∧ CM l mX4_placeOf 1 w nb [.ref (38 + 14 * x3.toNatClampNeg), .int x1] F A (qi fun r2 F2 A2 => ((r2 = (-1) → ZM l mX7_leastPlace 2 w nb Q 42 [(0, .ref 1), (1, .int x1), (2, .int x2), (3, .int x3)] [] F2 A2) ∧ (¬ r2 = (-1) → ((x2 = (-1) → ZM l mX7_leastPlace 2 w nb Q 39 [(0, .ref 1), (1, .int x1), (3, .int x3), (4, .int r2)] [] F2 A2) ∧ (¬ x2 = (-1) → ((x2 ≤ r2 → ZM l mX7_leastPlace 2 w nb Q 42 [(0, .ref 1), (1, .int x1), (2, .int x2), (3, .int x3)] [] F2 A2) ∧ (¬ x2 ≤ r2 → ZM l mX7_leastPlace 2 w nb Q 39 [(0, .ref 1), (1, .int x1), (3, .int x3), (4, .int r2)] [] F2 A2))))))))))) : ZM l mX7_leastPlace 2 w nb Q 4 [(0, .ref 1), (1, .int x1), (2, .int x2), (3, .int x3)] [] F A := by
  intro T G B hY
  refine z_iload_n dX7_leastPlace_4 3 rfl rfl ?_
  refine z_bipush (v := 6) dX7_leastPlace_5 rfl ?_
  refine z_icmp_ge (tgt := 48) dX7_leastPlace_7 (by decide) (fun hb => ?_) (fun hb => ?_)
  · have h := h.1 hb
    refine z_iload_n dX7_leastPlace_48 2 rfl rfl ?_
    exact z_iretM dX7_leastPlace_49 rfl h
  · have h := h.2 hb
    refine z_aload_n dX7_leastPlace_10 0 rfl rfl ?_
    refine z_getr (k := 2) (fc := 282) (r := 5) dX7_leastPlace_11 ckX7 (by decide) fk_X7_24 rfl rfl (lat hY rfl) (lgg hY rfl) (by decide) ?_
    refine z_iload_n dX7_leastPlace_14 3 rfl rfl ?_
    have hin1 := h.1
    have h := h.2
    refine z_aald' (ci := 12) (n := 6) (r := (38 + 14 * x3.toNatClampNeg)) dX7_leastPlace_15 (lat hY rfl) (by decide) (lln hY rfl) hin1 (lbb5 hY (vin hin1)) (by omega) ?_
    refine z_iload_n dX7_leastPlace_16 1 rfl rfl ?_
    refine zm_Vi (As := [.int x1]) (rest := []) dX7_leastPlace_17 okX4_placeOf ioX4_placeOf mk_X7_193 (ci := 4) rfl (by decide) (lat4 hY (vin hin1)) rfl rfl (Nat.le_of_ble_eq_true rfl) (by decide) hY (CM.monoi h fun r2 F2 A2 h => ?_)
    refine z_istore (lv' := [(0, .ref 1), (1, .int x1), (2, .int x2), (3, .int x3), (4, .int r2)]) dX7_leastPlace_20 (by decide) rfl ?_
    refine z_iload dX7_leastPlace_22 4 rfl ?_
    refine z_iconst (v := (-1)) dX7_leastPlace_24 rfl ?_
    refine z_icmp_eq (tgt := 42) dX7_leastPlace_25 (by decide) (fun hb => ?_) (fun hb => ?_)
    · have h := h.1 hb
      exact z_pick [0, 1, 2, 3] rfl (h T G B hY)
    · have h := h.2 hb
      refine z_iload_n dX7_leastPlace_28 2 rfl rfl ?_
      refine z_iconst (v := (-1)) dX7_leastPlace_29 rfl ?_
      refine z_icmp_eq (tgt := 39) dX7_leastPlace_30 (by decide) (fun hb => ?_) (fun hb => ?_)
      · have h := h.1 hb
        exact z_pick [0, 1, 3, 4] rfl (h T G B hY)
      · have h := h.2 hb
        refine z_iload dX7_leastPlace_33 4 rfl ?_
        refine z_iload_n dX7_leastPlace_35 2 rfl rfl ?_
        refine z_icmp_ge (tgt := 42) dX7_leastPlace_36 (by decide) (fun hb => ?_) (fun hb => ?_)
        · have h := h.1 hb
          exact z_pick [0, 1, 2, 3] rfl (h T G B hY)
        · have h := h.2 hb
          exact z_pick [0, 1, 3, 4] rfl (h T G B hY)
set_option maxHeartbeats 4000000 in
set_option maxRecDepth 100000 in
theorem vX7_leastPlace_42 {l : Launch} {w : Nat → Nat} {nb : Nat} {Q : PM} {x1 x2 x3 : Int32} {F A : MI}  (h : ZM l mX7_leastPlace 2 w nb Q 4 [(0, .ref 1), (1, .int x1), (2, .int x2), (3, .int (x3 + 1))] [] F A) : ZM l mX7_leastPlace 2 w nb Q 42 [(0, .ref 1), (1, .int x1), (2, .int x2), (3, .int x3)] [] F A := by
  intro T G B hY
  refine z_iinc (v := (x3 + 1)) (lv' := [(0, .ref 1), (1, .int x1), (2, .int x2), (3, .int (x3 + 1))]) dX7_leastPlace_42 3 rfl rfl (by decide) rfl ?_
  refine z_goto (tgt := 4) dX7_leastPlace_45 (by decide) ?_
  exact z_pick [0, 1, 2, 3] rfl (h T G B hY)
set_option maxHeartbeats 4000000 in
set_option maxRecDepth 100000 in
theorem vX7_leastPlace_39 {l : Launch} {w : Nat → Nat} {nb : Nat} {Q : PM} {x1 x3 x4 : Int32} {F A : MI}  (h : ZM l mX7_leastPlace 2 w nb Q 42 [(0, .ref 1), (1, .int x1), (2, .int x4), (3, .int x3)] [] F A) : ZM l mX7_leastPlace 2 w nb Q 39 [(0, .ref 1), (1, .int x1), (3, .int x3), (4, .int x4)] [] F A := by
  intro T G B hY
  refine z_iload dX7_leastPlace_39 3 rfl ?_
  refine z_istore_n (lv' := [(0, .ref 1), (1, .int x1), (2, .int x4), (3, .int x3), (4, .int x4)]) dX7_leastPlace_41 rfl (by decide) rfl ?_
  exact z_pick [0, 1, 2, 3] rfl (h T G B hY)
set_option maxHeartbeats 4000000 in
set_option maxRecDepth 100000 in
theorem vX1_readBreeds_0 {l : Launch} {w : Nat → Nat} {nb : Nat} {Q : PM} {F A : MI} {t : Nat} (ht : isTx t) (h : CM l mX5_isAtDigit 2 w nb [.ref 2] F A (qi fun r1 F1 A1 => ((¬ r1 = 0 → ZM l mX1_readBreeds 3 w nb Q 17 [(0, .ref t), (1, .ref 2), (2, .int 0), (3, .int 0)] [] F1 A1) ∧ (r1 = 0 → CM l mX5_faultHere 2 w nb [.ref 2, .int 1] F1 A1 (qi fun r2 F2 A2 => Q (some (.int r2)) F2 A2))))) : ZM l mX1_readBreeds 3 w nb Q 0 [(0, .ref t), (1, .ref 2)] [] F A := by
  intro T G B hY
  refine z_aload_n dX1_readBreeds_0 1 rfl rfl ?_
  refine zm_Vi (As := []) (rest := []) dX1_readBreeds_1 okX5_isAtDigit ioX5_isAtDigit mk_X1_85 (ci := 5) rfl (by decide) (lat hY rfl) rfl rfl (Nat.le_of_ble_eq_true rfl) (by decide) hY (CM.monoi h fun r1 F1 A1 h => ?_)
  refine z_if_ne (tgt := 13) dX1_readBreeds_4 (by decide) (fun hb => ?_) (fun hb => ?_)
  · have h := h.1 hb
    refine z_iconst (v := 0) dX1_readBreeds_13 rfl ?_
    refine z_istore_n (lv' := [(0, .ref t), (1, .ref 2), (2, .int 0)]) dX1_readBreeds_14 rfl (by decide) rfl ?_
    refine z_iconst (v := 0) dX1_readBreeds_15 rfl ?_
    refine z_istore_n (lv' := [(0, .ref t), (1, .ref 2), (2, .int 0), (3, .int 0)]) dX1_readBreeds_16 rfl (by decide) rfl ?_
    exact z_pick [0, 1, 2, 3] rfl (h T G B hY)
  · have h := h.2 hb
    refine z_aload_n dX1_readBreeds_7 1 rfl rfl ?_
    refine z_iconst (v := 1) dX1_readBreeds_8 rfl ?_
    refine zm_Vi (As := [.int 1]) (rest := []) dX1_readBreeds_9 okX5_faultHere ioX5_faultHere mk_X1_54 (ci := 5) rfl (by decide) (lat hY rfl) rfl rfl (Nat.le_of_ble_eq_true rfl) (by decide) hY (CM.monoi h fun r2 F2 A2 h => ?_)
    exact z_iretM dX1_readBreeds_12 rfl h
theorem kX1_readBreeds {l : Launch} {w : Nat → Nat} {nb : Nat} {Q : PM} {F A : MI} {t : Nat} (ht : isTx t) (h : CM l mX5_isAtDigit 2 w nb [.ref 2] F A (qi fun r1 F1 A1 => ((¬ r1 = 0 → ZM l mX1_readBreeds 3 w nb Q 17 [(0, .ref t), (1, .ref 2), (2, .int 0), (3, .int 0)] [] F1 A1) ∧ (r1 = 0 → CM l mX5_faultHere 2 w nb [.ref 2, .int 1] F1 A1 (qi fun r2 F2 A2 => Q (some (.int r2)) F2 A2))))) : CM l mX1_readBreeds 3 w nb [.ref t, .ref 2] F A Q := CM.ofZ (by decide) (fun _ _ => rfl) (fun _ _ => Nat.le_of_ble_eq_true rfl) (vX1_readBreeds_0 ht h)
set_option maxHeartbeats 4000000 in
set_option maxRecDepth 100000 in
theorem vX1_readBreeds_17 {l : Launch} {w : Nat → Nat} {nb : Nat} {Q : PM} {x2 x3 : Int32} {F A : MI} {t : Nat} (ht : isTx t) (h : ((4 ≤ x3 → Q (some (.int 0)) (u2 F 42 t ((F 42 t) &&& x2)) A) ∧ (¬ 4 ≤ x3 → CM l mX5_isAtDigit 2 w nb [.ref 2] F A (qi fun r1 F1 A1 => ((r1 = 0 → Q (some (.int 0)) (u2 F1 42 t ((F1 42 t) &&& x2)) A1) ∧ (¬ r1 = 0 → CM l mX5_peek 1 w nb [.ref 2] F1 A1 (qi fun r2 F2 A2 => (((r2 - 48) < 4 → CM l mX5_skip 1 w nb [.ref 2] F2 A2 (qv fun F3 A3 => ZM l mX1_readBreeds 3 w nb Q 17 [(0, .ref t), (1, .ref 2), (2, .int (x2 ||| (1 <<< ((r2 - 48) &&& 31)))), (3, .int (x3 + 1))] [] F3 A3)) ∧ (¬ (r2 - 48) < 4 → CM l mX5_faultHere 2 w nb [.ref 2, .int 2] F2 A2 (qi fun r4 F4 A4 => Q (some (.int r4)) F4 A4)))))))))) : ZM l mX1_readBreeds 3 w nb Q 17 [(0, .ref t), (1, .ref 2), (2, .int x2), (3, .int x3)] [] F A := by
  intro T G B hY
  refine z_iload_n dX1_readBreeds_17 3 rfl rfl ?_
  refine z_iconst (v := 4) dX1_readBreeds_18 rfl ?_
  refine z_icmp_ge (tgt := 67) dX1_readBreeds_19 (by decide) (fun hb => ?_) (fun hb => ?_)
  · have h := h.1 hb
    refine z_aload_n dX1_readBreeds_67 0 rfl rfl ?_
    refine z_dup dX1_readBreeds_68 ?_
    refine z_geti' (k := 2) (fc := 42) (x := (F 42 t)) dX1_readBreeds_69 ckX1 (by decide) fk_X1_18 rfl rfl (lat1 hY ht) rfl ?_
    refine z_iload_n dX1_readBreeds_72 2 rfl rfl ?_
    refine z_iand dX1_readBreeds_73 ?_
    refine z_puti (k := 2) (fc := 42) dX1_readBreeds_74 ckX1 (by decide) fk_X1_18 rfl rfl rfl (lat1 hY ht) ?_
    refine z_iconst (v := 0) dX1_readBreeds_77 rfl ?_
    exact z_iretM dX1_readBreeds_78 rfl h
  · have h := h.2 hb
    refine z_aload_n dX1_readBreeds_22 1 rfl rfl ?_
    refine zm_Vi (As := []) (rest := []) dX1_readBreeds_23 okX5_isAtDigit ioX5_isAtDigit mk_X1_85 (ci := 5) rfl (by decide) (lat hY rfl) rfl rfl (Nat.le_of_ble_eq_true rfl) (by decide) hY (CM.monoi h fun r1 F1 A1 h => ?_)
    refine z_if_eq (tgt := 67) dX1_readBreeds_26 (by decide) (fun hb => ?_) (fun hb => ?_)
    · have h := h.1 hb
      refine z_aload_n dX1_readBreeds_67 0 rfl rfl ?_
      refine z_dup dX1_readBreeds_68 ?_
      refine z_geti' (k := 2) (fc := 42) (x := (F1 42 t)) dX1_readBreeds_69 ckX1 (by decide) fk_X1_18 rfl rfl (lat1 hY ht) rfl ?_
      refine z_iload_n dX1_readBreeds_72 2 rfl rfl ?_
      refine z_iand dX1_readBreeds_73 ?_
      refine z_puti (k := 2) (fc := 42) dX1_readBreeds_74 ckX1 (by decide) fk_X1_18 rfl rfl rfl (lat1 hY ht) ?_
      refine z_iconst (v := 0) dX1_readBreeds_77 rfl ?_
      exact z_iretM dX1_readBreeds_78 rfl h
    · have h := h.2 hb
      refine z_aload_n dX1_readBreeds_29 1 rfl rfl ?_
      refine zm_Vi (As := []) (rest := []) dX1_readBreeds_30 okX5_peek ioX5_peek mk_X1_58 (ci := 5) rfl (by decide) (lat hY rfl) rfl rfl (Nat.le_of_ble_eq_true rfl) (by decide) hY (CM.monoi h fun r2 F2 A2 h => ?_)
      refine z_bipush (v := 48) dX1_readBreeds_33 rfl ?_
      refine z_isub dX1_readBreeds_35 ?_
      refine z_istore (lv' := [(0, .ref t), (1, .ref 2), (2, .int x2), (3, .int x3), (4, .int (r2 - 48))]) dX1_readBreeds_36 (by decide) rfl ?_
      refine z_iload dX1_readBreeds_38 4 rfl ?_
      refine z_iconst (v := 4) dX1_readBreeds_40 rfl ?_
      refine z_icmp_lt (tgt := 50) dX1_readBreeds_41 (by decide) (fun hb => ?_) (fun hb => ?_)
      · have h := h.1 hb
        refine z_iload_n dX1_readBreeds_50 2 rfl rfl ?_
        refine z_iconst (v := 1) dX1_readBreeds_51 rfl ?_
        refine z_iload dX1_readBreeds_52 4 rfl ?_
        refine z_ishl dX1_readBreeds_54 ?_
        refine z_ior dX1_readBreeds_55 ?_
        refine z_istore_n (lv' := [(0, .ref t), (1, .ref 2), (2, .int (x2 ||| (1 <<< ((r2 - 48) &&& 31)))), (3, .int x3), (4, .int (r2 - 48))]) dX1_readBreeds_56 rfl (by decide) rfl ?_
        refine z_aload_n dX1_readBreeds_57 1 rfl rfl ?_
        refine zm_Vv (As := []) (rest := []) dX1_readBreeds_58 okX5_skip ioX5_skip mk_X1_88 (ci := 5) rfl (by decide) (lat hY rfl) rfl rfl (Nat.le_of_ble_eq_true rfl) (by decide) hY (CM.monov h fun F3 A3 h => ?_)
        refine z_iinc (v := (x3 + 1)) (lv' := [(0, .ref t), (1, .ref 2), (2, .int (x2 ||| (1 <<< ((r2 - 48) &&& 31)))), (3, .int (x3 + 1)), (4, .int (r2 - 48))]) dX1_readBreeds_61 3 rfl rfl (by decide) rfl ?_
        refine z_goto (tgt := 17) dX1_readBreeds_64 (by decide) ?_
        exact z_pick [0, 1, 2, 3] rfl (h T G B hY)
      · have h := h.2 hb
        refine z_aload_n dX1_readBreeds_44 1 rfl rfl ?_
        refine z_iconst (v := 2) dX1_readBreeds_45 rfl ?_
        refine zm_Vi (As := [.int 2]) (rest := []) dX1_readBreeds_46 okX5_faultHere ioX5_faultHere mk_X1_54 (ci := 5) rfl (by decide) (lat hY rfl) rfl rfl (Nat.le_of_ble_eq_true rfl) (by decide) hY (CM.monoi h fun r4 F4 A4 h => ?_)
        exact z_iretM dX1_readBreeds_49 rfl h
set_option maxHeartbeats 4000000 in
set_option maxRecDepth 100000 in
theorem vX2_findInRing_0 {l : Launch} {w : Nat → Nat} {nb : Nat} {Q : PM} {x2 : Int32} {F A : MI} {c : Nat} (hc : c < 6) (h : CM l mX2_tally 2 w nb [.ref 7, .ref (38 + 14 * c)] F A (qv fun F1 A1 => ZM l mX2_findInRing 3 w nb Q 7 [(0, .ref 7), (2, .int x2), (3, .int 0)] [] F1 A1)) : ZM l mX2_findInRing 3 w nb Q 0 [(0, .ref 7), (1, .ref (38 + 14 * c)), (2, .int x2)] [] F A := by
  intro T G B hY
  refine z_aload_n dX2_findInRing_0 0 rfl rfl ?_
  refine z_aload_n dX2_findInRing_1 1 rfl rfl ?_
  refine zm_Vv (As := [.ref (38 + 14 * c)]) (rest := []) dX2_findInRing_2 okX2_tally ioX2_tally mk_X2_33 (ci := 2) rfl (by decide) (lat hY rfl) rfl rfl (Nat.le_of_ble_eq_true rfl) (by decide) hY (CM.monov h fun F1 A1 h => ?_)
  refine z_iconst (v := 0) dX2_findInRing_5 rfl ?_
  refine z_istore_n (lv' := [(0, .ref 7), (1, .ref (38 + 14 * c)), (2, .int x2), (3, .int 0)]) dX2_findInRing_6 rfl (by decide) rfl ?_
  exact z_pick [0, 2, 3] rfl (h T G B hY)
theorem kX2_findInRing {l : Launch} {w : Nat → Nat} {nb : Nat} {Q : PM} {x2 : Int32} {F A : MI} {c : Nat} (hc : c < 6) (h : CM l mX2_tally 2 w nb [.ref 7, .ref (38 + 14 * c)] F A (qv fun F1 A1 => ZM l mX2_findInRing 3 w nb Q 7 [(0, .ref 7), (2, .int x2), (3, .int 0)] [] F1 A1)) : CM l mX2_findInRing 3 w nb [.ref 7, .ref (38 + 14 * c), .int x2] F A Q := CM.ofZ (by decide) (fun _ _ => rfl) (fun _ _ => Nat.le_of_ble_eq_true rfl) (vX2_findInRing_0 hc h)
set_option maxHeartbeats 4000000 in
set_option maxRecDepth 100000 in
theorem vX2_findInRing_7 {l : Launch} {w : Nat → Nat} {nb : Nat} {Q : PM} {x2 x3 : Int32} {F A : MI} {c : Nat} (hc : c < 6) (h : (((F 82 7) ≤ x3 → Q (some (.int (-1))) F A) ∧ (¬ (F 82 7) ≤ x3 → ZM l mX2_findInRing 3 w nb Q 18 [(0, .ref 7), (2, .int x2), (3, .int x3), (4, .int 0)] [] F A))) : ZM l mX2_findInRing 3 w nb Q 7 [(0, .ref 7), (2, .int x2), (3, .int x3)] [] F A := by
  intro T G B hY
  refine z_iload_n dX2_findInRing_7 2 rfl rfl ?_
  refine z_aload_n dX2_findInRing_8 0 rfl rfl ?_
  refine z_geti' (k := 2) (fc := 82) (x := (F 82 7)) dX2_findInRing_9 ckX2 (by decide) fk_X2_18 rfl rfl (lat hY rfl) rfl ?_
  refine z_icmp_ge (tgt := 114) dX2_findInRing_12 (by decide) (fun hb => ?_) (fun hb => ?_)
  · have h := h.1 hb
    refine z_iconst (v := (-1)) dX2_findInRing_114 rfl ?_
    exact z_iretM dX2_findInRing_115 rfl h
  · have h := h.2 hb
    refine z_iconst (v := 0) dX2_findInRing_15 rfl ?_
    refine z_istore (lv' := [(0, .ref 7), (2, .int x2), (3, .int x3), (4, .int 0)]) dX2_findInRing_16 (by decide) rfl ?_
    exact z_pick [0, 1, 2, 3] rfl (h T G B hY)
set_option maxHeartbeats 4000000 in
set_option maxRecDepth 100000 in
theorem vX2_findInRing_18 {l : Launch} {w : Nat → Nat} {nb : Nat} {Q : PM} {x2 x3 x4 : Int32} {F A : MI} {c : Nat} (hc : c < 6) (h : (((F 82 7) ≤ x4 → ZM l mX2_findInRing 3 w nb Q 7 [(0, .ref 7), (2, .int x2), (3, .int (x3 + 1))] [] F A) ∧ (¬ (F 82 7) ≤ x4 → ZM l mX2_findInRing 3 w nb Q 30 [(0, .ref 7), (2, .int x2), (3, .int x3), (4, .int x4), (5, .int 0)] [] F A))) : ZM l mX2_findInRing 3 w nb Q 18 [(0, .ref 7), (2, .int x2), (3, .int x3), (4, .int x4)] [] F A := by
  intro T G B hY
  refine z_iload dX2_findInRing_18 3 rfl ?_
  refine z_aload_n dX2_findInRing_20 0 rfl rfl ?_
  refine z_geti' (k := 2) (fc := 82) (x := (F 82 7)) dX2_findInRing_21 ckX2 (by decide) fk_X2_18 rfl rfl (lat hY rfl) rfl ?_
  refine z_icmp_ge (tgt := 108) dX2_findInRing_24 (by decide) (fun hb => ?_) (fun hb => ?_)
  · have h := h.1 hb
    refine z_iinc (v := (x3 + 1)) (lv' := [(0, .ref 7), (2, .int x2), (3, .int (x3 + 1)), (4, .int x4)]) dX2_findInRing_108 2 rfl rfl (by decide) rfl ?_
    refine z_goto (tgt := 7) dX2_findInRing_111 (by decide) ?_
    exact z_pick [0, 1, 2] rfl (h T G B hY)
  · have h := h.2 hb
    refine z_iconst (v := 0) dX2_findInRing_27 rfl ?_
    refine z_istore (lv' := [(0, .ref 7), (2, .int x2), (3, .int x3), (4, .int x4), (5, .int 0)]) dX2_findInRing_28 (by decide) rfl ?_
    exact z_pick [0, 1, 2, 3, 4] rfl (h T G B hY)
set_option maxHeartbeats 4000000 in
set_option maxRecDepth 100000 in
theorem vX2_findInRing_30 {l : Launch} {w : Nat → Nat} {nb : Nat} {Q : PM} {x2 x3 x4 x5 : Int32} {F A : MI} {c : Nat} (hc : c < 6) (h : (((F 82 7) ≤ x5 → ZM l mX2_findInRing 3 w nb Q 102 [(0, .ref 7), (2, .int x2), (3, .int x3), (4, .int x4)] [] F A) ∧ (¬ (F 82 7) ≤ x5 → CM l mX2_beats 1 w nb [.ref 7, .int x3, .int x4] F A (qi fun r1 F1 A1 => ((r1 = 0 → ZM l mX2_findInRing 3 w nb Q 102 [(0, .ref 7), (2, .int x2), (3, .int x3), (4, .int x4)] [] F1 A1) ∧ (¬ r1 = 0 → CM l mX2_beats 1 w nb [.ref 7, .int x4, .int x5] F1 A1 (qi fun r2 F2 A2 => ((r2 = 0 → ZM l mX2_findInRing 3 w nb Q 96 [(0, .ref 7), (2, .int x2), (3, .int x3), (4, .int x4), (5, .int x5)] [] F2 A2) ∧ (¬ r2 = 0 → CM l mX2_beats 1 w nb [.ref 7, .int x5, .int x3] F2 A2 (qi fun r3 F3 A3 => ((r3 = 0 → ZM l mX2_findInRing 3 w nb Q 96 [(0, .ref 7), (2, .int x2), (3, .int x3), (4, .int x4), (5, .int x5)] [] F3 A3) ∧ (¬ r3 = 0 → ((¬ x2 = 0 → ((¬ x2 = 1 → ZM l mX2_findInRing 3 w nb Q 94 [] [.int x5, .ref 8] F3 A3) ∧ (x2 = 1 → ZM l mX2_findInRing 3 w nb Q 94 [] [.int x4, .ref 8] F3 A3))) ∧ (x2 = 0 → ZM l mX2_findInRing 3 w nb Q 94 [] [.int x3, .ref 8] F3 A3)))))))))))))) : ZM l mX2_findInRing 3 w nb Q 30 [(0, .ref 7), (2, .int x2), (3, .int x3), (4, .int x4), (5, .int x5)] [] F A := by
  intro T G B hY
  refine z_iload dX2_findInRing_30 4 rfl ?_
  refine z_aload_n dX2_findInRing_32 0 rfl rfl ?_
  refine z_geti' (k := 2) (fc := 82) (x := (F 82 7)) dX2_findInRing_33 ckX2 (by decide) fk_X2_18 rfl rfl (lat hY rfl) rfl ?_
  refine z_icmp_ge (tgt := 102) dX2_findInRing_36 (by decide) (fun hb => ?_) (fun hb => ?_)
  · have h := h.1 hb
    exact z_pick [0, 1, 2, 3] rfl (h T G B hY)
  · have h := h.2 hb
    refine z_aload_n dX2_findInRing_39 0 rfl rfl ?_
    refine z_iload_n dX2_findInRing_40 2 rfl rfl ?_
    refine z_iload dX2_findInRing_41 3 rfl ?_
    refine zm_Vi (As := [.int x3, .int x4]) (rest := []) dX2_findInRing_43 okX2_beats ioX2_beats mk_X2_55 (ci := 2) rfl (by decide) (lat hY rfl) rfl rfl (Nat.le_of_ble_eq_true rfl) (by decide) hY (CM.monoi h fun r1 F1 A1 h => ?_)
    refine z_if_eq (tgt := 102) dX2_findInRing_46 (by decide) (fun hb => ?_) (fun hb => ?_)
    · have h := h.1 hb
      exact z_pick [0, 1, 2, 3] rfl (h T G B hY)
    · have h := h.2 hb
      refine z_aload_n dX2_findInRing_49 0 rfl rfl ?_
      refine z_iload dX2_findInRing_50 3 rfl ?_
      refine z_iload dX2_findInRing_52 4 rfl ?_
      refine zm_Vi (As := [.int x4, .int x5]) (rest := []) dX2_findInRing_54 okX2_beats ioX2_beats mk_X2_55 (ci := 2) rfl (by decide) (lat hY rfl) rfl rfl (Nat.le_of_ble_eq_true rfl) (by decide) hY (CM.monoi h fun r2 F2 A2 h => ?_)
      refine z_if_eq (tgt := 96) dX2_findInRing_57 (by decide) (fun hb => ?_) (fun hb => ?_)
      · have h := h.1 hb
        exact z_pick [0, 1, 2, 3, 4] rfl (h T G B hY)
      · have h := h.2 hb
        refine z_aload_n dX2_findInRing_60 0 rfl rfl ?_
        refine z_iload dX2_findInRing_61 4 rfl ?_
        refine z_iload_n dX2_findInRing_63 2 rfl rfl ?_
        refine zm_Vi (As := [.int x5, .int x3]) (rest := []) dX2_findInRing_64 okX2_beats ioX2_beats mk_X2_55 (ci := 2) rfl (by decide) (lat hY rfl) rfl rfl (Nat.le_of_ble_eq_true rfl) (by decide) hY (CM.monoi h fun r3 F3 A3 h => ?_)
        refine z_if_eq (tgt := 96) dX2_findInRing_67 (by decide) (fun hb => ?_) (fun hb => ?_)
        · have h := h.1 hb
          exact z_pick [0, 1, 2, 3, 4] rfl (h T G B hY)
        · have h := h.2 hb
          refine z_aload_n dX2_findInRing_70 0 rfl rfl ?_
          refine z_getr (k := 0) (fc := 80) (r := 8) dX2_findInRing_71 ckX2 (by decide) fk_X2_9 rfl rfl (lat hY rfl) (lgg hY rfl) (by decide) ?_
          refine z_iload_n dX2_findInRing_74 1 rfl rfl ?_
          refine z_if_ne (tgt := 82) dX2_findInRing_75 (by decide) (fun hb => ?_) (fun hb => ?_)
          · have h := h.1 hb
            refine z_iload_n dX2_findInRing_82 1 rfl rfl ?_
            refine z_iconst (v := 1) dX2_findInRing_83 rfl ?_
            refine z_icmp_ne (tgt := 92) dX2_findInRing_84 (by decide) (fun hb => ?_) (fun hb => ?_)
            · have h := h.1 hb
              refine z_iload dX2_findInRing_92 4 rfl ?_
              exact z_pick [] rfl (h T G B hY)
            · have h := h.2 hb
              refine z_iload dX2_findInRing_87 3 rfl ?_
              refine z_goto (tgt := 94) dX2_findInRing_89 (by decide) ?_
              exact z_pick [] rfl (h T G B hY)
          · have h := h.2 hb
            refine z_iload_n dX2_findInRing_78 2 rfl rfl ?_
            refine z_goto (tgt := 94) dX2_findInRing_79 (by decide) ?_
            exact z_pick [] rfl (h T G B hY)
set_option maxHeartbeats 4000000 in
set_option maxRecDepth 100000 in
theorem vX2_findInRing_102 {l : Launch} {w : Nat → Nat} {nb : Nat} {Q : PM} {x2 x3 x4 : Int32} {F A : MI} {c : Nat} (hc : c < 6) (h : ZM l mX2_findInRing 3 w nb Q 18 [(0, .ref 7), (2, .int x2), (3, .int x3), (4, .int (x4 + 1))] [] F A) : ZM l mX2_findInRing 3 w nb Q 102 [(0, .ref 7), (2, .int x2), (3, .int x3), (4, .int x4)] [] F A := by
  intro T G B hY
  refine z_iinc (v := (x4 + 1)) (lv' := [(0, .ref 7), (2, .int x2), (3, .int x3), (4, .int (x4 + 1))]) dX2_findInRing_102 3 rfl rfl (by decide) rfl ?_
  refine z_goto (tgt := 18) dX2_findInRing_105 (by decide) ?_
  exact z_pick [0, 1, 2, 3] rfl (h T G B hY)
set_option maxHeartbeats 4000000 in
set_option maxRecDepth 100000 in
theorem vX2_findInRing_96 {l : Launch} {w : Nat → Nat} {nb : Nat} {Q : PM} {x2 x3 x4 x5 : Int32} {F A : MI} {c : Nat} (hc : c < 6) (h : ZM l mX2_findInRing 3 w nb Q 30 [(0, .ref 7), (2, .int x2), (3, .int x3), (4, .int x4), (5, .int (x5 + 1))] [] F A) : ZM l mX2_findInRing 3 w nb Q 96 [(0, .ref 7), (2, .int x2), (3, .int x3), (4, .int x4), (5, .int x5)] [] F A := by
  intro T G B hY
  refine z_iinc (v := (x5 + 1)) (lv' := [(0, .ref 7), (2, .int x2), (3, .int x3), (4, .int x4), (5, .int (x5 + 1))]) dX2_findInRing_96 4 rfl rfl (by decide) rfl ?_
  refine z_goto (tgt := 30) dX2_findInRing_99 (by decide) ?_
  exact z_pick [0, 1, 2, 3, 4] rfl (h T G B hY)
set_option maxHeartbeats 4000000 in
set_option maxRecDepth 100000 in
theorem vX2_findInRing_94 {l : Launch} {w : Nat → Nat} {nb : Nat} {Q : PM} {s0 : Int32} {F A : MI} {c : Nat} (hc : c < 6) (h : (vp_in s0 8 ∧ Q (some (.int (A 8 s0.toNatClampNeg))) F A)) : ZM l mX2_findInRing 3 w nb Q 94 [] [.int s0, .ref 8] F A := by
  intro T G B hY
  have hin1 := h.1
  have h := h.2
  refine z_iald' (n := 8) (x := (A 8 s0.toNatClampNeg)) dX2_findInRing_94 (lat hY rfl) (lln hY rfl) hin1 rfl ?_
  exact z_iretM dX2_findInRing_95 rfl h
set_option maxHeartbeats 4000000 in
set_option maxRecDepth 100000 in
theorem vX2_join_0 {l : Launch} {w : Nat → Nat} {nb : Nat} {Q : PM} {F A : MI} {c : Nat} (hc : c < 6) (h : CM l mX2_tally 2 w nb [.ref 7, .ref (38 + 14 * c)] F A (qv fun F1 A1 => CM l mX2_sumLost 1 w nb [.ref 7] F1 A1 (qv fun F2 A2 => CM l mX2_findFewest 2 w nb [.ref 7] F2 A2 (qv fun F3 A3 => (vp_in ((1 <<< ((F3 82 7) &&& 31)) - 1) 256 ∧ ZM l mX2_join 3 w nb Q 34 [(0, .ref 7), (1, .ref (38 + 14 * c)), (2, .int ((1 <<< ((F3 82 7) &&& 31)) - 1)), (3, .int 0)] [] (u2 F3 167 (38 + 14 * c) (A3 28 ((1 <<< ((F3 82 7) &&& 31)) - 1).toNatClampNeg)) A3))))) : ZM l mX2_join 3 w nb Q 0 [(0, .ref 7), (1, .ref (38 + 14 * c))] [] F A := by
  intro T G B hY
  refine z_aload_n dX2_join_0 0 rfl rfl ?_
  refine z_aload_n dX2_join_1 1 rfl rfl ?_
  refine zm_Vv (As := [.ref (38 + 14 * c)]) (rest := []) dX2_join_2 okX2_tally ioX2_tally mk_X2_33 (ci := 2) rfl (by decide) (lat hY rfl) rfl rfl (Nat.le_of_ble_eq_true rfl) (by decide) hY (CM.monov h fun F1 A1 h => ?_)
  refine z_aload_n dX2_join_5 0 rfl rfl ?_
  refine zm_Vv (As := []) (rest := []) dX2_join_6 okX2_sumLost ioX2_sumLost mk_X2_37 (ci := 2) rfl (by decide) (lat hY rfl) rfl rfl (Nat.le_of_ble_eq_true rfl) (by decide) hY (CM.monov h fun F2 A2 h => ?_)
  refine z_aload_n dX2_join_9 0 rfl rfl ?_
  refine zm_Vv (As := []) (rest := []) dX2_join_10 okX2_findFewest ioX2_findFewest mk_X2_40 (ci := 2) rfl (by decide) (lat hY rfl) rfl rfl (Nat.le_of_ble_eq_true rfl) (by decide) hY (CM.monov h fun F3 A3 h => ?_)
  refine z_iconst (v := 1) dX2_join_13 rfl ?_
  refine z_aload_n dX2_join_14 0 rfl rfl ?_
  refine z_geti' (k := 2) (fc := 82) (x := (F3 82 7)) dX2_join_15 ckX2 (by decide) fk_X2_18 rfl rfl (lat hY rfl) rfl ?_
  refine z_ishl dX2_join_18 ?_
  refine z_iconst (v := 1) dX2_join_19 rfl ?_
  refine z_isub dX2_join_20 ?_
  refine z_istore_n (lv' := [(0, .ref 7), (1, .ref (38 + 14 * c)), (2, .int ((1 <<< ((F3 82 7) &&& 31)) - 1))]) dX2_join_21 rfl (by decide) rfl ?_
  refine z_aload_n dX2_join_22 1 rfl rfl ?_
  refine z_aload_n dX2_join_23 0 rfl rfl ?_
  refine z_getr (k := 5) (fc := 85) (r := 28) dX2_join_24 ckX2 (by decide) fk_X2_30 rfl rfl (lat hY rfl) (lgg hY rfl) (by decide) ?_
  refine z_iload_n dX2_join_27 2 rfl rfl ?_
  have hin4 := h.1
  have h := h.2
  refine z_iald' (n := 256) (x := (A3 28 ((1 <<< ((F3 82 7) &&& 31)) - 1).toNatClampNeg)) dX2_join_28 (lat hY rfl) (lln hY rfl) hin4 rfl ?_
  refine z_puti (k := 7) (fc := 167) dX2_join_29 ckX4 (by decide) fk_X2_43 rfl rfl rfl (lat4 hY hc) ?_
  refine z_iconst (v := 0) dX2_join_32 rfl ?_
  refine z_istore_n (lv' := [(0, .ref 7), (1, .ref (38 + 14 * c)), (2, .int ((1 <<< ((F3 82 7) &&& 31)) - 1)), (3, .int 0)]) dX2_join_33 rfl (by decide) rfl ?_
  exact z_pick [0, 1, 2, 3] rfl (h T G B hY)
theorem kX2_join {l : Launch} {w : Nat → Nat} {nb : Nat} {Q : PM} {F A : MI} {c : Nat} (hc : c < 6) (h : CM l mX2_tally 2 w nb [.ref 7, .ref (38 + 14 * c)] F A (qv fun F1 A1 => CM l mX2_sumLost 1 w nb [.ref 7] F1 A1 (qv fun F2 A2 => CM l mX2_findFewest 2 w nb [.ref 7] F2 A2 (qv fun F3 A3 => (vp_in ((1 <<< ((F3 82 7) &&& 31)) - 1) 256 ∧ ZM l mX2_join 3 w nb Q 34 [(0, .ref 7), (1, .ref (38 + 14 * c)), (2, .int ((1 <<< ((F3 82 7) &&& 31)) - 1)), (3, .int 0)] [] (u2 F3 167 (38 + 14 * c) (A3 28 ((1 <<< ((F3 82 7) &&& 31)) - 1).toNatClampNeg)) A3))))) : CM l mX2_join 3 w nb [.ref 7, .ref (38 + 14 * c)] F A Q := CM.ofZ (by decide) (fun _ _ => rfl) (fun _ _ => Nat.le_of_ble_eq_true rfl) (vX2_join_0 hc h)
set_option maxHeartbeats 4000000 in
set_option maxRecDepth 100000 in
theorem vX2_join_34 {l : Launch} {w : Nat → Nat} {nb : Nat} {Q : PM} {x2 x3 : Int32} {F A : MI} {c : Nat} (hc : c < 6) (h : (((F 82 7) ≤ x3 → Q none F A) ∧ (¬ (F 82 7) ≤ x3 → CM l mX2_leastFirst 2 w nb [.ref 7, .int x2] F A (qi fun r1 F1 A1 => (vp_in r1 8 ∧ (vp_in x3 8 ∧ ZM l mX2_join 3 w nb Q 34 [(0, .ref 7), (1, .ref (38 + 14 * c)), (2, .int (x2 &&& ((1 <<< (r1 &&& 31)) ^^^ (-1)))), (3, .int (x3 + 1))] [] F1 (u2 A1 (38 + 14 * c + 12) x3.toNatClampNeg (A1 8 r1.toNatClampNeg)))))))) : ZM l mX2_join 3 w nb Q 34 [(0, .ref 7), (1, .ref (38 + 14 * c)), (2, .int x2), (3, .int x3)] [] F A := by
  intro T G B hY
  refine z_iload_n dX2_join_34 3 rfl rfl ?_
  refine z_aload_n dX2_join_35 0 rfl rfl ?_
  refine z_geti' (k := 2) (fc := 82) (x := (F 82 7)) dX2_join_36 ckX2 (by decide) fk_X2_18 rfl rfl (lat hY rfl) rfl ?_
  refine z_icmp_ge (tgt := 77) dX2_join_39 (by decide) (fun hb => ?_) (fun hb => ?_)
  · have h := h.1 hb
    exact z_vretM dX2_join_77 rfl h
  · have h := h.2 hb
    refine z_aload_n dX2_join_42 0 rfl rfl ?_
    refine z_iload_n dX2_join_43 2 rfl rfl ?_
    refine zm_Vi (As := [.int x2]) (rest := []) dX2_join_44 okX2_leastFirst ioX2_leastFirst mk_X2_48 (ci := 2) rfl (by decide) (lat hY rfl) rfl rfl (Nat.le_of_ble_eq_true rfl) (by decide) hY (CM.monoi h fun r1 F1 A1 h => ?_)
    refine z_istore (lv' := [(0, .ref 7), (1, .ref (38 + 14 * c)), (2, .int x2), (3, .int x3), (4, .int r1)]) dX2_join_47 (by decide) rfl ?_
    refine z_aload_n dX2_join_49 1 rfl rfl ?_
    refine z_getr (k := 6) (fc := 166) (r := (38 + 14 * c + 12)) dX2_join_50 ckX4 (by decide) fk_X2_52 rfl rfl (lat4 hY hc) (lggc hY 166 12 hc (by decide)) (by omega) ?_
    refine z_iload_n dX2_join_53 3 rfl rfl ?_
    refine z_aload_n dX2_join_54 0 rfl rfl ?_
    refine z_getr (k := 0) (fc := 80) (r := 8) dX2_join_55 ckX2 (by decide) fk_X2_9 rfl rfl (lat hY rfl) (lgg hY rfl) (by decide) ?_
    refine z_iload dX2_join_58 4 rfl ?_
    have hin2 := h.1
    have h := h.2
    refine z_iald' (n := 8) (x := (A1 8 r1.toNatClampNeg)) dX2_join_60 (lat hY rfl) (lln hY rfl) hin2 rfl ?_
    have hin3 := h.1
    have h := h.2
    refine z_iast' (n := 8) dX2_join_61 (latc hY hc 12 (by decide)) (llnc hY hc 12 (by decide)) hin3 ?_
    refine z_iload_n dX2_join_62 2 rfl rfl ?_
    refine z_iconst (v := 1) dX2_join_63 rfl ?_
    refine z_iload dX2_join_64 4 rfl ?_
    refine z_ishl dX2_join_66 ?_
    refine z_iconst (v := (-1)) dX2_join_67 rfl ?_
    refine z_ixor dX2_join_68 ?_
    refine z_iand dX2_join_69 ?_
    refine z_istore_n (lv' := [(0, .ref 7), (1, .ref (38 + 14 * c)), (2, .int (x2 &&& ((1 <<< (r1 &&& 31)) ^^^ (-1)))), (3, .int x3), (4, .int r1)]) dX2_join_70 rfl (by decide) rfl ?_
    refine z_iinc (v := (x3 + 1)) (lv' := [(0, .ref 7), (1, .ref (38 + 14 * c)), (2, .int (x2 &&& ((1 <<< (r1 &&& 31)) ^^^ (-1)))), (3, .int (x3 + 1)), (4, .int r1)]) dX2_join_71 3 rfl rfl (by decide) rfl ?_
    refine z_goto (tgt := 34) dX2_join_74 (by decide) ?_
    exact z_pick [0, 1, 2, 3] rfl (h T G B hY)
set_option maxHeartbeats 4000000 in
set_option maxRecDepth 100000 in
theorem vX3_faultOfPlace_0 {l : Launch} {w : Nat → Nat} {nb : Nat} {Q : PM} {x1 x2 : Int32} {F A : MI}  (h : ((x1 < 1 → ZM l mX3_faultOfPlace 3 w nb Q 11 [(0, .ref 2)] [] F A) ∧ (¬ x1 < 1 → ((x1 ≤ 8 → ((x1 ≤ x2 → Q (some (.int 0)) F A) ∧ (¬ x1 ≤ x2 → CM l mX5_faultHere 2 w nb [.ref 2, .int 2] F A (qi fun r1 F1 A1 => Q (some (.int r1)) F1 A1)))) ∧ (¬ x1 ≤ 8 → ZM l mX3_faultOfPlace 3 w nb Q 11 [(0, .ref 2)] [] F A))))) : ZM l mX3_faultOfPlace 3 w nb Q 0 [(0, .ref 2), (1, .int x1), (2, .int x2)] [] F A := by
  intro T G B hY
  refine z_iload_n dX3_faultOfPlace_0 1 rfl rfl ?_
  refine z_iconst (v := 1) dX3_faultOfPlace_1 rfl ?_
  refine z_icmp_lt (tgt := 11) dX3_faultOfPlace_2 (by decide) (fun hb => ?_) (fun hb => ?_)
  · have h := h.1 hb
    exact z_pick [0] rfl (h T G B hY)
  · have h := h.2 hb
    refine z_iload_n dX3_faultOfPlace_5 1 rfl rfl ?_
    refine z_bipush (v := 8) dX3_faultOfPlace_6 rfl ?_
    refine z_icmp_le (tgt := 17) dX3_faultOfPlace_8 (by decide) (fun hb => ?_) (fun hb => ?_)
    · have h := h.1 hb
      refine z_iload_n dX3_faultOfPlace_17 1 rfl rfl ?_
      refine z_iload_n dX3_faultOfPlace_18 2 rfl rfl ?_
      refine z_icmp_le (tgt := 30) dX3_faultOfPlace_19 (by decide) (fun hb => ?_) (fun hb => ?_)
      · have h := h.1 hb
        refine z_iconst (v := 0) dX3_faultOfPlace_30 rfl ?_
        exact z_iretM dX3_faultOfPlace_31 rfl h
      · have h := h.2 hb
        refine z_aload_n dX3_faultOfPlace_22 0 rfl rfl ?_
        refine z_iconst (v := 2) dX3_faultOfPlace_23 rfl ?_
        refine zm_Vi (As := [.int 2]) (rest := []) dX3_faultOfPlace_24 okX5_faultHere ioX5_faultHere mk_X3_38 (ci := 5) rfl (by decide) (lat hY rfl) rfl rfl (Nat.le_of_ble_eq_true rfl) (by decide) hY (CM.monoi h fun r1 F1 A1 h => ?_)
        refine z_goto (tgt := 31) dX3_faultOfPlace_27 (by decide) ?_
        exact z_iretM dX3_faultOfPlace_31 rfl h
    · have h := h.2 hb
      exact z_pick [0] rfl (h T G B hY)
theorem kX3_faultOfPlace {l : Launch} {w : Nat → Nat} {nb : Nat} {Q : PM} {x1 x2 : Int32} {F A : MI}  (h : ((x1 < 1 → ZM l mX3_faultOfPlace 3 w nb Q 11 [(0, .ref 2)] [] F A) ∧ (¬ x1 < 1 → ((x1 ≤ 8 → ((x1 ≤ x2 → Q (some (.int 0)) F A) ∧ (¬ x1 ≤ x2 → CM l mX5_faultHere 2 w nb [.ref 2, .int 2] F A (qi fun r1 F1 A1 => Q (some (.int r1)) F1 A1)))) ∧ (¬ x1 ≤ 8 → ZM l mX3_faultOfPlace 3 w nb Q 11 [(0, .ref 2)] [] F A))))) : CM l mX3_faultOfPlace 3 w nb [.ref 2, .int x1, .int x2] F A Q := CM.ofZ (by decide) (fun _ _ => rfl) (fun _ _ => Nat.le_of_ble_eq_true rfl) (vX3_faultOfPlace_0  h)
set_option maxHeartbeats 4000000 in
set_option maxRecDepth 100000 in
theorem vX3_faultOfPlace_11 {l : Launch} {w : Nat → Nat} {nb : Nat} {Q : PM} {F A : MI}  (h : CM l mX5_faultHere 2 w nb [.ref 2, .int 1] F A (qi fun r1 F1 A1 => Q (some (.int r1)) F1 A1)) : ZM l mX3_faultOfPlace 3 w nb Q 11 [(0, .ref 2)] [] F A := by
  intro T G B hY
  refine z_aload_n dX3_faultOfPlace_11 0 rfl rfl ?_
  refine z_iconst (v := 1) dX3_faultOfPlace_12 rfl ?_
  refine zm_Vi (As := [.int 1]) (rest := []) dX3_faultOfPlace_13 okX5_faultHere ioX5_faultHere mk_X3_38 (ci := 5) rfl (by decide) (lat hY rfl) rfl rfl (Nat.le_of_ble_eq_true rfl) (by decide) hY (CM.monoi h fun r1 F1 A1 h => ?_)
  exact z_iretM dX3_faultOfPlace_16 rfl h
set_option maxHeartbeats 4000000 in
set_option maxRecDepth 100000 in
theorem vX3_isAtTerm_0 {l : Launch} {w : Nat → Nat} {nb : Nat} {Q : PM} {F A : MI}  (h : CM l mX5_peek 1 w nb [.ref 2] F A (qi fun r1 F1 A1 => ((r1 = 45 → Q (some (.int 1)) F1 A1) ∧ (¬ r1 = 45 → CM l mX3_isAtMeasure 2 w nb [.ref 2] F1 A1 (qi fun r2 F2 A2 => ((r2 = 0 → Q (some (.int 0)) F2 A2) ∧ (¬ r2 = 0 → Q (some (.int 1)) F2 A2))))))) : ZM l mX3_isAtTerm 3 w nb Q 0 [(0, .ref 2)] [] F A := by
  intro T G B hY
  refine z_aload_n dX3_isAtTerm_0 0 rfl rfl ?_
  refine zm_Vi (As := []) (rest := []) dX3_isAtTerm_1 okX5_peek ioX5_peek mk_X3_73 (ci := 5) rfl (by decide) (lat hY rfl) rfl rfl (Nat.le_of_ble_eq_true rfl) (by decide) hY (CM.monoi h fun r1 F1 A1 h => ?_)
  refine z_bipush (v := 45) dX3_isAtTerm_4 rfl ?_
  refine z_icmp_eq (tgt := 16) dX3_isAtTerm_6 (by decide) (fun hb => ?_) (fun hb => ?_)
  · have h := h.1 hb
    refine z_iconst (v := 1) dX3_isAtTerm_16 rfl ?_
    refine z_goto (tgt := 21) dX3_isAtTerm_17 (by decide) ?_
    exact z_zretM dX3_isAtTerm_21 rfl (by decide) h
  · have h := h.2 hb
    refine z_aload_n dX3_isAtTerm_9 0 rfl rfl ?_
    refine zm_Si (As := [.ref 2]) (rest := []) dX3_isAtTerm_10 okX3_isAtMeasure smX3_isAtMeasure mk_X3_80 rfl rfl (Nat.le_of_ble_eq_true rfl) (by decide) hY (CM.monoi h fun r2 F2 A2 h => ?_)
    refine z_if_eq (tgt := 20) dX3_isAtTerm_13 (by decide) (fun hb => ?_) (fun hb => ?_)
    · have h := h.1 hb
      refine z_iconst (v := 0) dX3_isAtTerm_20 rfl ?_
      exact z_zretM dX3_isAtTerm_21 rfl (by decide) h
    · have h := h.2 hb
      refine z_iconst (v := 1) dX3_isAtTerm_16 rfl ?_
      refine z_goto (tgt := 21) dX3_isAtTerm_17 (by decide) ?_
      exact z_zretM dX3_isAtTerm_21 rfl (by decide) h
theorem kX3_isAtTerm {l : Launch} {w : Nat → Nat} {nb : Nat} {Q : PM} {F A : MI}  (h : CM l mX5_peek 1 w nb [.ref 2] F A (qi fun r1 F1 A1 => ((r1 = 45 → Q (some (.int 1)) F1 A1) ∧ (¬ r1 = 45 → CM l mX3_isAtMeasure 2 w nb [.ref 2] F1 A1 (qi fun r2 F2 A2 => ((r2 = 0 → Q (some (.int 0)) F2 A2) ∧ (¬ r2 = 0 → Q (some (.int 1)) F2 A2))))))) : CM l mX3_isAtTerm 3 w nb [.ref 2] F A Q := CM.ofZ (by decide) (fun _ _ => rfl) (fun _ _ => Nat.le_of_ble_eq_true rfl) (vX3_isAtTerm_0  h)
set_option maxHeartbeats 4000000 in
set_option maxRecDepth 100000 in
theorem vX4_admits_0 {l : Launch} {w : Nat → Nat} {nb : Nat} {Q : PM} {F A : MI} {c : Nat} (hc : c < 6) {i : Nat} (hi : i < nb) (h : CM l mX1_admits 2 w nb [.ref (w c), .ref (147 + 2 * i)] F A (qi fun r1 F1 A1 => ((r1 = 0 ∨ r1 = 1) ∧ Q (some (.int r1)) F1 A1))) : ZM l mX4_admits 3 w nb Q 0 [(0, .ref (38 + 14 * c)), (1, .ref (147 + 2 * i))] [] F A := by
  intro T G B hY
  refine z_aload_n dX4_admits_0 0 rfl rfl ?_
  refine z_getr (k := 3) (fc := 163) (r := (w c)) dX4_admits_1 ckX4 (by decide) fk_X4_24 rfl rfl (lat4 hY hc) (lwc hY hc) (tx_pos (ltx hY (Nat.lt_succ_of_lt hc))) ?_
  refine z_aload_n dX4_admits_4 1 rfl rfl ?_
  refine zm_Vi (As := [.ref (147 + 2 * i)]) (rest := []) dX4_admits_5 okX1_admits ioX1_admits mk_X4_52 (ci := 1) rfl (by decide) (lat1 hY (ltx hY (Nat.lt_succ_of_lt hc))) rfl rfl (Nat.le_of_ble_eq_true rfl) (by decide) hY (CM.monoi h fun r1 F1 A1 h => ?_)
  exact z_zretM dX4_admits_8 rfl h.1 h.2
theorem kX4_admits {l : Launch} {w : Nat → Nat} {nb : Nat} {Q : PM} {F A : MI} {c : Nat} (hc : c < 6) {i : Nat} (hi : i < nb) (h : CM l mX1_admits 2 w nb [.ref (w c), .ref (147 + 2 * i)] F A (qi fun r1 F1 A1 => ((r1 = 0 ∨ r1 = 1) ∧ Q (some (.int r1)) F1 A1))) : CM l mX4_admits 3 w nb [.ref (38 + 14 * c), .ref (147 + 2 * i)] F A Q := CM.ofZ (by decide) (fun _ _ => rfl) (fun _ _ => Nat.le_of_ble_eq_true rfl) (vX4_admits_0 hc hi h)
set_option maxHeartbeats 4000000 in
set_option maxRecDepth 100000 in
theorem vX4_cardBeasts_0 {l : Launch} {w : Nat → Nat} {nb : Nat} {Q : PM} {F A : MI} {c : Nat} (hc : c < 6) (h : ZM l mX4_cardBeasts 3 w nb Q 4 [(0, .ref (38 + 14 * c)), (1, .int 0), (2, .int 0)] [] F A) : ZM l mX4_cardBeasts 3 w nb Q 0 [(0, .ref (38 + 14 * c))] [] F A := by
  intro T G B hY
  refine z_iconst (v := 0) dX4_cardBeasts_0 rfl ?_
  refine z_istore_n (lv' := [(0, .ref (38 + 14 * c)), (1, .int 0)]) dX4_cardBeasts_1 rfl (by decide) rfl ?_
  refine z_iconst (v := 0) dX4_cardBeasts_2 rfl ?_
  refine z_istore_n (lv' := [(0, .ref (38 + 14 * c)), (1, .int 0), (2, .int 0)]) dX4_cardBeasts_3 rfl (by decide) rfl ?_
  exact z_pick [0, 1, 2] rfl (h T G B hY)
theorem kX4_cardBeasts {l : Launch} {w : Nat → Nat} {nb : Nat} {Q : PM} {F A : MI} {c : Nat} (hc : c < 6) (h : ZM l mX4_cardBeasts 3 w nb Q 4 [(0, .ref (38 + 14 * c)), (1, .int 0), (2, .int 0)] [] F A) : CM l mX4_cardBeasts 3 w nb [.ref (38 + 14 * c)] F A Q := CM.ofZ (by decide) (fun _ _ => rfl) (fun _ _ => Nat.le_of_ble_eq_true rfl) (vX4_cardBeasts_0 hc h)
set_option maxHeartbeats 4000000 in
set_option maxRecDepth 100000 in
theorem vX4_cardBeasts_4 {l : Launch} {w : Nat → Nat} {nb : Nat} {Q : PM} {x1 x2 : Int32} {F A : MI} {c : Nat} (hc : c < 6) (h : CM l mX4_cardLength 2 w nb [.ref (38 + 14 * c)] F A (qi fun r1 F1 A1 => ((r1 ≤ x2 → Q (some (.int x1)) F1 A1) ∧ (¬ r1 ≤ x2 → (vp_in x2 8 ∧ ZM l mX4_cardBeasts 3 w nb Q 4 [(0, .ref (38 + 14 * c)), (1, .int (x1 ||| (1 <<< ((A1 (38 + 14 * c + 12) x2.toNatClampNeg) &&& 31)))), (2, .int (x2 + 1))] [] F1 A1))))) : ZM l mX4_cardBeasts 3 w nb Q 4 [(0, .ref (38 + 14 * c)), (1, .int x1), (2, .int x2)] [] F A := by
  intro T G B hY
  refine z_iload_n dX4_cardBeasts_4 2 rfl rfl ?_
  refine z_aload_n dX4_cardBeasts_5 0 rfl rfl ?_
  refine zm_Vi (As := []) (rest := [.int x2]) dX4_cardBeasts_6 okX4_cardLength ioX4_cardLength mk_X4_68 (ci := 4) rfl (by decide) (lat4 hY hc) rfl rfl (Nat.le_of_ble_eq_true rfl) (by decide) hY (CM.monoi h fun r1 F1 A1 h => ?_)
  refine z_icmp_ge (tgt := 29) dX4_cardBeasts_9 (by decide) (fun hb => ?_) (fun hb => ?_)
  · have h := h.1 hb
    refine z_iload_n dX4_cardBeasts_29 1 rfl rfl ?_
    exact z_iretM dX4_cardBeasts_30 rfl h
  · have h := h.2 hb
    refine z_iload_n dX4_cardBeasts_12 1 rfl rfl ?_
    refine z_iconst (v := 1) dX4_cardBeasts_13 rfl ?_
    refine z_aload_n dX4_cardBeasts_14 0 rfl rfl ?_
    refine z_getr (k := 6) (fc := 166) (r := (38 + 14 * c + 12)) dX4_cardBeasts_15 ckX4 (by decide) fk_X4_37 rfl rfl (lat4 hY hc) (lggc hY 166 12 hc (by decide)) (by omega) ?_
    refine z_iload_n dX4_cardBeasts_18 2 rfl rfl ?_
    have hin2 := h.1
    have h := h.2
    refine z_iald' (n := 8) (x := (A1 (38 + 14 * c + 12) x2.toNatClampNeg)) dX4_cardBeasts_19 (latc hY hc 12 (by decide)) (llnc hY hc 12 (by decide)) hin2 rfl ?_
    refine z_ishl dX4_cardBeasts_20 ?_
    refine z_ior dX4_cardBeasts_21 ?_
    refine z_istore_n (lv' := [(0, .ref (38 + 14 * c)), (1, .int (x1 ||| (1 <<< ((A1 (38 + 14 * c + 12) x2.toNatClampNeg) &&& 31)))), (2, .int x2)]) dX4_cardBeasts_22 rfl (by decide) rfl ?_
    refine z_iinc (v := (x2 + 1)) (lv' := [(0, .ref (38 + 14 * c)), (1, .int (x1 ||| (1 <<< ((A1 (38 + 14 * c + 12) x2.toNatClampNeg) &&& 31)))), (2, .int (x2 + 1))]) dX4_cardBeasts_23 2 rfl rfl (by decide) rfl ?_
    refine z_goto (tgt := 4) dX4_cardBeasts_26 (by decide) ?_
    exact z_pick [0, 1, 2] rfl (h T G B hY)
set_option maxHeartbeats 4000000 in
set_option maxRecDepth 100000 in
theorem vX4_keepOrder_0 {l : Launch} {w : Nat → Nat} {nb : Nat} {Q : PM} {x1 : Int32} {F A : MI} {c : Nat} (hc : c < 6) (h : ZM l mX4_keepOrder 3 w nb Q 2 [(0, .ref (38 + 14 * c)), (1, .int x1), (2, .ref 2), (3, .int 0)] [] F A) : ZM l mX4_keepOrder 3 w nb Q 0 [(0, .ref (38 + 14 * c)), (1, .int x1), (2, .ref 2)] [] F A := by
  intro T G B hY
  refine z_iconst (v := 0) dX4_keepOrder_0 rfl ?_
  refine z_istore_n (lv' := [(0, .ref (38 + 14 * c)), (1, .int x1), (2, .ref 2), (3, .int 0)]) dX4_keepOrder_1 rfl (by decide) rfl ?_
  exact z_pick [0, 1, 2, 3] rfl (h T G B hY)
theorem kX4_keepOrder {l : Launch} {w : Nat → Nat} {nb : Nat} {Q : PM} {x1 : Int32} {F A : MI} {c : Nat} (hc : c < 6) (h : ZM l mX4_keepOrder 3 w nb Q 2 [(0, .ref (38 + 14 * c)), (1, .int x1), (2, .ref 2), (3, .int 0)] [] F A) : CM l mX4_keepOrder 3 w nb [.ref (38 + 14 * c), .int x1, .ref 2] F A Q := CM.ofZ (by decide) (fun _ _ => rfl) (fun _ _ => Nat.le_of_ble_eq_true rfl) (vX4_keepOrder_0 hc h)
set_option maxHeartbeats 4000000 in
set_option maxRecDepth 100000 in
theorem vX4_keepOrder_2 {l : Launch} {w : Nat → Nat} {nb : Nat} {Q : PM} {x1 x3 : Int32} {F A : MI} {c : Nat} (hc : c < 6) (h : (((F 161 (38 + 14 * c)) ≤ x3 → (vp_in x1 6 ∧ Q none F (u2 A (38 + 14 * c + 11) x1.toNatClampNeg (F 161 (38 + 14 * c))))) ∧ (¬ (F 161 (38 + 14 * c)) ≤ x3 → (vp_in x1 6 ∧ CM l mX5_byteAt 2 w nb [.ref 2, .int x3] F A (qi fun r3 F3 A3 => (vp_in x3 8 ∧ ZM l mX4_keepOrder 3 w nb Q 2 [(0, .ref (38 + 14 * c)), (1, .int x1), (2, .ref 2), (3, .int (x3 + 1))] [] F3 (u2 A3 (38 + 14 * c + 5 + x1.toNatClampNeg) x3.toNatClampNeg r3))))))) : ZM l mX4_keepOrder 3 w nb Q 2 [(0, .ref (38 + 14 * c)), (1, .int x1), (2, .ref 2), (3, .int x3)] [] F A := by
  intro T G B hY
  refine z_iload_n dX4_keepOrder_2 3 rfl rfl ?_
  refine z_aload_n dX4_keepOrder_3 0 rfl rfl ?_
  refine z_geti' (k := 1) (fc := 161) (x := (F 161 (38 + 14 * c))) dX4_keepOrder_4 ckX4 (by decide) fk_X4_15 rfl rfl (lat4 hY hc) rfl ?_
  refine z_icmp_ge (tgt := 29) dX4_keepOrder_7 (by decide) (fun hb => ?_) (fun hb => ?_)
  · have h := h.1 hb
    refine z_aload_n dX4_keepOrder_29 0 rfl rfl ?_
    refine z_getr (k := 5) (fc := 165) (r := (38 + 14 * c + 11)) dX4_keepOrder_30 ckX4 (by decide) fk_X4_33 rfl rfl (lat4 hY hc) (lggc hY 165 11 hc (by decide)) (by omega) ?_
    refine z_iload_n dX4_keepOrder_33 1 rfl rfl ?_
    refine z_aload_n dX4_keepOrder_34 0 rfl rfl ?_
    refine z_geti' (k := 1) (fc := 161) (x := (F 161 (38 + 14 * c))) dX4_keepOrder_35 ckX4 (by decide) fk_X4_15 rfl rfl (lat4 hY hc) rfl ?_
    have hin1 := h.1
    have h := h.2
    refine z_iast' (n := 6) dX4_keepOrder_38 (latc hY hc 11 (by decide)) (llnc hY hc 11 (by decide)) hin1 ?_
    exact z_vretM dX4_keepOrder_39 rfl h
  · have h := h.2 hb
    refine z_aload_n dX4_keepOrder_10 0 rfl rfl ?_
    refine z_getr (k := 4) (fc := 164) (r := (38 + 14 * c + 4)) dX4_keepOrder_11 ckX4 (by decide) fk_X4_30 rfl rfl (lat4 hY hc) (lggc hY 164 4 hc (by decide)) (by omega) ?_
    refine z_iload_n dX4_keepOrder_14 1 rfl rfl ?_
    have hin2 := h.1
    have h := h.2
    refine z_aald' (ci := 13) (n := 6) (r := (38 + 14 * c + 5 + x1.toNatClampNeg)) dX4_keepOrder_15 (latc hY hc 4 (by decide)) (by decide) (llnc hY hc 4 (by decide)) hin2 (lbbc hY hc (vin hin2)) (by omega) ?_
    refine z_iload_n dX4_keepOrder_16 3 rfl rfl ?_
    refine z_aload_n dX4_keepOrder_17 2 rfl rfl ?_
    refine z_iload_n dX4_keepOrder_18 3 rfl rfl ?_
    refine zm_Vi (As := [.int x3]) (rest := [.int x3, .ref (38 + 14 * c + 5 + x1.toNatClampNeg)]) dX4_keepOrder_19 okX5_byteAt ioX5_byteAt mk_X4_56 (ci := 5) rfl (by decide) (lat hY rfl) rfl rfl (Nat.le_of_ble_eq_true rfl) (by decide) hY (CM.monoi h fun r3 F3 A3 h => ?_)
    have hin4 := h.1
    have h := h.2
    refine z_iast' (n := 8) dX4_keepOrder_22 (lat43 hY hc (vin hin2)) (lln43 hY hc (vin hin2)) hin4 ?_
    refine z_iinc (v := (x3 + 1)) (lv' := [(0, .ref (38 + 14 * c)), (1, .int x1), (2, .ref 2), (3, .int (x3 + 1))]) dX4_keepOrder_23 3 rfl rfl (by decide) rfl ?_
    refine z_goto (tgt := 2) dX4_keepOrder_26 (by decide) ?_
    exact z_pick [0, 1, 2, 3] rfl (h T G B hY)
set_option maxHeartbeats 4000000 in
set_option maxRecDepth 100000 in
theorem vX4_scoreCard_0 {l : Launch} {w : Nat → Nat} {nb : Nat} {Q : PM} {F A : MI} {c : Nat} (hc : c < 6) (h : ZM l mX4_scoreCard 3 w nb Q 5 [(0, .ref (38 + 14 * c)), (1, .ref 2), (2, .int 50), (3, .int 0)] [] F A) : ZM l mX4_scoreCard 3 w nb Q 0 [(0, .ref (38 + 14 * c)), (1, .ref 2)] [] F A := by
  intro T G B hY
  refine z_bipush (v := 50) dX4_scoreCard_0 rfl ?_
  refine z_istore_n (lv' := [(0, .ref (38 + 14 * c)), (1, .ref 2), (2, .int 50)]) dX4_scoreCard_2 rfl (by decide) rfl ?_
  refine z_iconst (v := 0) dX4_scoreCard_3 rfl ?_
  refine z_istore_n (lv' := [(0, .ref (38 + 14 * c)), (1, .ref 2), (2, .int 50), (3, .int 0)]) dX4_scoreCard_4 rfl (by decide) rfl ?_
  exact z_pick [0, 1, 2, 3] rfl (h T G B hY)
theorem kX4_scoreCard {l : Launch} {w : Nat → Nat} {nb : Nat} {Q : PM} {F A : MI} {c : Nat} (hc : c < 6) (h : ZM l mX4_scoreCard 3 w nb Q 5 [(0, .ref (38 + 14 * c)), (1, .ref 2), (2, .int 50), (3, .int 0)] [] F A) : CM l mX4_scoreCard 3 w nb [.ref (38 + 14 * c), .ref 2] F A Q := CM.ofZ (by decide) (fun _ _ => rfl) (fun _ _ => Nat.le_of_ble_eq_true rfl) (vX4_scoreCard_0 hc h)
set_option maxHeartbeats 4000000 in
set_option maxRecDepth 100000 in
theorem vX4_scoreCard_5 {l : Launch} {w : Nat → Nat} {nb : Nat} {Q : PM} {x2 x3 : Int32} {F A : MI} {c : Nat} (hc : c < 6) (h : CM l mX4_cardLength 2 w nb [.ref (38 + 14 * c)] F A (qi fun r1 F1 A1 => ((r1 ≤ x3 → Q (some (.int (if x2 < 0 then 0 else x2))) F1 A1) ∧ (¬ r1 ≤ x3 → ZM l mX4_scoreCard 3 w nb Q 18 [(0, .ref (38 + 14 * c)), (1, .ref 2), (2, .int x2), (3, .int x3), (4, .int (x3 + 1))] [] F1 A1)))) : ZM l mX4_scoreCard 3 w nb Q 5 [(0, .ref (38 + 14 * c)), (1, .ref 2), (2, .int x2), (3, .int x3)] [] F A := by
  intro T G B hY
  refine z_iload_n dX4_scoreCard_5 3 rfl rfl ?_
  refine z_aload_n dX4_scoreCard_6 0 rfl rfl ?_
  refine zm_Vi (As := []) (rest := [.int x3]) dX4_scoreCard_7 okX4_cardLength ioX4_cardLength mk_X4_68 (ci := 4) rfl (by decide) (lat4 hY hc) rfl rfl (Nat.le_of_ble_eq_true rfl) (by decide) hY (CM.monoi h fun r1 F1 A1 h => ?_)
  refine z_icmp_ge (tgt := 65) dX4_scoreCard_10 (by decide) (fun hb => ?_) (fun hb => ?_)
  · have h := h.1 hb
    refine z_iload_n dX4_scoreCard_65 2 rfl rfl ?_
    refine z_iconst (v := 0) dX4_scoreCard_66 rfl ?_
    refine z_mmax dX4_scoreCard_67 mk_X4_78 (by decide) (Nat.le_of_ble_eq_true rfl) ?_
    exact z_iretM dX4_scoreCard_70 rfl h
  · have h := h.2 hb
    refine z_iload_n dX4_scoreCard_13 3 rfl rfl ?_
    refine z_iconst (v := 1) dX4_scoreCard_14 rfl ?_
    refine z_iadd dX4_scoreCard_15 ?_
    refine z_istore (lv' := [(0, .ref (38 + 14 * c)), (1, .ref 2), (2, .int x2), (3, .int x3), (4, .int (x3 + 1))]) dX4_scoreCard_16 (by decide) rfl ?_
    exact z_pick [0, 1, 2, 3, 4] rfl (h T G B hY)
set_option maxHeartbeats 4000000 in
set_option maxRecDepth 100000 in
theorem vX4_scoreCard_18 {l : Launch} {w : Nat → Nat} {nb : Nat} {Q : PM} {x2 x3 x4 : Int32} {F A : MI} {c : Nat} (hc : c < 6) (h : CM l mX4_cardLength 2 w nb [.ref (38 + 14 * c)] F A (qi fun r1 F1 A1 => ((r1 ≤ x4 → ZM l mX4_scoreCard 3 w nb Q 5 [(0, .ref (38 + 14 * c)), (1, .ref 2), (2, .int x2), (3, .int (x3 + 1))] [] F1 A1) ∧ (¬ r1 ≤ x4 → CM l mX5_byteAt 2 w nb [.ref 2, .int x4] F1 A1 (qi fun r2 F2 A2 => CM l mX4_placeOf 1 w nb [.ref (38 + 14 * c), .int r2] F2 A2 (qi fun r3 F3 A3 => CM l mX5_byteAt 2 w nb [.ref 2, .int x3] F3 A3 (qi fun r4 F4 A4 => CM l mX4_placeOf 1 w nb [.ref (38 + 14 * c), .int r4] F4 A4 (qi fun r5 F5 A5 => CM l mX4_cutsBetween 2 w nb [.ref (38 + 14 * c), .int r3, .int r5] F5 A5 (qi fun r6 F6 A6 => ZM l mX4_scoreCard 3 w nb Q 18 [(0, .ref (38 + 14 * c)), (1, .ref 2), (2, .int (x2 - r6)), (3, .int x3), (4, .int (x4 + 1))] [] F6 A6))))))))) : ZM l mX4_scoreCard 3 w nb Q 18 [(0, .ref (38 + 14 * c)), (1, .ref 2), (2, .int x2), (3, .int x3), (4, .int x4)] [] F A := by
  intro T G B hY
  refine z_iload dX4_scoreCard_18 4 rfl ?_
  refine z_aload_n dX4_scoreCard_20 0 rfl rfl ?_
  refine zm_Vi (As := []) (rest := [.int x4]) dX4_scoreCard_21 okX4_cardLength ioX4_cardLength mk_X4_68 (ci := 4) rfl (by decide) (lat4 hY hc) rfl rfl (Nat.le_of_ble_eq_true rfl) (by decide) hY (CM.monoi h fun r1 F1 A1 h => ?_)
  refine z_icmp_ge (tgt := 59) dX4_scoreCard_24 (by decide) (fun hb => ?_) (fun hb => ?_)
  · have h := h.1 hb
    refine z_iinc (v := (x3 + 1)) (lv' := [(0, .ref (38 + 14 * c)), (1, .ref 2), (2, .int x2), (3, .int (x3 + 1)), (4, .int x4)]) dX4_scoreCard_59 3 rfl rfl (by decide) rfl ?_
    refine z_goto (tgt := 5) dX4_scoreCard_62 (by decide) ?_
    exact z_pick [0, 1, 2, 3] rfl (h T G B hY)
  · have h := h.2 hb
    refine z_iload_n dX4_scoreCard_27 2 rfl rfl ?_
    refine z_aload_n dX4_scoreCard_28 0 rfl rfl ?_
    refine z_aload_n dX4_scoreCard_29 0 rfl rfl ?_
    refine z_aload_n dX4_scoreCard_30 1 rfl rfl ?_
    refine z_iload dX4_scoreCard_31 4 rfl ?_
    refine zm_Vi (As := [.int x4]) (rest := [.ref (38 + 14 * c), .ref (38 + 14 * c), .int x2]) dX4_scoreCard_33 okX5_byteAt ioX5_byteAt mk_X4_56 (ci := 5) rfl (by decide) (lat hY rfl) rfl rfl (Nat.le_of_ble_eq_true rfl) (by decide) hY (CM.monoi h fun r2 F2 A2 h => ?_)
    refine zm_Vi (As := [.int r2]) (rest := [.ref (38 + 14 * c), .int x2]) dX4_scoreCard_36 okX4_placeOf ioX4_placeOf mk_X4_72 (ci := 4) rfl (by decide) (lat4 hY hc) rfl rfl (Nat.le_of_ble_eq_true rfl) (by decide) hY (CM.monoi h fun r3 F3 A3 h => ?_)
    refine z_aload_n dX4_scoreCard_39 0 rfl rfl ?_
    refine z_aload_n dX4_scoreCard_40 1 rfl rfl ?_
    refine z_iload_n dX4_scoreCard_41 3 rfl rfl ?_
    refine zm_Vi (As := [.int x3]) (rest := [.ref (38 + 14 * c), .int r3, .ref (38 + 14 * c), .int x2]) dX4_scoreCard_42 okX5_byteAt ioX5_byteAt mk_X4_56 (ci := 5) rfl (by decide) (lat hY rfl) rfl rfl (Nat.le_of_ble_eq_true rfl) (by decide) hY (CM.monoi h fun r4 F4 A4 h => ?_)
    refine zm_Vi (As := [.int r4]) (rest := [.int r3, .ref (38 + 14 * c), .int x2]) dX4_scoreCard_45 okX4_placeOf ioX4_placeOf mk_X4_72 (ci := 4) rfl (by decide) (lat4 hY hc) rfl rfl (Nat.le_of_ble_eq_true rfl) (by decide) hY (CM.monoi h fun r5 F5 A5 h => ?_)
    refine zm_Vi (As := [.int r3, .int r5]) (rest := [.int x2]) dX4_scoreCard_48 okX4_cutsBetween ioX4_cutsBetween mk_X4_75 (ci := 4) rfl (by decide) (lat4 hY hc) rfl rfl (Nat.le_of_ble_eq_true rfl) (by decide) hY (CM.monoi h fun r6 F6 A6 h => ?_)
    refine z_isub dX4_scoreCard_51 ?_
    refine z_istore_n (lv' := [(0, .ref (38 + 14 * c)), (1, .ref 2), (2, .int (x2 - r6)), (3, .int x3), (4, .int x4)]) dX4_scoreCard_52 rfl (by decide) rfl ?_
    refine z_iinc (v := (x4 + 1)) (lv' := [(0, .ref (38 + 14 * c)), (1, .ref 2), (2, .int (x2 - r6)), (3, .int x3), (4, .int (x4 + 1))]) dX4_scoreCard_53 4 rfl rfl (by decide) rfl ?_
    refine z_goto (tgt := 18) dX4_scoreCard_56 (by decide) ?_
    exact z_pick [0, 1, 2, 3, 4] rfl (h T G B hY)
set_option maxHeartbeats 4000000 in
set_option maxRecDepth 100000 in
theorem vX5_clear_0 {l : Launch} {w : Nat → Nat} {nb : Nat} {Q : PM} {F A : MI}  (h : CM l mX5_startReading 2 w nb [.ref 2, .int 0] (u2 F 201 2 0) A (qv fun F1 A1 => Q none F1 A1)) : ZM l mX5_clear 3 w nb Q 0 [(0, .ref 2)] [] F A := by
  intro T G B hY
  refine z_aload_n dX5_clear_0 0 rfl rfl ?_
  refine z_iconst (v := 0) dX5_clear_1 rfl ?_
  refine z_puti (k := 1) (fc := 201) dX5_clear_2 ckX5 (by decide) fk_X5_15 rfl rfl rfl (lat hY rfl) ?_
  refine z_aload_n dX5_clear_5 0 rfl rfl ?_
  refine z_iconst (v := 0) dX5_clear_6 rfl ?_
  refine zm_Vv (As := [.int 0]) (rest := []) dX5_clear_7 okX5_startReading ioX5_startReading mk_X5_25 (ci := 5) rfl (by decide) (lat hY rfl) rfl rfl (Nat.le_of_ble_eq_true rfl) (by decide) hY (CM.monov h fun F1 A1 h => ?_)
  exact z_vretM dX5_clear_10 rfl h
theorem kX5_clear {l : Launch} {w : Nat → Nat} {nb : Nat} {Q : PM} {F A : MI}  (h : CM l mX5_startReading 2 w nb [.ref 2, .int 0] (u2 F 201 2 0) A (qv fun F1 A1 => Q none F1 A1)) : CM l mX5_clear 3 w nb [.ref 2] F A Q := CM.ofZ (by decide) (fun _ _ => rfl) (fun _ _ => Nat.le_of_ble_eq_true rfl) (vX5_clear_0  h)
set_option maxHeartbeats 4000000 in
set_option maxRecDepth 100000 in
theorem vX5_namesEachOf_0 {l : Launch} {w : Nat → Nat} {nb : Nat} {Q : PM} {x1 : Int32} {F A : MI}  (h : CM l mJ6_bitCount_0f7a4 1 w nb [.int x1] F A (qi fun r1 F1 A1 => ZM l mX5_namesEachOf 3 w nb Q 10 [(0, .ref 2), (2, .int x1), (3, .int r1), (4, .int 0)] [] F1 A1)) : ZM l mX5_namesEachOf 3 w nb Q 0 [(0, .ref 2), (1, .int x1)] [] F A := by
  intro T G B hY
  refine z_iload_n dX5_namesEachOf_0 1 rfl rfl ?_
  refine z_istore_n (lv' := [(0, .ref 2), (1, .int x1), (2, .int x1)]) dX5_namesEachOf_1 rfl (by decide) rfl ?_
  refine z_iload_n dX5_namesEachOf_2 1 rfl rfl ?_
  refine zm_Si (As := [.int x1]) (rest := []) dX5_namesEachOf_3 okJ6_bitCount_0f7a4 smJ6_bitCount_0f7a4 mk_X5_33 rfl rfl (Nat.le_of_ble_eq_true rfl) (by decide) hY (CM.monoi h fun r1 F1 A1 h => ?_)
  refine z_istore_n (lv' := [(0, .ref 2), (1, .int x1), (2, .int x1), (3, .int r1)]) dX5_namesEachOf_6 rfl (by decide) rfl ?_
  refine z_iconst (v := 0) dX5_namesEachOf_7 rfl ?_
  refine z_istore (lv' := [(0, .ref 2), (1, .int x1), (2, .int x1), (3, .int r1), (4, .int 0)]) dX5_namesEachOf_8 (by decide) rfl ?_
  exact z_pick [0, 2, 3, 4] rfl (h T G B hY)
theorem kX5_namesEachOf {l : Launch} {w : Nat → Nat} {nb : Nat} {Q : PM} {x1 : Int32} {F A : MI}  (h : CM l mJ6_bitCount_0f7a4 1 w nb [.int x1] F A (qi fun r1 F1 A1 => ZM l mX5_namesEachOf 3 w nb Q 10 [(0, .ref 2), (2, .int x1), (3, .int r1), (4, .int 0)] [] F1 A1)) : CM l mX5_namesEachOf 3 w nb [.ref 2, .int x1] F A Q := CM.ofZ (by decide) (fun _ _ => rfl) (fun _ _ => Nat.le_of_ble_eq_true rfl) (vX5_namesEachOf_0  h)
set_option maxHeartbeats 4000000 in
set_option maxRecDepth 100000 in
theorem vX5_namesEachOf_10 {l : Launch} {w : Nat → Nat} {nb : Nat} {Q : PM} {x2 x3 x4 : Int32} {F A : MI}  (h : ((x3 ≤ x4 → Q (some (.int 1)) F A) ∧ (¬ x3 ≤ x4 → CM l mX5_byteAt 2 w nb [.ref 2, .int x4] F A (qi fun r1 F1 A1 => CM l mX7_isBelow 1 w nb [.int r1, .int 20] F1 A1 (qi fun r2 F2 A2 => ((r2 = 0 → Q (some (.int 0)) F2 A2) ∧ (¬ r2 = 0 → ((¬ (x2 &&& (1 <<< (r1 &&& 31))) = 0 → ZM l mX5_namesEachOf 3 w nb Q 10 [(0, .ref 2), (2, .int (x2 &&& ((1 <<< (r1 &&& 31)) ^^^ (-1)))), (3, .int x3), (4, .int (x4 + 1))] [] F2 A2) ∧ ((x2 &&& (1 <<< (r1 &&& 31))) = 0 → Q (some (.int 0)) F2 A2))))))))) : ZM l mX5_namesEachOf 3 w nb Q 10 [(0, .ref 2), (2, .int x2), (3, .int x3), (4, .int x4)] [] F A := by
  intro T G B hY
  refine z_iload dX5_namesEachOf_10 3 rfl ?_
  refine z_iload_n dX5_namesEachOf_12 2 rfl rfl ?_
  refine z_icmp_ge (tgt := 60) dX5_namesEachOf_13 (by decide) (fun hb => ?_) (fun hb => ?_)
  · have h := h.1 hb
    refine z_iconst (v := 1) dX5_namesEachOf_60 rfl ?_
    exact z_zretM dX5_namesEachOf_61 rfl (by decide) h
  · have h := h.2 hb
    refine z_aload_n dX5_namesEachOf_16 0 rfl rfl ?_
    refine z_iload dX5_namesEachOf_17 3 rfl ?_
    refine zm_Vi (As := [.int x4]) (rest := []) dX5_namesEachOf_19 okX5_byteAt ioX5_byteAt mk_X5_39 (ci := 5) rfl (by decide) (lat hY rfl) rfl rfl (Nat.le_of_ble_eq_true rfl) (by decide) hY (CM.monoi h fun r1 F1 A1 h => ?_)
    refine z_istore (lv' := [(0, .ref 2), (2, .int x2), (3, .int x3), (4, .int x4), (5, .int r1)]) dX5_namesEachOf_22 (by decide) rfl ?_
    refine z_iload dX5_namesEachOf_24 4 rfl ?_
    refine z_bipush (v := 20) dX5_namesEachOf_26 rfl ?_
    refine zm_SNi (As := [.int r1, .int 20]) (rest := []) dX5_namesEachOf_28 okX7_isBelow smX7_isBelow (by decide) rfl rfl (Nat.le_of_ble_eq_true rfl) (by decide) hY (CM.monoi h fun r2 F2 A2 h => ?_)
    refine z_if_eq (tgt := 43) dX5_namesEachOf_31 (by decide) (fun hb => ?_) (fun hb => ?_)
    · have h := h.1 hb
      refine z_iconst (v := 0) dX5_namesEachOf_43 rfl ?_
      exact z_zretM dX5_namesEachOf_44 rfl (by decide) h
    · have h := h.2 hb
      refine z_iload_n dX5_namesEachOf_34 1 rfl rfl ?_
      refine z_iconst (v := 1) dX5_namesEachOf_35 rfl ?_
      refine z_iload dX5_namesEachOf_36 4 rfl ?_
      refine z_ishl dX5_namesEachOf_38 ?_
      refine z_iand dX5_namesEachOf_39 ?_
      refine z_if_ne (tgt := 45) dX5_namesEachOf_40 (by decide) (fun hb => ?_) (fun hb => ?_)
      · have h := h.1 hb
        refine z_iload_n dX5_namesEachOf_45 1 rfl rfl ?_
        refine z_iconst (v := 1) dX5_namesEachOf_46 rfl ?_
        refine z_iload dX5_namesEachOf_47 4 rfl ?_
        refine z_ishl dX5_namesEachOf_49 ?_
        refine z_iconst (v := (-1)) dX5_namesEachOf_50 rfl ?_
        refine z_ixor dX5_namesEachOf_51 ?_
        refine z_iand dX5_namesEachOf_52 ?_
        refine z_istore_n (lv' := [(0, .ref 2), (2, .int (x2 &&& ((1 <<< (r1 &&& 31)) ^^^ (-1)))), (3, .int x3), (4, .int x4), (5, .int r1)]) dX5_namesEachOf_53 rfl (by decide) rfl ?_
        refine z_iinc (v := (x4 + 1)) (lv' := [(0, .ref 2), (2, .int (x2 &&& ((1 <<< (r1 &&& 31)) ^^^ (-1)))), (3, .int x3), (4, .int (x4 + 1)), (5, .int r1)]) dX5_namesEachOf_54 3 rfl rfl (by decide) rfl ?_
        refine z_goto (tgt := 10) dX5_namesEachOf_57 (by decide) ?_
        exact z_pick [0, 1, 2, 3] rfl (h T G B hY)
      · have h := h.2 hb
        refine z_iconst (v := 0) dX5_namesEachOf_43 rfl ?_
        exact z_zretM dX5_namesEachOf_44 rfl (by decide) h
