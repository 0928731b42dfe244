set_option maxHeartbeats 4000000 in
set_option maxRecDepth 100000 in
theorem vX5_readNumber_0 {l : Launch} {w : Nat → Nat} {nb : Nat} {Q : PM} {F A : MI}  (h : CM l mX5_isAtDigit 2 w nb [.ref 2] F A (qi fun r1 F1 A1 => ((¬ r1 = 0 → ZM l mX5_readNumber 3 w nb Q 13 [(0, .ref 2), (1, .int 0), (2, .int 0)] [] F1 A1) ∧ (r1 = 0 → Q (some (.int (-1))) F1 A1)))) : ZM l mX5_readNumber 3 w nb Q 0 [(0, .ref 2)] [] F A := by
  intro T G B hY
  refine z_aload_n dX5_readNumber_0 0 rfl rfl ?_
  refine zm_Vi (As := []) (rest := []) dX5_readNumber_1 okX5_isAtDigit ioX5_isAtDigit mk_X5_53 (ci := 5) rfl (by decide) (lat hY rfl) rfl rfl (Nat.le_of_ble_eq_true rfl) (by decide) hY (CM.monoi h fun r1 F1 A1 h => ?_)
  refine z_if_ne (tgt := 9) dX5_readNumber_4 (by decide) (fun hb => ?_) (fun hb => ?_)
  · have h := h.1 hb
    refine z_iconst (v := 0) dX5_readNumber_9 rfl ?_
    refine z_istore_n (lv' := [(0, .ref 2), (1, .int 0)]) dX5_readNumber_10 rfl (by decide) rfl ?_
    refine z_iconst (v := 0) dX5_readNumber_11 rfl ?_
    refine z_istore_n (lv' := [(0, .ref 2), (1, .int 0), (2, .int 0)]) dX5_readNumber_12 rfl (by decide) rfl ?_
    exact z_pick [0, 1, 2] rfl (h T G B hY)
  · have h := h.2 hb
    refine z_iconst (v := (-1)) dX5_readNumber_7 rfl ?_
    exact z_iretM dX5_readNumber_8 rfl h
theorem kX5_readNumber {l : Launch} {w : Nat → Nat} {nb : Nat} {Q : PM} {F A : MI}  (h : CM l mX5_isAtDigit 2 w nb [.ref 2] F A (qi fun r1 F1 A1 => ((¬ r1 = 0 → ZM l mX5_readNumber 3 w nb Q 13 [(0, .ref 2), (1, .int 0), (2, .int 0)] [] F1 A1) ∧ (r1 = 0 → Q (some (.int (-1))) F1 A1)))) : CM l mX5_readNumber 3 w nb [.ref 2] F A Q := CM.ofZ (by decide) (fun _ _ => rfl) (fun _ _ => Nat.le_of_ble_eq_true rfl) (vX5_readNumber_0  h)
set_option maxHeartbeats 4000000 in
set_option maxRecDepth 100000 in
theorem vX5_readNumber_13 {l : Launch} {w : Nat → Nat} {nb : Nat} {Q : PM} {x1 x2 : Int32} {F A : MI}  (h : ((4 ≤ x2 → Q (some (.int x1)) F A) ∧ (¬ 4 ≤ x2 → CM l mX5_isAtDigit 2 w nb [.ref 2] F A (qi fun r1 F1 A1 => ((r1 = 0 → Q (some (.int x1)) F1 A1) ∧ (¬ r1 = 0 → CM l mX5_peek 1 w nb [.ref 2] F1 A1 (qi fun r2 F2 A2 => CM l mX5_skip 1 w nb [.ref 2] F2 A2 (qv fun F3 A3 => ZM l mX5_readNumber 3 w nb Q 13 [(0, .ref 2), (1, .int (((x1 * 10) + r2) - 48)), (2, .int (x2 + 1))] [] F3 A3)))))))) : ZM l mX5_readNumber 3 w nb Q 13 [(0, .ref 2), (1, .int x1), (2, .int x2)] [] F A := by
  intro T G B hY
  refine z_iload_n dX5_readNumber_13 2 rfl rfl ?_
  refine z_iconst (v := 4) dX5_readNumber_14 rfl ?_
  refine z_icmp_ge (tgt := 48) dX5_readNumber_15 (by decide) (fun hb => ?_) (fun hb => ?_)
  · have h := h.1 hb
    refine z_iload_n dX5_readNumber_48 1 rfl rfl ?_
    exact z_iretM dX5_readNumber_49 rfl h
  · have h := h.2 hb
    refine z_aload_n dX5_readNumber_18 0 rfl rfl ?_
    refine zm_Vi (As := []) (rest := []) dX5_readNumber_19 okX5_isAtDigit ioX5_isAtDigit mk_X5_53 (ci := 5) rfl (by decide) (lat hY rfl) rfl rfl (Nat.le_of_ble_eq_true rfl) (by decide) hY (CM.monoi h fun r1 F1 A1 h => ?_)
    refine z_if_eq (tgt := 48) dX5_readNumber_22 (by decide) (fun hb => ?_) (fun hb => ?_)
    · have h := h.1 hb
      refine z_iload_n dX5_readNumber_48 1 rfl rfl ?_
      exact z_iretM dX5_readNumber_49 rfl h
    · have h := h.2 hb
      refine z_iload_n dX5_readNumber_25 1 rfl rfl ?_
      refine z_bipush (v := 10) dX5_readNumber_26 rfl ?_
      refine z_imul dX5_readNumber_28 ?_
      refine z_aload_n dX5_readNumber_29 0 rfl rfl ?_
      refine zm_Vi (As := []) (rest := [.int (x1 * 10)]) dX5_readNumber_30 okX5_peek ioX5_peek mk_X5_46 (ci := 5) rfl (by decide) (lat hY rfl) rfl rfl (Nat.le_of_ble_eq_true rfl) (by decide) hY (CM.monoi h fun r2 F2 A2 h => ?_)
      refine z_iadd dX5_readNumber_33 ?_
      refine z_bipush (v := 48) dX5_readNumber_34 rfl ?_
      refine z_isub dX5_readNumber_36 ?_
      refine z_istore_n (lv' := [(0, .ref 2), (1, .int (((x1 * 10) + r2) - 48)), (2, .int x2)]) dX5_readNumber_37 rfl (by decide) rfl ?_
      refine z_aload_n dX5_readNumber_38 0 rfl rfl ?_
      refine zm_Vv (As := []) (rest := []) dX5_readNumber_39 okX5_skip ioX5_skip mk_X5_50 (ci := 5) rfl (by decide) (lat hY rfl) rfl rfl (Nat.le_of_ble_eq_true rfl) (by decide) hY (CM.monov h fun F3 A3 h => ?_)
      refine z_iinc (v := (x2 + 1)) (lv' := [(0, .ref 2), (1, .int (((x1 * 10) + r2) - 48)), (2, .int (x2 + 1))]) dX5_readNumber_42 2 rfl rfl (by decide) rfl ?_
      refine z_goto (tgt := 13) dX5_readNumber_45 (by decide) ?_
      exact z_pick [0, 1, 2] rfl (h T G B hY)
set_option maxHeartbeats 4000000 in
set_option maxRecDepth 100000 in
theorem vX7_bar_0 {l : Launch} {w : Nat → Nat} {nb : Nat} {Q : PM} {x1 x2 : Int32} {F A : MI}  (h : CM l mX7_isBelow 1 w nb [.int x1, .int 6] F A (qi fun r1 F1 A1 => ((r1 = 0 → Q (some (.int 0)) F1 A1) ∧ (¬ r1 = 0 → CM l mX7_beastAt 2 w nb [.ref 1, .int x2] F1 A1 (qb nb (fun F2 A2 => Q (some (.int 0)) F2 A2) (fun c2 F2 A2 => (vp_in x1 6 ∧ ((((A2 6 x1.toNatClampNeg) &&& (1 <<< (x2 &&& 31))) = 0 → (vp_in x1 6 ∧ (vp_in x1 6 ∧ Q (some (.int 1)) F2 (u2 A2 6 x1.toNatClampNeg ((A2 6 x1.toNatClampNeg) ||| (1 <<< (x2 &&& 31))))))) ∧ (¬ ((A2 6 x1.toNatClampNeg) &&& (1 <<< (x2 &&& 31))) = 0 → Q (some (.int 0)) F2 A2))))))))) : ZM l mX7_bar 3 w nb Q 0 [(0, .ref 1), (1, .int x1), (2, .int x2)] [] F A := by
  intro T G B hY
  refine z_iload_n dX7_bar_0 1 rfl rfl ?_
  refine z_bipush (v := 6) dX7_bar_1 rfl ?_
  refine zm_Si (As := [.int x1, .int 6]) (rest := []) dX7_bar_3 okX7_isBelow smX7_isBelow mk_X7_102 rfl rfl (Nat.le_of_ble_eq_true rfl) (by decide) hY (CM.monoi h fun r1 F1 A1 h => ?_)
  refine z_if_eq (tgt := 30) dX7_bar_6 (by decide) (fun hb => ?_) (fun hb => ?_)
  · have h := h.1 hb
    refine z_iconst (v := 0) dX7_bar_30 rfl ?_
    exact z_zretM dX7_bar_31 rfl (by decide) h
  · have h := h.2 hb
    refine z_aload_n dX7_bar_9 0 rfl rfl ?_
    refine z_iload_n dX7_bar_10 2 rfl rfl ?_
    refine zm_Vb (As := [.int x2]) (rest := []) dX7_bar_11 okX7_beastAt ioX7_beastAt mk_X7_109 (ci := 7) rfl (by decide) (lat hY rfl) rfl rfl (Nat.le_of_ble_eq_true rfl) (by decide) hY (CM.monob h (fun F2 A2 h => ?_) (fun c2 F2 A2 hc2 h => ?_))
    · skip
      refine z_ifnullN (tgt := 30) dX7_bar_14 (by decide) ?_
      refine z_iconst (v := 0) dX7_bar_30 rfl ?_
      exact z_zretM dX7_bar_31 rfl (by decide) h
    · skip
      refine z_ifnull dX7_bar_14 ?_
      refine z_aload_n dX7_bar_17 0 rfl rfl ?_
      refine z_getr (k := 3) (fc := 283) (r := 6) dX7_bar_18 ckX7 (by decide) fk_X7_28 rfl rfl (lat hY rfl) (lgg hY rfl) (by decide) ?_
      refine z_iload_n dX7_bar_21 1 rfl rfl ?_
      have hin3 := h.1
      have h := h.2
      refine z_iald' (n := 6) (x := (A2 6 x1.toNatClampNeg)) dX7_bar_22 (lat hY rfl) (lln hY rfl) hin3 rfl ?_
      refine z_iconst (v := 1) dX7_bar_23 rfl ?_
      refine z_iload_n dX7_bar_24 2 rfl rfl ?_
      refine z_ishl dX7_bar_25 ?_
      refine z_iand dX7_bar_26 ?_
      refine z_if_eq (tgt := 32) dX7_bar_27 (by decide) (fun hb => ?_) (fun hb => ?_)
      · have h := h.1 hb
        refine z_aload_n dX7_bar_32 0 rfl rfl ?_
        refine z_getr (k := 3) (fc := 283) (r := 6) dX7_bar_33 ckX7 (by decide) fk_X7_28 rfl rfl (lat hY rfl) (lgg hY rfl) (by decide) ?_
        refine z_iload_n dX7_bar_36 1 rfl rfl ?_
        refine z_dup2 dX7_bar_37 ?_
        have hin4 := h.1
        have h := h.2
        refine z_iald' (n := 6) (x := (A2 6 x1.toNatClampNeg)) dX7_bar_38 (lat hY rfl) (lln hY rfl) hin4 rfl ?_
        refine z_iconst (v := 1) dX7_bar_39 rfl ?_
        refine z_iload_n dX7_bar_40 2 rfl rfl ?_
        refine z_ishl dX7_bar_41 ?_
        refine z_ior dX7_bar_42 ?_
        have hin5 := h.1
        have h := h.2
        refine z_iast' (n := 6) dX7_bar_43 (lat hY rfl) (lln hY rfl) hin5 ?_
        refine z_iconst (v := 1) dX7_bar_44 rfl ?_
        exact z_zretM dX7_bar_45 rfl (by decide) h
      · have h := h.2 hb
        refine z_iconst (v := 0) dX7_bar_30 rfl ?_
        exact z_zretM dX7_bar_31 rfl (by decide) h
theorem kX7_bar {l : Launch} {w : Nat → Nat} {nb : Nat} {Q : PM} {x1 x2 : Int32} {F A : MI}  (h : CM l mX7_isBelow 1 w nb [.int x1, .int 6] F A (qi fun r1 F1 A1 => ((r1 = 0 → Q (some (.int 0)) F1 A1) ∧ (¬ r1 = 0 → CM l mX7_beastAt 2 w nb [.ref 1, .int x2] F1 A1 (qb nb (fun F2 A2 => Q (some (.int 0)) F2 A2) (fun c2 F2 A2 => (vp_in x1 6 ∧ ((((A2 6 x1.toNatClampNeg) &&& (1 <<< (x2 &&& 31))) = 0 → (vp_in x1 6 ∧ (vp_in x1 6 ∧ Q (some (.int 1)) F2 (u2 A2 6 x1.toNatClampNeg ((A2 6 x1.toNatClampNeg) ||| (1 <<< (x2 &&& 31))))))) ∧ (¬ ((A2 6 x1.toNatClampNeg) &&& (1 <<< (x2 &&& 31))) = 0 → Q (some (.int 0)) F2 A2))))))))) : CM l mX7_bar 3 w nb [.ref 1, .int x1, .int x2] F A Q := CM.ofZ (by decide) (fun _ _ => rfl) (fun _ _ => Nat.le_of_ble_eq_true rfl) (vX7_bar_0  h)
set_option maxHeartbeats 4000000 in
set_option maxRecDepth 100000 in
theorem vX7_cut_0 {l : Launch} {w : Nat → Nat} {nb : Nat} {Q : PM} {x1 x2 x3 : Int32} {F A : MI}  (h : CM l mX7_classAt 2 w nb [.ref 1, .int x1] F A (qc (fun F1 A1 => Q (some (.int 0)) F1 A1) (fun c1 F1 A1 => ((x2 < 1 → Q (some (.int 0)) F1 A1) ∧ (¬ x2 < 1 → ((3 < x2 → Q (some (.int 0)) F1 A1) ∧ (¬ 3 < x2 → CM l mX7_isBelow 1 w nb [.int x3, .int 16] F1 A1 (qi fun r2 F2 A2 => ((¬ r2 = 0 → (vp_in (x2 - 1) 3 ∧ Q (some (.int 1)) F2 (u2 A2 (38 + 14 * c1 + 13) (x2 - 1).toNatClampNeg x3))) ∧ (r2 = 0 → Q (some (.int 0)) F2 A2)))))))))) : ZM l mX7_cut 3 w nb Q 0 [(0, .ref 1), (1, .int x1), (2, .int x2), (3, .int x3)] [] F A := by
  intro T G B hY
  refine z_aload_n dX7_cut_0 0 rfl rfl ?_
  refine z_iload_n dX7_cut_1 1 rfl rfl ?_
  refine zm_Vc (As := [.int x1]) (rest := []) dX7_cut_2 okX7_classAt ioX7_classAt mk_X7_80 (ci := 7) rfl (by decide) (lat hY rfl) rfl rfl (Nat.le_of_ble_eq_true rfl) (by decide) hY (CM.monoc h (fun F1 A1 h => ?_) (fun c1 F1 A1 hc1 h => ?_))
  · skip
    refine z_astoreN (lv' := [(0, .ref 1), (1, .int x1), (2, .int x2), (3, .int x3), (4, .null)]) dX7_cut_5 (by decide) rfl ?_
    refine z_aloadN dX7_cut_7 4 rfl ?_
    refine z_ifnullN (tgt := 31) dX7_cut_9 (by decide) ?_
    refine z_iconst (v := 0) dX7_cut_31 rfl ?_
    exact z_zretM dX7_cut_32 rfl (by decide) h
  · skip
    refine z_astore (lv' := [(0, .ref 1), (1, .int x1), (2, .int x2), (3, .int x3), (4, .ref (38 + 14 * c1))]) dX7_cut_5 (by decide) rfl ?_
    refine z_aload dX7_cut_7 4 rfl ?_
    refine z_ifnull dX7_cut_9 ?_
    refine z_iload_n dX7_cut_12 2 rfl rfl ?_
    refine z_iconst (v := 1) dX7_cut_13 rfl ?_
    refine z_icmp_lt (tgt := 31) dX7_cut_14 (by decide) (fun hb => ?_) (fun hb => ?_)
    · have h := h.1 hb
      refine z_iconst (v := 0) dX7_cut_31 rfl ?_
      exact z_zretM dX7_cut_32 rfl (by decide) h
    · have h := h.2 hb
      refine z_iload_n dX7_cut_17 2 rfl rfl ?_
      refine z_iconst (v := 3) dX7_cut_18 rfl ?_
      refine z_icmp_gt (tgt := 31) dX7_cut_19 (by decide) (fun hb => ?_) (fun hb => ?_)
      · have h := h.1 hb
        refine z_iconst (v := 0) dX7_cut_31 rfl ?_
        exact z_zretM dX7_cut_32 rfl (by decide) h
      · have h := h.2 hb
        refine z_iload_n dX7_cut_22 3 rfl rfl ?_
        refine z_bipush (v := 16) dX7_cut_23 rfl ?_
        refine zm_Si (As := [.int x3, .int 16]) (rest := []) dX7_cut_25 okX7_isBelow smX7_isBelow mk_X7_102 rfl rfl (Nat.le_of_ble_eq_true rfl) (by decide) hY (CM.monoi h fun r2 F2 A2 h => ?_)
        refine z_if_ne (tgt := 33) dX7_cut_28 (by decide) (fun hb => ?_) (fun hb => ?_)
        · have h := h.1 hb
          refine z_aload dX7_cut_33 4 rfl ?_
          refine z_getr (k := 8) (fc := 168) (r := (38 + 14 * c1 + 13)) dX7_cut_35 ckX4 (by decide) fk_X7_163 rfl rfl (lat4 hY hc1) (lggc hY 168 13 hc1 (by decide)) (by omega) ?_
          refine z_iload_n dX7_cut_38 2 rfl rfl ?_
          refine z_iconst (v := 1) dX7_cut_39 rfl ?_
          refine z_isub dX7_cut_40 ?_
          refine z_iload_n dX7_cut_41 3 rfl rfl ?_
          have hin3 := h.1
          have h := h.2
          refine z_iast' (n := 3) dX7_cut_42 (latc hY hc1 13 (by decide)) (llnc hY hc1 13 (by decide)) hin3 ?_
          refine z_iconst (v := 1) dX7_cut_43 rfl ?_
          exact z_zretM dX7_cut_44 rfl (by decide) h
        · have h := h.2 hb
          refine z_iconst (v := 0) dX7_cut_31 rfl ?_
          exact z_zretM dX7_cut_32 rfl (by decide) h
theorem kX7_cut {l : Launch} {w : Nat → Nat} {nb : Nat} {Q : PM} {x1 x2 x3 : Int32} {F A : MI}  (h : CM l mX7_classAt 2 w nb [.ref 1, .int x1] F A (qc (fun F1 A1 => Q (some (.int 0)) F1 A1) (fun c1 F1 A1 => ((x2 < 1 → Q (some (.int 0)) F1 A1) ∧ (¬ x2 < 1 → ((3 < x2 → Q (some (.int 0)) F1 A1) ∧ (¬ 3 < x2 → CM l mX7_isBelow 1 w nb [.int x3, .int 16] F1 A1 (qi fun r2 F2 A2 => ((¬ r2 = 0 → (vp_in (x2 - 1) 3 ∧ Q (some (.int 1)) F2 (u2 A2 (38 + 14 * c1 + 13) (x2 - 1).toNatClampNeg x3))) ∧ (r2 = 0 → Q (some (.int 0)) F2 A2)))))))))) : CM l mX7_cut 3 w nb [.ref 1, .int x1, .int x2, .int x3] F A Q := CM.ofZ (by decide) (fun _ _ => rfl) (fun _ _ => Nat.le_of_ble_eq_true rfl) (vX7_cut_0  h)
set_option maxHeartbeats 4000000 in
set_option maxRecDepth 100000 in
theorem vX7_look_0 {l : Launch} {w : Nat → Nat} {nb : Nat} {Q : PM} {x1 x2 : Int32} {F A : MI}  (h : CM l mX7_beastAt 2 w nb [.ref 1, .int x1] F A (qb nb (fun F1 A1 => Q (some (.int (-1))) F1 A1) (fun c1 F1 A1 => ((x2 < 4 → ZM l mX7_look 3 w nb Q 32 [(0, .ref 1), (1, .int x1), (2, .int x2), (3, .ref (147 + 2 * c1))] [] F1 A1) ∧ (¬ x2 < 4 → ((7 ≤ x2 → ZM l mX7_look 3 w nb Q 32 [(0, .ref 1), (1, .int x1), (2, .int x2), (3, .ref (147 + 2 * c1))] [] F1 A1) ∧ (¬ 7 ≤ x2 → (vp_in (x2 - 4) 3 ∧ Q (some (.int (A1 (148 + 2 * c1) (x2 - 4).toNatClampNeg))) F1 A1)))))))) : ZM l mX7_look 3 w nb Q 0 [(0, .ref 1), (1, .int x1), (2, .int x2)] [] F A := by
  intro T G B hY
  refine z_aload_n dX7_look_0 0 rfl rfl ?_
  refine z_iload_n dX7_look_1 1 rfl rfl ?_
  refine zm_Vb (As := [.int x1]) (rest := []) dX7_look_2 okX7_beastAt ioX7_beastAt mk_X7_109 (ci := 7) rfl (by decide) (lat hY rfl) rfl rfl (Nat.le_of_ble_eq_true rfl) (by decide) hY (CM.monob h (fun F1 A1 h => ?_) (fun c1 F1 A1 hc1 h => ?_))
  · skip
    refine z_astore_nN (lv' := [(0, .ref 1), (1, .int x1), (2, .int x2), (3, .null)]) dX7_look_5 rfl (by decide) rfl ?_
    refine z_aload_nN dX7_look_6 3 rfl rfl ?_
    refine z_ifnonnullN dX7_look_7 ?_
    refine z_iconst (v := (-1)) dX7_look_10 rfl ?_
    exact z_iretM dX7_look_11 rfl h
  · skip
    refine z_astore_n (lv' := [(0, .ref 1), (1, .int x1), (2, .int x2), (3, .ref (147 + 2 * c1))]) dX7_look_5 rfl (by decide) rfl ?_
    refine z_aload_n dX7_look_6 3 rfl rfl ?_
    refine z_ifnonnull (tgt := 12) dX7_look_7 (by decide) ?_
    refine z_iload_n dX7_look_12 2 rfl rfl ?_
    refine z_iconst (v := 4) dX7_look_13 rfl ?_
    refine z_icmp_lt (tgt := 32) dX7_look_14 (by decide) (fun hb => ?_) (fun hb => ?_)
    · have h := h.1 hb
      exact z_pick [0, 1, 2, 3] rfl (h T G B hY)
    · have h := h.2 hb
      refine z_iload_n dX7_look_17 2 rfl rfl ?_
      refine z_bipush (v := 7) dX7_look_18 rfl ?_
      refine z_icmp_ge (tgt := 32) dX7_look_20 (by decide) (fun hb => ?_) (fun hb => ?_)
      · have h := h.1 hb
        exact z_pick [0, 1, 2, 3] rfl (h T G B hY)
      · have h := h.2 hb
        refine z_aload_n dX7_look_23 3 rfl rfl ?_
        refine z_getr (k := 4) (fc := 4) (r := (148 + 2 * c1)) dX7_look_24 ckX0 (by decide) fk_X7_113 rfl rfl (lat0 hY hc1) (lgg0 hY hc1) (by omega) ?_
        refine z_iload_n dX7_look_27 2 rfl rfl ?_
        refine z_iconst (v := 4) dX7_look_28 rfl ?_
        refine z_isub dX7_look_29 ?_
        have hin2 := h.1
        have h := h.2
        refine z_iald' (n := 3) (x := (A1 (148 + 2 * c1) (x2 - 4).toNatClampNeg)) dX7_look_30 (lat0m hY hc1) (lln0 hY hc1) hin2 rfl ?_
        exact z_iretM dX7_look_31 rfl h
theorem kX7_look {l : Launch} {w : Nat → Nat} {nb : Nat} {Q : PM} {x1 x2 : Int32} {F A : MI}  (h : CM l mX7_beastAt 2 w nb [.ref 1, .int x1] F A (qb nb (fun F1 A1 => Q (some (.int (-1))) F1 A1) (fun c1 F1 A1 => ((x2 < 4 → ZM l mX7_look 3 w nb Q 32 [(0, .ref 1), (1, .int x1), (2, .int x2), (3, .ref (147 + 2 * c1))] [] F1 A1) ∧ (¬ x2 < 4 → ((7 ≤ x2 → ZM l mX7_look 3 w nb Q 32 [(0, .ref 1), (1, .int x1), (2, .int x2), (3, .ref (147 + 2 * c1))] [] F1 A1) ∧ (¬ 7 ≤ x2 → (vp_in (x2 - 4) 3 ∧ Q (some (.int (A1 (148 + 2 * c1) (x2 - 4).toNatClampNeg))) F1 A1)))))))) : CM l mX7_look 3 w nb [.ref 1, .int x1, .int x2] F A Q := CM.ofZ (by decide) (fun _ _ => rfl) (fun _ _ => Nat.le_of_ble_eq_true rfl) (vX7_look_0  h)
set_option maxHeartbeats 4000000 in
set_option maxRecDepth 100000 in
theorem vX7_look_32 {l : Launch} {w : Nat → Nat} {nb : Nat} {Q : PM} {x1 x2 : Int32} {F A : MI} {i3 : Nat} (hi3 : i3 < nb) (h : ((x2 < 10 → ZM l mX7_look 3 w nb Q 58 [(0, .ref 1), (1, .int x1), (2, .int x2), (3, .ref (147 + 2 * i3))] [] F A) ∧ (¬ x2 < 10 → ((16 ≤ x2 → ZM l mX7_look 3 w nb Q 58 [(0, .ref 1), (1, .int x1), (2, .int x2), (3, .ref (147 + 2 * i3))] [] F A) ∧ (¬ 16 ≤ x2 → (vp_in (x2 - 10) 6 ∧ CM l mX4_placeOf 1 w nb [.ref (38 + 14 * (x2 - 10).toNatClampNeg), .int x1] F A (qi fun r2 F2 A2 => Q (some (.int r2)) F2 A2))))))) : ZM l mX7_look 3 w nb Q 32 [(0, .ref 1), (1, .int x1), (2, .int x2), (3, .ref (147 + 2 * i3))] [] F A := by
  intro T G B hY
  refine z_iload_n dX7_look_32 2 rfl rfl ?_
  refine z_bipush (v := 10) dX7_look_33 rfl ?_
  refine z_icmp_lt (tgt := 58) dX7_look_35 (by decide) (fun hb => ?_) (fun hb => ?_)
  · have h := h.1 hb
    exact z_pick [0, 1, 2, 3] rfl (h T G B hY)
  · have h := h.2 hb
    refine z_iload_n dX7_look_38 2 rfl rfl ?_
    refine z_bipush (v := 16) dX7_look_39 rfl ?_
    refine z_icmp_ge (tgt := 58) dX7_look_41 (by decide) (fun hb => ?_) (fun hb => ?_)
    · have h := h.1 hb
      exact z_pick [0, 1, 2, 3] rfl (h T G B hY)
    · have h := h.2 hb
      refine z_aload_n dX7_look_44 0 rfl rfl ?_
      refine z_getr (k := 2) (fc := 282) (r := 5) dX7_look_45 ckX7 (by decide) fk_X7_24 rfl rfl (lat hY rfl) (lgg hY rfl) (by decide) ?_
      refine z_iload_n dX7_look_48 2 rfl rfl ?_
      refine z_bipush (v := 10) dX7_look_49 rfl ?_
      refine z_isub dX7_look_51 ?_
      have hin1 := h.1
      have h := h.2
      refine z_aald' (ci := 12) (n := 6) (r := (38 + 14 * (x2 - 10).toNatClampNeg)) dX7_look_52 (lat hY rfl) (by decide) (lln hY rfl) hin1 (lbb5 hY (vin hin1)) (by omega) ?_
      refine z_iload_n dX7_look_53 1 rfl rfl ?_
      refine zm_Vi (As := [.int x1]) (rest := []) dX7_look_54 okX4_placeOf ioX4_placeOf mk_X7_193 (ci := 4) rfl (by decide) (lat4 hY (vin hin1)) rfl rfl (Nat.le_of_ble_eq_true rfl) (by decide) hY (CM.monoi h fun r2 F2 A2 h => ?_)
      exact z_iretM dX7_look_57 rfl h
set_option maxHeartbeats 4000000 in
set_option maxRecDepth 100000 in
theorem vX7_look_58 {l : Launch} {w : Nat → Nat} {nb : Nat} {Q : PM} {x1 x2 : Int32} {F A : MI} {i3 : Nat} (hi3 : i3 < nb) {i3 : Nat} (hi3 : i3 < nb) (h : ((x2 = 0 → Q (some (.int (F 0 (147 + 2 * i3)))) F A) ∧ (x2 = 1 → Q (some (.int (F 1 (147 + 2 * i3)))) F A) ∧ (x2 = 2 → Q (some (.int (F 2 (147 + 2 * i3)))) F A) ∧ (x2 = 3 → Q (some (.int (F 3 (147 + 2 * i3)))) F A) ∧ (x2 = 4 → Q (some (.int (-1))) F A) ∧ (x2 = 5 → Q (some (.int (-1))) F A) ∧ (x2 = 6 → Q (some (.int (-1))) F A) ∧ (x2 = 7 → CM l mX7_classesOf 2 w nb [.ref 1, .int x1] F A (qi fun r1 F1 A1 => Q (some (.int r1)) F1 A1)) ∧ (¬ x2 = 0 → ¬ x2 = 1 → ¬ x2 = 2 → ¬ x2 = 3 → ¬ x2 = 4 → ¬ x2 = 5 → ¬ x2 = 6 → ¬ x2 = 7 → Q (some (.int (-1))) F A))) : ZM l mX7_look 3 w nb Q 58 [(0, .ref 1), (1, .int x1), (2, .int x2), (3, .ref (147 + 2 * i3))] [] F A := by
  intro T G B hY
  refine z_iload_n dX7_look_58 2 rfl rfl ?_
  by_cases hb0 : x2 = 0
  · have h := h.1 hb0
    refine z_tableIn (off := 45) (tgt := 104) dX7_look_59 (by rw [hb0]; decide) (by rw [hb0]; decide) (by rw [hb0]; rfl) (by decide) ?_
    refine z_aload_n dX7_look_104 3 rfl rfl ?_
    refine z_geti' (k := 0) (fc := 0) (x := (F 0 (147 + 2 * i3))) dX7_look_105 ckX0 (by decide) fk_X7_196 rfl rfl (lat0 hY hi3) rfl ?_
    exact z_iretM dX7_look_108 rfl h
  have h := h.2
  by_cases hb1 : x2 = 1
  · have h := h.1 hb1
    refine z_tableIn (off := 50) (tgt := 109) dX7_look_59 (by rw [hb1]; decide) (by rw [hb1]; decide) (by rw [hb1]; rfl) (by decide) ?_
    refine z_aload_n dX7_look_109 3 rfl rfl ?_
    refine z_geti' (k := 1) (fc := 1) (x := (F 1 (147 + 2 * i3))) dX7_look_110 ckX0 (by decide) fk_X7_199 rfl rfl (lat0 hY hi3) rfl ?_
    exact z_iretM dX7_look_113 rfl h
  have h := h.2
  by_cases hb2 : x2 = 2
  · have h := h.1 hb2
    refine z_tableIn (off := 55) (tgt := 114) dX7_look_59 (by rw [hb2]; decide) (by rw [hb2]; decide) (by rw [hb2]; rfl) (by decide) ?_
    refine z_aload_n dX7_look_114 3 rfl rfl ?_
    refine z_geti' (k := 2) (fc := 2) (x := (F 2 (147 + 2 * i3))) dX7_look_115 ckX0 (by decide) fk_X7_186 rfl rfl (lat0 hY hi3) rfl ?_
    exact z_iretM dX7_look_118 rfl h
  have h := h.2
  by_cases hb3 : x2 = 3
  · have h := h.1 hb3
    refine z_tableIn (off := 60) (tgt := 119) dX7_look_59 (by rw [hb3]; decide) (by rw [hb3]; decide) (by rw [hb3]; rfl) (by decide) ?_
    refine z_aload_n dX7_look_119 3 rfl rfl ?_
    refine z_geti' (k := 3) (fc := 3) (x := (F 3 (147 + 2 * i3))) dX7_look_120 ckX0 (by decide) fk_X7_202 rfl rfl (lat0 hY hi3) rfl ?_
    exact z_iretM dX7_look_123 rfl h
  have h := h.2
  by_cases hb4 : x2 = 4
  · have h := h.1 hb4
    refine z_tableIn (off := 71) (tgt := 130) dX7_look_59 (by rw [hb4]; decide) (by rw [hb4]; decide) (by rw [hb4]; rfl) (by decide) ?_
    refine z_iconst (v := (-1)) dX7_look_130 rfl ?_
    exact z_iretM dX7_look_131 rfl h
  have h := h.2
  by_cases hb5 : x2 = 5
  · have h := h.1 hb5
    refine z_tableIn (off := 71) (tgt := 130) dX7_look_59 (by rw [hb5]; decide) (by rw [hb5]; decide) (by rw [hb5]; rfl) (by decide) ?_
    refine z_iconst (v := (-1)) dX7_look_130 rfl ?_
    exact z_iretM dX7_look_131 rfl h
  have h := h.2
  by_cases hb6 : x2 = 6
  · have h := h.1 hb6
    refine z_tableIn (off := 71) (tgt := 130) dX7_look_59 (by rw [hb6]; decide) (by rw [hb6]; decide) (by rw [hb6]; rfl) (by decide) ?_
    refine z_iconst (v := (-1)) dX7_look_130 rfl ?_
    exact z_iretM dX7_look_131 rfl h
  have h := h.2
  by_cases hb7 : x2 = 7
  · have h := h.1 hb7
    refine z_tableIn (off := 65) (tgt := 124) dX7_look_59 (by rw [hb7]; decide) (by rw [hb7]; decide) (by rw [hb7]; rfl) (by decide) ?_
    refine z_aload_n dX7_look_124 0 rfl rfl ?_
    refine z_iload_n dX7_look_125 1 rfl rfl ?_
    refine zm_Vi (As := [.int x1]) (rest := []) dX7_look_126 okX7_classesOf ioX7_classesOf mk_X7_205 (ci := 7) rfl (by decide) (lat hY rfl) rfl rfl (Nat.le_of_ble_eq_true rfl) (by decide) hY (CM.monoi h fun r1 F1 A1 h => ?_)
    exact z_iretM dX7_look_129 rfl h
  have h := h.2
  refine z_tableOut (tgt := 130) dX7_look_59 (by have := i_ne (n := 0) hb0 (by decide); have := i_ne (n := 1) hb1 (by decide); have := i_ne (n := 2) hb2 (by decide); have := i_ne (n := 3) hb3 (by decide); have := i_ne (n := 4) hb4 (by decide); have := i_ne (n := 5) hb5 (by decide); have := i_ne (n := 6) hb6 (by decide); have := i_ne (n := 7) hb7 (by decide); omega) (by decide) ?_
  have h := h hb0 hb1 hb2 hb3 hb4 hb5 hb6 hb7
  refine z_iconst (v := (-1)) dX7_look_130 rfl ?_
  exact z_iretM dX7_look_131 rfl h
set_option maxHeartbeats 4000000 in
set_option maxRecDepth 100000 in
theorem vX7_measure_0 {l : Launch} {w : Nat → Nat} {nb : Nat} {Q : PM} {x1 x2 x3 : Int32} {F A : MI}  (h : CM l mX7_beastAt 2 w nb [.ref 1, .int x1] F A (qb nb (fun F1 A1 => Q (some (.int 0)) F1 A1) (fun c1 F1 A1 => CM l mX7_isBelow 1 w nb [.int x2, .int 3] F1 A1 (qi fun r2 F2 A2 => ((r2 = 0 → Q (some (.int 0)) F2 A2) ∧ (¬ r2 = 0 → CM l mX7_isBelow 1 w nb [.int x3, .int 100] F2 A2 (qi fun r3 F3 A3 => ((¬ r3 = 0 → (vp_in x2 3 ∧ Q (some (.int 1)) F3 (u2 A3 (148 + 2 * c1) x2.toNatClampNeg x3))) ∧ (r3 = 0 → Q (some (.int 0)) F3 A3))))))))) : ZM l mX7_measure 3 w nb Q 0 [(0, .ref 1), (1, .int x1), (2, .int x2), (3, .int x3)] [] F A := by
  intro T G B hY
  refine z_aload_n dX7_measure_0 0 rfl rfl ?_
  refine z_iload_n dX7_measure_1 1 rfl rfl ?_
  refine zm_Vb (As := [.int x1]) (rest := []) dX7_measure_2 okX7_beastAt ioX7_beastAt mk_X7_109 (ci := 7) rfl (by decide) (lat hY rfl) rfl rfl (Nat.le_of_ble_eq_true rfl) (by decide) hY (CM.monob h (fun F1 A1 h => ?_) (fun c1 F1 A1 hc1 h => ?_))
  · skip
    refine z_astoreN (lv' := [(0, .ref 1), (1, .int x1), (2, .int x2), (3, .int x3), (4, .null)]) dX7_measure_5 (by decide) rfl ?_
    refine z_aloadN dX7_measure_7 4 rfl ?_
    refine z_ifnullN (tgt := 29) dX7_measure_9 (by decide) ?_
    refine z_iconst (v := 0) dX7_measure_29 rfl ?_
    exact z_zretM dX7_measure_30 rfl (by decide) h
  · skip
    refine z_astore (lv' := [(0, .ref 1), (1, .int x1), (2, .int x2), (3, .int x3), (4, .ref (147 + 2 * c1))]) dX7_measure_5 (by decide) rfl ?_
    refine z_aload dX7_measure_7 4 rfl ?_
    refine z_ifnull dX7_measure_9 ?_
    refine z_iload_n dX7_measure_12 2 rfl rfl ?_
    refine z_iconst (v := 3) dX7_measure_13 rfl ?_
    refine zm_Si (As := [.int x2, .int 3]) (rest := []) dX7_measure_14 okX7_isBelow smX7_isBelow mk_X7_102 rfl rfl (Nat.le_of_ble_eq_true rfl) (by decide) hY (CM.monoi h fun r2 F2 A2 h => ?_)
    refine z_if_eq (tgt := 29) dX7_measure_17 (by decide) (fun hb => ?_) (fun hb => ?_)
    · have h := h.1 hb
      refine z_iconst (v := 0) dX7_measure_29 rfl ?_
      exact z_zretM dX7_measure_30 rfl (by decide) h
    · have h := h.2 hb
      refine z_iload_n dX7_measure_20 3 rfl rfl ?_
      refine z_bipush (v := 100) dX7_measure_21 rfl ?_
      refine zm_Si (As := [.int x3, .int 100]) (rest := []) dX7_measure_23 okX7_isBelow smX7_isBelow mk_X7_102 rfl rfl (Nat.le_of_ble_eq_true rfl) (by decide) hY (CM.monoi h fun r3 F3 A3 h => ?_)
      refine z_if_ne (tgt := 31) dX7_measure_26 (by decide) (fun hb => ?_) (fun hb => ?_)
      · have h := h.1 hb
        refine z_aload dX7_measure_31 4 rfl ?_
        refine z_getr (k := 4) (fc := 4) (r := (148 + 2 * c1)) dX7_measure_33 ckX0 (by decide) fk_X7_113 rfl rfl (lat0 hY hc1) (lgg0 hY hc1) (by omega) ?_
        refine z_iload_n dX7_measure_36 2 rfl rfl ?_
        refine z_iload_n dX7_measure_37 3 rfl rfl ?_
        have hin4 := h.1
        have h := h.2
        refine z_iast' (n := 3) dX7_measure_38 (lat0m hY hc1) (lln0 hY hc1) hin4 ?_
        refine z_iconst (v := 1) dX7_measure_39 rfl ?_
        exact z_zretM dX7_measure_40 rfl (by decide) h
      · have h := h.2 hb
        refine z_iconst (v := 0) dX7_measure_29 rfl ?_
        exact z_zretM dX7_measure_30 rfl (by decide) h
theorem kX7_measure {l : Launch} {w : Nat → Nat} {nb : Nat} {Q : PM} {x1 x2 x3 : Int32} {F A : MI}  (h : CM l mX7_beastAt 2 w nb [.ref 1, .int x1] F A (qb nb (fun F1 A1 => Q (some (.int 0)) F1 A1) (fun c1 F1 A1 => CM l mX7_isBelow 1 w nb [.int x2, .int 3] F1 A1 (qi fun r2 F2 A2 => ((r2 = 0 → Q (some (.int 0)) F2 A2) ∧ (¬ r2 = 0 → CM l mX7_isBelow 1 w nb [.int x3, .int 100] F2 A2 (qi fun r3 F3 A3 => ((¬ r3 = 0 → (vp_in x2 3 ∧ Q (some (.int 1)) F3 (u2 A3 (148 + 2 * c1) x2.toNatClampNeg x3))) ∧ (r3 = 0 → Q (some (.int 0)) F3 A3))))))))) : CM l mX7_measure 3 w nb [.ref 1, .int x1, .int x2, .int x3] F A Q := CM.ofZ (by decide) (fun _ _ => rfl) (fun _ _ => Nat.le_of_ble_eq_true rfl) (vX7_measure_0  h)
set_option maxHeartbeats 4000000 in
set_option maxRecDepth 100000 in
theorem vX7_placed_0 {l : Launch} {w : Nat → Nat} {nb : Nat} {Q : PM} {x1 x2 : Int32} {F A : MI}  (h : CM l mX7_classAt 2 w nb [.ref 1, .int x1] F A (qc (fun F1 A1 => Q (some (.int (-1))) F1 A1) (fun c1 F1 A1 => ((x2 < 1 → Q (some (.int (-1))) F1 A1) ∧ (¬ x2 < 1 → ((x2 ≤ (F1 161 (38 + 14 * c1)) → (vp_in (x2 - 1) 8 ∧ Q (some (.int (A1 (38 + 14 * c1 + 12) (x2 - 1).toNatClampNeg))) F1 A1)) ∧ (¬ x2 ≤ (F1 161 (38 + 14 * c1)) → Q (some (.int (-1))) F1 A1))))))) : ZM l mX7_placed 3 w nb Q 0 [(0, .ref 1), (1, .int x1), (2, .int x2)] [] F A := by
  intro T G B hY
  refine z_aload_n dX7_placed_0 0 rfl rfl ?_
  refine z_iload_n dX7_placed_1 1 rfl rfl ?_
  refine zm_Vc (As := [.int x1]) (rest := []) dX7_placed_2 okX7_classAt ioX7_classAt mk_X7_80 (ci := 7) rfl (by decide) (lat hY rfl) rfl rfl (Nat.le_of_ble_eq_true rfl) (by decide) hY (CM.monoc h (fun F1 A1 h => ?_) (fun c1 F1 A1 hc1 h => ?_))
  · skip
    refine z_astore_nN (lv' := [(0, .ref 1), (1, .int x1), (2, .int x2), (3, .null)]) dX7_placed_5 rfl (by decide) rfl ?_
    refine z_aload_nN dX7_placed_6 3 rfl rfl ?_
    refine z_ifnullN (tgt := 23) dX7_placed_7 (by decide) ?_
    refine z_iconst (v := (-1)) dX7_placed_23 rfl ?_
    exact z_iretM dX7_placed_24 rfl h
  · skip
    refine z_astore_n (lv' := [(0, .ref 1), (1, .int x1), (2, .int x2), (3, .ref (38 + 14 * c1))]) dX7_placed_5 rfl (by decide) rfl ?_
    refine z_aload_n dX7_placed_6 3 rfl rfl ?_
    refine z_ifnull dX7_placed_7 ?_
    refine z_iload_n dX7_placed_10 2 rfl rfl ?_
    refine z_iconst (v := 1) dX7_placed_11 rfl ?_
    refine z_icmp_lt (tgt := 23) dX7_placed_12 (by decide) (fun hb => ?_) (fun hb => ?_)
    · have h := h.1 hb
      refine z_iconst (v := (-1)) dX7_placed_23 rfl ?_
      exact z_iretM dX7_placed_24 rfl h
    · have h := h.2 hb
      refine z_iload_n dX7_placed_15 2 rfl rfl ?_
      refine z_aload_n dX7_placed_16 3 rfl rfl ?_
      refine z_geti' (k := 1) (fc := 161) (x := (F1 161 (38 + 14 * c1))) dX7_placed_17 ckX4 (by decide) fk_X7_140 rfl rfl (lat4 hY hc1) rfl ?_
      refine z_icmp_le (tgt := 25) dX7_placed_20 (by decide) (fun hb => ?_) (fun hb => ?_)
      · have h := h.1 hb
        refine z_aload_n dX7_placed_25 3 rfl rfl ?_
        refine z_getr (k := 6) (fc := 166) (r := (38 + 14 * c1 + 12)) dX7_placed_26 ckX4 (by decide) fk_X7_153 rfl rfl (lat4 hY hc1) (lggc hY 166 12 hc1 (by decide)) (by omega) ?_
        refine z_iload_n dX7_placed_29 2 rfl rfl ?_
        refine z_iconst (v := 1) dX7_placed_30 rfl ?_
        refine z_isub dX7_placed_31 ?_
        have hin2 := h.1
        have h := h.2
        refine z_iald' (n := 8) (x := (A1 (38 + 14 * c1 + 12) (x2 - 1).toNatClampNeg)) dX7_placed_32 (latc hY hc1 12 (by decide)) (llnc hY hc1 12 (by decide)) hin2 rfl ?_
        exact z_iretM dX7_placed_33 rfl h
      · have h := h.2 hb
        refine z_iconst (v := (-1)) dX7_placed_23 rfl ?_
        exact z_iretM dX7_placed_24 rfl h
theorem kX7_placed {l : Launch} {w : Nat → Nat} {nb : Nat} {Q : PM} {x1 x2 : Int32} {F A : MI}  (h : CM l mX7_classAt 2 w nb [.ref 1, .int x1] F A (qc (fun F1 A1 => Q (some (.int (-1))) F1 A1) (fun c1 F1 A1 => ((x2 < 1 → Q (some (.int (-1))) F1 A1) ∧ (¬ x2 < 1 → ((x2 ≤ (F1 161 (38 + 14 * c1)) → (vp_in (x2 - 1) 8 ∧ Q (some (.int (A1 (38 + 14 * c1 + 12) (x2 - 1).toNatClampNeg))) F1 A1)) ∧ (¬ x2 ≤ (F1 161 (38 + 14 * c1)) → Q (some (.int (-1))) F1 A1))))))) : CM l mX7_placed 3 w nb [.ref 1, .int x1, .int x2] F A Q := CM.ofZ (by decide) (fun _ _ => rfl) (fun _ _ => Nat.le_of_ble_eq_true rfl) (vX7_placed_0  h)
set_option maxHeartbeats 4000000 in
set_option maxRecDepth 100000 in
theorem vX7_price_0 {l : Launch} {w : Nat → Nat} {nb : Nat} {Q : PM} {x1 : Int32} {F A : MI}  (h : CM l mX7_beastAt 2 w nb [.ref 1, .int x1] F A (qb nb (fun F1 A1 => Q (some (.int (-1))) F1 A1) (fun c1 F1 A1 => ZM l mX7_price 3 w nb Q 15 [(0, .ref 1), (1, .int x1), (2, .int 100), (3, .int 0)] [] F1 A1))) : ZM l mX7_price 3 w nb Q 0 [(0, .ref 1), (1, .int x1)] [] F A := by
  intro T G B hY
  refine z_aload_n dX7_price_0 0 rfl rfl ?_
  refine z_iload_n dX7_price_1 1 rfl rfl ?_
  refine zm_Vb (As := [.int x1]) (rest := []) dX7_price_2 okX7_beastAt ioX7_beastAt mk_X7_109 (ci := 7) rfl (by decide) (lat hY rfl) rfl rfl (Nat.le_of_ble_eq_true rfl) (by decide) hY (CM.monob h (fun F1 A1 h => ?_) (fun c1 F1 A1 hc1 h => ?_))
  · skip
    refine z_ifnonnullN dX7_price_5 ?_
    refine z_iconst (v := (-1)) dX7_price_8 rfl ?_
    exact z_iretM dX7_price_9 rfl h
  · skip
    refine z_ifnonnull (tgt := 10) dX7_price_5 (by decide) ?_
    refine z_bipush (v := 100) dX7_price_10 rfl ?_
    refine z_istore_n (lv' := [(0, .ref 1), (1, .int x1), (2, .int 100)]) dX7_price_12 rfl (by decide) rfl ?_
    refine z_iconst (v := 0) dX7_price_13 rfl ?_
    refine z_istore_n (lv' := [(0, .ref 1), (1, .int x1), (2, .int 100), (3, .int 0)]) dX7_price_14 rfl (by decide) rfl ?_
    exact z_pick [0, 1, 2, 3] rfl (h T G B hY)
theorem kX7_price {l : Launch} {w : Nat → Nat} {nb : Nat} {Q : PM} {x1 : Int32} {F A : MI}  (h : CM l mX7_beastAt 2 w nb [.ref 1, .int x1] F A (qb nb (fun F1 A1 => Q (some (.int (-1))) F1 A1) (fun c1 F1 A1 => ZM l mX7_price 3 w nb Q 15 [(0, .ref 1), (1, .int x1), (2, .int 100), (3, .int 0)] [] F1 A1))) : CM l mX7_price 3 w nb [.ref 1, .int x1] F A Q := CM.ofZ (by decide) (fun _ _ => rfl) (fun _ _ => Nat.le_of_ble_eq_true rfl) (vX7_price_0  h)
set_option maxHeartbeats 4000000 in
set_option maxRecDepth 100000 in
theorem vX7_price_15 {l : Launch} {w : Nat → Nat} {nb : Nat} {Q : PM} {x1 x2 x3 : Int32} {F A : MI}  (h : ((6 ≤ x3 → Q (some (.int x2)) F A) ∧ (¬ 6 ≤ x3 → (vp_in x3 6 ∧ CM l mX4_placeOf 1 w nb [.ref (38 + 14 * x3.toNatClampNeg), .int x1] F A (qi fun r2 F2 A2 => ((r2 ≤ 0 → ZM l mX7_price 3 w nb Q 46 [(0, .ref 1), (1, .int x1), (2, .int x2), (3, .int x3)] [] F2 A2) ∧ (¬ r2 ≤ 0 → (¬ r2 = 0 ∧ ZM l mX7_price 3 w nb Q 46 [(0, .ref 1), (1, .int x1), (2, .int (x2 + (50 / r2))), (3, .int x3)] [] F2 A2)))))))) : ZM l mX7_price 3 w nb Q 15 [(0, .ref 1), (1, .int x1), (2, .int x2), (3, .int x3)] [] F A := by
  intro T G B hY
  refine z_iload_n dX7_price_15 3 rfl rfl ?_
  refine z_bipush (v := 6) dX7_price_16 rfl ?_
  refine z_icmp_ge (tgt := 52) dX7_price_18 (by decide) (fun hb => ?_) (fun hb => ?_)
  · have h := h.1 hb
    refine z_iload_n dX7_price_52 2 rfl rfl ?_
    exact z_iretM dX7_price_53 rfl h
  · have h := h.2 hb
    refine z_aload_n dX7_price_21 0 rfl rfl ?_
    refine z_getr (k := 2) (fc := 282) (r := 5) dX7_price_22 ckX7 (by decide) fk_X7_24 rfl rfl (lat hY rfl) (lgg hY rfl) (by decide) ?_
    refine z_iload_n dX7_price_25 3 rfl rfl ?_
    have hin1 := h.1
    have h := h.2
    refine z_aald' (ci := 12) (n := 6) (r := (38 + 14 * x3.toNatClampNeg)) dX7_price_26 (lat hY rfl) (by decide) (lln hY rfl) hin1 (lbb5 hY (vin hin1)) (by omega) ?_
    refine z_iload_n dX7_price_27 1 rfl rfl ?_
    refine zm_Vi (As := [.int x1]) (rest := []) dX7_price_28 okX4_placeOf ioX4_placeOf mk_X7_193 (ci := 4) rfl (by decide) (lat4 hY (vin hin1)) rfl rfl (Nat.le_of_ble_eq_true rfl) (by decide) hY (CM.monoi h fun r2 F2 A2 h => ?_)
    refine z_istore (lv' := [(0, .ref 1), (1, .int x1), (2, .int x2), (3, .int x3), (4, .int r2)]) dX7_price_31 (by decide) rfl ?_
    refine z_iload dX7_price_33 4 rfl ?_
    refine z_if_le (tgt := 46) dX7_price_35 (by decide) (fun hb => ?_) (fun hb => ?_)
    · have h := h.1 hb
      exact z_pick [0, 1, 2, 3] rfl (h T G B hY)
    · have h := h.2 hb
      refine z_iload_n dX7_price_38 2 rfl rfl ?_
      refine z_bipush (v := 50) dX7_price_39 rfl ?_
      refine z_iload dX7_price_41 4 rfl ?_
      refine z_idiv dX7_price_43 h.1 ?_
      have h := h.2
      refine z_iadd dX7_price_44 ?_
      refine z_istore_n (lv' := [(0, .ref 1), (1, .int x1), (2, .int (x2 + (50 / r2))), (3, .int x3), (4, .int r2)]) dX7_price_45 rfl (by decide) rfl ?_
      exact z_pick [0, 1, 2, 3] rfl (h T G B hY)
set_option maxHeartbeats 4000000 in
set_option maxRecDepth 100000 in
theorem vX7_price_46 {l : Launch} {w : Nat → Nat} {nb : Nat} {Q : PM} {x1 x2 x3 : Int32} {F A : MI}  (h : ZM l mX7_price 3 w nb Q 15 [(0, .ref 1), (1, .int x1), (2, .int x2), (3, .int (x3 + 1))] [] F A) : ZM l mX7_price 3 w nb Q 46 [(0, .ref 1), (1, .int x1), (2, .int x2), (3, .int x3)] [] F A := by
  intro T G B hY
  refine z_iinc (v := (x3 + 1)) (lv' := [(0, .ref 1), (1, .int x1), (2, .int x2), (3, .int (x3 + 1))]) dX7_price_46 3 rfl rfl (by decide) rfl ?_
  refine z_goto (tgt := 15) dX7_price_49 (by decide) ?_
  exact z_pick [0, 1, 2, 3] rfl (h T G B hY)
set_option maxHeartbeats 4000000 in
set_option maxRecDepth 100000 in
theorem vX7_swaps_0 {l : Launch} {w : Nat → Nat} {nb : Nat} {Q : PM} {x1 : Int32} {F A : MI}  (h : CM l mX7_classAt 2 w nb [.ref 1, .int x1] F A (qc (fun F1 A1 => Q (some (.int (-1))) F1 A1) (fun c1 F1 A1 => Q (some (.int (F1 167 (38 + 14 * c1)))) F1 A1))) : ZM l mX7_swaps 3 w nb Q 0 [(0, .ref 1), (1, .int x1)] [] F A := by
  intro T G B hY
  refine z_aload_n dX7_swaps_0 0 rfl rfl ?_
  refine z_iload_n dX7_swaps_1 1 rfl rfl ?_
  refine zm_Vc (As := [.int x1]) (rest := []) dX7_swaps_2 okX7_classAt ioX7_classAt mk_X7_80 (ci := 7) rfl (by decide) (lat hY rfl) rfl rfl (Nat.le_of_ble_eq_true rfl) (by decide) hY (CM.monoc h (fun F1 A1 h => ?_) (fun c1 F1 A1 hc1 h => ?_))
  · skip
    refine z_astore_nN (lv' := [(0, .ref 1), (1, .int x1), (2, .null)]) dX7_swaps_5 rfl (by decide) rfl ?_
    refine z_aload_nN dX7_swaps_6 2 rfl rfl ?_
    refine z_ifnonnullN dX7_swaps_7 ?_
    refine z_iconst (v := (-1)) dX7_swaps_10 rfl ?_
    refine z_goto (tgt := 18) dX7_swaps_11 (by decide) ?_
    exact z_iretM dX7_swaps_18 rfl h
  · skip
    refine z_astore_n (lv' := [(0, .ref 1), (1, .int x1), (2, .ref (38 + 14 * c1))]) dX7_swaps_5 rfl (by decide) rfl ?_
    refine z_aload_n dX7_swaps_6 2 rfl rfl ?_
    refine z_ifnonnull (tgt := 14) dX7_swaps_7 (by decide) ?_
    refine z_aload_n dX7_swaps_14 2 rfl rfl ?_
    refine z_geti' (k := 7) (fc := 167) (x := (F1 167 (38 + 14 * c1))) dX7_swaps_15 ckX4 (by decide) fk_X7_156 rfl rfl (lat4 hY hc1) rfl ?_
    exact z_iretM dX7_swaps_18 rfl h
theorem kX7_swaps {l : Launch} {w : Nat → Nat} {nb : Nat} {Q : PM} {x1 : Int32} {F A : MI}  (h : CM l mX7_classAt 2 w nb [.ref 1, .int x1] F A (qc (fun F1 A1 => Q (some (.int (-1))) F1 A1) (fun c1 F1 A1 => Q (some (.int (F1 167 (38 + 14 * c1)))) F1 A1))) : CM l mX7_swaps 3 w nb [.ref 1, .int x1] F A Q := CM.ofZ (by decide) (fun _ _ => rfl) (fun _ _ => Nat.le_of_ble_eq_true rfl) (vX7_swaps_0  h)
set_option maxHeartbeats 4000000 in
set_option maxRecDepth 100000 in
theorem vX7_team_0 {l : Launch} {w : Nat → Nat} {nb : Nat} {Q : PM} {x1 : Int32} {F A : MI}  (h : CM l mX7_isBelow 1 w nb [.int x1, .int 10] F A (qi fun r1 F1 A1 => ((¬ r1 = 0 → ZM l mX7_team 3 w nb Q 18 [(0, .ref 1), (1, .int x1), (2, .int 0), (3, .int 0), (4, .int 1)] [] F1 A1) ∧ (r1 = 0 → Q (some (.int (-1))) F1 A1)))) : ZM l mX7_team 3 w nb Q 0 [(0, .ref 1), (1, .int x1)] [] F A := by
  intro T G B hY
  refine z_iload_n dX7_team_0 1 rfl rfl ?_
  refine z_bipush (v := 10) dX7_team_1 rfl ?_
  refine zm_Si (As := [.int x1, .int 10]) (rest := []) dX7_team_3 okX7_isBelow smX7_isBelow mk_X7_102 rfl rfl (Nat.le_of_ble_eq_true rfl) (by decide) hY (CM.monoi h fun r1 F1 A1 h => ?_)
  refine z_if_ne (tgt := 11) dX7_team_6 (by decide) (fun hb => ?_) (fun hb => ?_)
  · have h := h.1 hb
    refine z_iconst (v := 0) dX7_team_11 rfl ?_
    refine z_istore_n (lv' := [(0, .ref 1), (1, .int x1), (2, .int 0)]) dX7_team_12 rfl (by decide) rfl ?_
    refine z_iconst (v := 0) dX7_team_13 rfl ?_
    refine z_istore_n (lv' := [(0, .ref 1), (1, .int x1), (2, .int 0), (3, .int 0)]) dX7_team_14 rfl (by decide) rfl ?_
    refine z_iconst (v := 1) dX7_team_15 rfl ?_
    refine z_istore (lv' := [(0, .ref 1), (1, .int x1), (2, .int 0), (3, .int 0), (4, .int 1)]) dX7_team_16 (by decide) rfl ?_
    exact z_pick [0, 1, 2, 3, 4] rfl (h T G B hY)
  · have h := h.2 hb
    refine z_iconst (v := (-1)) dX7_team_9 rfl ?_
    exact z_iretM dX7_team_10 rfl h
theorem kX7_team {l : Launch} {w : Nat → Nat} {nb : Nat} {Q : PM} {x1 : Int32} {F A : MI}  (h : CM l mX7_isBelow 1 w nb [.int x1, .int 10] F A (qi fun r1 F1 A1 => ((¬ r1 = 0 → ZM l mX7_team 3 w nb Q 18 [(0, .ref 1), (1, .int x1), (2, .int 0), (3, .int 0), (4, .int 1)] [] F1 A1) ∧ (r1 = 0 → Q (some (.int (-1))) F1 A1)))) : CM l mX7_team 3 w nb [.ref 1, .int x1] F A Q := CM.ofZ (by decide) (fun _ _ => rfl) (fun _ _ => Nat.le_of_ble_eq_true rfl) (vX7_team_0  h)
set_option maxHeartbeats 4000000 in
set_option maxRecDepth 100000 in
theorem vX7_team_18 {l : Launch} {w : Nat → Nat} {nb : Nat} {Q : PM} {x1 x2 x3 x4 : Int32} {F A : MI}  (h : ((8 < x4 → ((¬ x2 = 3 → Q (some (.int (-1))) F A) ∧ (x2 = 3 → Q (some (.int x3)) F A))) ∧ (¬ 8 < x4 → ZM l mX7_team 3 w nb Q 28 [(0, .ref 1), (1, .int x1), (2, .int x2), (3, .int x3), (4, .int x4), (5, .int 0)] [] F A))) : ZM l mX7_team 3 w nb Q 18 [(0, .ref 1), (1, .int x1), (2, .int x2), (3, .int x3), (4, .int x4)] [] F A := by
  intro T G B hY
  refine z_iload dX7_team_18 4 rfl ?_
  refine z_bipush (v := 8) dX7_team_20 rfl ?_
  refine z_icmp_gt (tgt := 87) dX7_team_22 (by decide) (fun hb => ?_) (fun hb => ?_)
  · have h := h.1 hb
    refine z_iload_n dX7_team_87 2 rfl rfl ?_
    refine z_iconst (v := 3) dX7_team_88 rfl ?_
    refine z_icmp_ne (tgt := 96) dX7_team_89 (by decide) (fun hb => ?_) (fun hb => ?_)
    · have h := h.1 hb
      refine z_iconst (v := (-1)) dX7_team_96 rfl ?_
      exact z_iretM dX7_team_97 rfl h
    · have h := h.2 hb
      refine z_iload_n dX7_team_92 3 rfl rfl ?_
      refine z_goto (tgt := 97) dX7_team_93 (by decide) ?_
      exact z_iretM dX7_team_97 rfl h
  · have h := h.2 hb
    refine z_iconst (v := 0) dX7_team_25 rfl ?_
    refine z_istore (lv' := [(0, .ref 1), (1, .int x1), (2, .int x2), (3, .int x3), (4, .int x4), (5, .int 0)]) dX7_team_26 (by decide) rfl ?_
    exact z_pick [0, 1, 2, 3, 4, 5] rfl (h T G B hY)
set_option maxHeartbeats 4000000 in
set_option maxRecDepth 100000 in
theorem vX7_team_28 {l : Launch} {w : Nat → Nat} {nb : Nat} {Q : PM} {x1 x2 x3 x4 x5 : Int32} {F A : MI}  (h : (((F 288 1) ≤ x5 → ZM l mX7_team 3 w nb Q 81 [(0, .ref 1), (1, .int x1), (2, .int x2), (3, .int x3), (4, .int x4)] [] F A) ∧ (¬ (F 288 1) ≤ x5 → ((3 ≤ x2 → ZM l mX7_team 3 w nb Q 81 [(0, .ref 1), (1, .int x1), (2, .int x2), (3, .int x3), (4, .int x4)] [] F A) ∧ (¬ 3 ≤ x2 → (vp_in x5 20 ∧ x5.toNatClampNeg < nb ∧ ((¬ (F 2 (147 + 2 * x5.toNatClampNeg)) = x1 → ZM l mX7_team 3 w nb Q 75 [(0, .ref 1), (1, .int x1), (2, .int x2), (3, .int x3), (4, .int x4), (5, .int x5)] [] F A) ∧ ((F 2 (147 + 2 * x5.toNatClampNeg)) = x1 → CM l mX7_leastPlace 2 w nb [.ref 1, .int x5] F A (qi fun r2 F2 A2 => ((¬ r2 = x4 → ZM l mX7_team 3 w nb Q 75 [(0, .ref 1), (1, .int x1), (2, .int x2), (3, .int x3), (4, .int x4), (5, .int x5)] [] F2 A2) ∧ (r2 = x4 → ZM l mX7_team 3 w nb Q 75 [(0, .ref 1), (1, .int x1), (2, .int (x2 + 1)), (3, .int (x3 + x4)), (4, .int x4), (5, .int x5)] [] F2 A2))))))))))) : ZM l mX7_team 3 w nb Q 28 [(0, .ref 1), (1, .int x1), (2, .int x2), (3, .int x3), (4, .int x4), (5, .int x5)] [] F A := by
  intro T G B hY
  refine z_iload dX7_team_28 5 rfl ?_
  refine z_aload_n dX7_team_30 0 rfl rfl ?_
  refine z_geti' (k := 8) (fc := 288) (x := (F 288 1)) dX7_team_31 ckX7 (by decide) fk_X7_60 rfl rfl (lat hY rfl) rfl ?_
  refine z_icmp_ge (tgt := 81) dX7_team_34 (by decide) (fun hb => ?_) (fun hb => ?_)
  · have h := h.1 hb
    exact z_pick [0, 1, 2, 3, 4] rfl (h T G B hY)
  · have h := h.2 hb
    refine z_iload_n dX7_team_37 2 rfl rfl ?_
    refine z_iconst (v := 3) dX7_team_38 rfl ?_
    refine z_icmp_ge (tgt := 81) dX7_team_39 (by decide) (fun hb => ?_) (fun hb => ?_)
    · have h := h.1 hb
      exact z_pick [0, 1, 2, 3, 4] rfl (h T G B hY)
    · have h := h.2 hb
      refine z_aload_n dX7_team_42 0 rfl rfl ?_
      refine z_getr (k := 1) (fc := 281) (r := 4) dX7_team_43 ckX7 (by decide) fk_X7_18 rfl rfl (lat hY rfl) (lgg hY rfl) (by decide) ?_
      refine z_iload dX7_team_46 5 rfl ?_
      have hin1 := h.1
      have h := h.2
      have hi1 := h.1
      have h := h.2
      refine z_aald' (ci := 11) (n := 20) (r := (147 + 2 * x5.toNatClampNeg)) dX7_team_48 (lat hY rfl) (by decide) (lln hY rfl) hin1 (lbb0 hY hi1) (by omega) ?_
      refine z_geti' (k := 2) (fc := 2) (x := (F 2 (147 + 2 * x5.toNatClampNeg))) dX7_team_49 ckX0 (by decide) fk_X7_186 rfl rfl (lat0 hY hi1) rfl ?_
      refine z_iload_n dX7_team_52 1 rfl rfl ?_
      refine z_icmp_ne (tgt := 75) dX7_team_53 (by decide) (fun hb => ?_) (fun hb => ?_)
      · have h := h.1 hb
        exact z_pick [0, 1, 2, 3, 4, 5] rfl (h T G B hY)
      · have h := h.2 hb
        refine z_aload_n dX7_team_56 0 rfl rfl ?_
        refine z_iload dX7_team_57 5 rfl ?_
        refine zm_Vi (As := [.int x5]) (rest := []) dX7_team_59 okX7_leastPlace ioX7_leastPlace mk_X7_189 (ci := 7) rfl (by decide) (lat hY rfl) rfl rfl (Nat.le_of_ble_eq_true rfl) (by decide) hY (CM.monoi h fun r2 F2 A2 h => ?_)
        refine z_iload dX7_team_62 4 rfl ?_
        refine z_icmp_ne (tgt := 75) dX7_team_64 (by decide) (fun hb => ?_) (fun hb => ?_)
        · have h := h.1 hb
          exact z_pick [0, 1, 2, 3, 4, 5] rfl (h T G B hY)
        · have h := h.2 hb
          refine z_iinc (v := (x2 + 1)) (lv' := [(0, .ref 1), (1, .int x1), (2, .int (x2 + 1)), (3, .int x3), (4, .int x4), (5, .int x5)]) dX7_team_67 2 rfl rfl (by decide) rfl ?_
          refine z_iload_n dX7_team_70 3 rfl rfl ?_
          refine z_iload dX7_team_71 4 rfl ?_
          refine z_iadd dX7_team_73 ?_
          refine z_istore_n (lv' := [(0, .ref 1), (1, .int x1), (2, .int (x2 + 1)), (3, .int (x3 + x4)), (4, .int x4), (5, .int x5)]) dX7_team_74 rfl (by decide) rfl ?_
          exact z_pick [0, 1, 2, 3, 4, 5] rfl (h T G B hY)
set_option maxHeartbeats 4000000 in
set_option maxRecDepth 100000 in
theorem vX7_team_81 {l : Launch} {w : Nat → Nat} {nb : Nat} {Q : PM} {x1 x2 x3 x4 : Int32} {F A : MI}  (h : ZM l mX7_team 3 w nb Q 18 [(0, .ref 1), (1, .int x1), (2, .int x2), (3, .int x3), (4, .int (x4 + 1))] [] F A) : ZM l mX7_team 3 w nb Q 81 [(0, .ref 1), (1, .int x1), (2, .int x2), (3, .int x3), (4, .int x4)] [] F A := by
  intro T G B hY
  refine z_iinc (v := (x4 + 1)) (lv' := [(0, .ref 1), (1, .int x1), (2, .int x2), (3, .int x3), (4, .int (x4 + 1))]) dX7_team_81 4 rfl rfl (by decide) rfl ?_
  refine z_goto (tgt := 18) dX7_team_84 (by decide) ?_
  exact z_pick [0, 1, 2, 3, 4] rfl (h T G B hY)
set_option maxHeartbeats 4000000 in
set_option maxRecDepth 100000 in
theorem vX7_team_75 {l : Launch} {w : Nat → Nat} {nb : Nat} {Q : PM} {x1 x2 x3 x4 x5 : Int32} {F A : MI}  (h : ZM l mX7_team 3 w nb Q 28 [(0, .ref 1), (1, .int x1), (2, .int x2), (3, .int x3), (4, .int x4), (5, .int (x5 + 1))] [] F A) : ZM l mX7_team 3 w nb Q 75 [(0, .ref 1), (1, .int x1), (2, .int x2), (3, .int x3), (4, .int x4), (5, .int x5)] [] F A := by
  intro T G B hY
  refine z_iinc (v := (x5 + 1)) (lv' := [(0, .ref 1), (1, .int x1), (2, .int x2), (3, .int x3), (4, .int x4), (5, .int (x5 + 1))]) dX7_team_75 5 rfl rfl (by decide) rfl ?_
  refine z_goto (tgt := 28) dX7_team_78 (by decide) ?_
  exact z_pick [0, 1, 2, 3, 4, 5] rfl (h T G B hY)
set_option maxHeartbeats 4000000 in
set_option maxRecDepth 100000 in
theorem vX1_readLeast_0 {l : Launch} {w : Nat → Nat} {nb : Nat} {Q : PM} {x2 x3 : Int32} {F A : MI} {t : Nat} (ht : isTx t) (h : CM l mX5_readNumber 3 w nb [.ref 2] F A (qi fun r1 F1 A1 => ((¬ r1 = (-1) → (vp_in x2 4 ∧ (vp_in x2 4 ∧ Q (some (.int 0)) F1 (u2 A1 (t + 1) x2.toNatClampNeg (if (A1 (t + 1) x2.toNatClampNeg) < (r1 + x3) then (r1 + x3) else (A1 (t + 1) x2.toNatClampNeg)))))) ∧ (r1 = (-1) → CM l mX5_faultHere 2 w nb [.ref 2, .int 1] F1 A1 (qi fun r4 F4 A4 => Q (some (.int r4)) F4 A4))))) : ZM l mX1_readLeast 4 w nb Q 0 [(0, .ref t), (1, .ref 2), (2, .int x2), (3, .int x3)] [] F A := by
  intro T G B hY
  refine z_aload_n dX1_readLeast_0 1 rfl rfl ?_
  refine zm_Vi (As := []) (rest := []) dX1_readLeast_1 okX5_readNumber ioX5_readNumber mk_X1_91 (ci := 5) rfl (by decide) (lat hY rfl) rfl rfl (Nat.le_of_ble_eq_true rfl) (by decide) hY (CM.monoi h fun r1 F1 A1 h => ?_)
  refine z_istore (lv' := [(0, .ref t), (1, .ref 2), (2, .int x2), (3, .int x3), (4, .int r1)]) dX1_readLeast_4 (by decide) rfl ?_
  refine z_iload dX1_readLeast_6 4 rfl ?_
  refine z_iconst (v := (-1)) dX1_readLeast_8 rfl ?_
  refine z_icmp_ne (tgt := 18) dX1_readLeast_9 (by decide) (fun hb => ?_) (fun hb => ?_)
  · have h := h.1 hb
    refine z_aload_n dX1_readLeast_18 0 rfl rfl ?_
    refine z_getr (k := 0) (fc := 40) (r := (t + 1)) dX1_readLeast_19 ckX1 (by decide) fk_X1_11 rfl rfl (lat1 hY ht) (lgg1a hY ht) (by omega) ?_
    refine z_iload_n dX1_readLeast_22 2 rfl rfl ?_
    refine z_aload_n dX1_readLeast_23 0 rfl rfl ?_
    refine z_getr (k := 0) (fc := 40) (r := (t + 1)) dX1_readLeast_24 ckX1 (by decide) fk_X1_11 rfl rfl (lat1 hY ht) (lgg1a hY ht) (by omega) ?_
    refine z_iload_n dX1_readLeast_27 2 rfl rfl ?_
    have hin2 := h.1
    have h := h.2
    refine z_iald' (n := 4) (x := (A1 (t + 1) x2.toNatClampNeg)) dX1_readLeast_28 (lat1a hY ht) (lln1a hY ht) hin2 rfl ?_
    refine z_iload dX1_readLeast_29 4 rfl ?_
    refine z_iload_n dX1_readLeast_31 3 rfl rfl ?_
    refine z_iadd dX1_readLeast_32 ?_
    refine z_mmax dX1_readLeast_33 mk_X1_94 (by decide) (Nat.le_of_ble_eq_true rfl) ?_
    have hin3 := h.1
    have h := h.2
    refine z_iast' (n := 4) dX1_readLeast_36 (lat1a hY ht) (lln1a hY ht) hin3 ?_
    refine z_iconst (v := 0) dX1_readLeast_37 rfl ?_
    exact z_iretM dX1_readLeast_38 rfl h
  · have h := h.2 hb
    refine z_aload_n dX1_readLeast_12 1 rfl rfl ?_
    refine z_iconst (v := 1) dX1_readLeast_13 rfl ?_
    refine zm_Vi (As := [.int 1]) (rest := []) dX1_readLeast_14 okX5_faultHere ioX5_faultHere mk_X1_54 (ci := 5) rfl (by decide) (lat hY rfl) rfl rfl (Nat.le_of_ble_eq_true rfl) (by decide) hY (CM.monoi h fun r4 F4 A4 h => ?_)
    exact z_iretM dX1_readLeast_17 rfl h
theorem kX1_readLeast {l : Launch} {w : Nat → Nat} {nb : Nat} {Q : PM} {x2 x3 : Int32} {F A : MI} {t : Nat} (ht : isTx t) (h : CM l mX5_readNumber 3 w nb [.ref 2] F A (qi fun r1 F1 A1 => ((¬ r1 = (-1) → (vp_in x2 4 ∧ (vp_in x2 4 ∧ Q (some (.int 0)) F1 (u2 A1 (t + 1) x2.toNatClampNeg (if (A1 (t + 1) x2.toNatClampNeg) < (r1 + x3) then (r1 + x3) else (A1 (t + 1) x2.toNatClampNeg)))))) ∧ (r1 = (-1) → CM l mX5_faultHere 2 w nb [.ref 2, .int 1] F1 A1 (qi fun r4 F4 A4 => Q (some (.int r4)) F4 A4))))) : CM l mX1_readLeast 4 w nb [.ref t, .ref 2, .int x2, .int x3] F A Q := CM.ofZ (by decide) (fun _ _ => rfl) (fun _ _ => Nat.le_of_ble_eq_true rfl) (vX1_readLeast_0 ht h)
set_option maxHeartbeats 4000000 in
set_option maxRecDepth 100000 in
theorem vX1_readMost_0 {l : Launch} {w : Nat → Nat} {nb : Nat} {Q : PM} {x2 x3 : Int32} {F A : MI} {t : Nat} (ht : isTx t) (h : CM l mX5_readNumber 3 w nb [.ref 2] F A (qi fun r1 F1 A1 => ((¬ r1 = (-1) → (vp_in x2 4 ∧ (vp_in x2 4 ∧ Q (some (.int 0)) F1 (u2 A1 (t + 2) x2.toNatClampNeg (if (r1 - x3) < (A1 (t + 2) x2.toNatClampNeg) then (r1 - x3) else (A1 (t + 2) x2.toNatClampNeg)))))) ∧ (r1 = (-1) → CM l mX5_faultHere 2 w nb [.ref 2, .int 1] F1 A1 (qi fun r4 F4 A4 => Q (some (.int r4)) F4 A4))))) : ZM l mX1_readMost 4 w nb Q 0 [(0, .ref t), (1, .ref 2), (2, .int x2), (3, .int x3)] [] F A := by
  intro T G B hY
  refine z_aload_n dX1_readMost_0 1 rfl rfl ?_
  refine zm_Vi (As := []) (rest := []) dX1_readMost_1 okX5_readNumber ioX5_readNumber mk_X1_91 (ci := 5) rfl (by decide) (lat hY rfl) rfl rfl (Nat.le_of_ble_eq_true rfl) (by decide) hY (CM.monoi h fun r1 F1 A1 h => ?_)
  refine z_istore (lv' := [(0, .ref t), (1, .ref 2), (2, .int x2), (3, .int x3), (4, .int r1)]) dX1_readMost_4 (by decide) rfl ?_
  refine z_iload dX1_readMost_6 4 rfl ?_
  refine z_iconst (v := (-1)) dX1_readMost_8 rfl ?_
  refine z_icmp_ne (tgt := 18) dX1_readMost_9 (by decide) (fun hb => ?_) (fun hb => ?_)
  · have h := h.1 hb
    refine z_aload_n dX1_readMost_18 0 rfl rfl ?_
    refine z_getr (k := 1) (fc := 41) (r := (t + 2)) dX1_readMost_19 ckX1 (by decide) fk_X1_15 rfl rfl (lat1 hY ht) (lgg1b hY ht) (by omega) ?_
    refine z_iload_n dX1_readMost_22 2 rfl rfl ?_
    refine z_aload_n dX1_readMost_23 0 rfl rfl ?_
    refine z_getr (k := 1) (fc := 41) (r := (t + 2)) dX1_readMost_24 ckX1 (by decide) fk_X1_15 rfl rfl (lat1 hY ht) (lgg1b hY ht) (by omega) ?_
    refine z_iload_n dX1_readMost_27 2 rfl rfl ?_
    have hin2 := h.1
    have h := h.2
    refine z_iald' (n := 4) (x := (A1 (t + 2) x2.toNatClampNeg)) dX1_readMost_28 (lat1b hY ht) (lln1b hY ht) hin2 rfl ?_
    refine z_iload dX1_readMost_29 4 rfl ?_
    refine z_iload_n dX1_readMost_31 3 rfl rfl ?_
    refine z_isub dX1_readMost_32 ?_
    refine z_mmin dX1_readMost_33 mk_X1_100 (by decide) (Nat.le_of_ble_eq_true rfl) ?_
    have hin3 := h.1
    have h := h.2
    refine z_iast' (n := 4) dX1_readMost_36 (lat1b hY ht) (lln1b hY ht) hin3 ?_
    refine z_iconst (v := 0) dX1_readMost_37 rfl ?_
    exact z_iretM dX1_readMost_38 rfl h
  · have h := h.2 hb
    refine z_aload_n dX1_readMost_12 1 rfl rfl ?_
    refine z_iconst (v := 1) dX1_readMost_13 rfl ?_
    refine zm_Vi (As := [.int 1]) (rest := []) dX1_readMost_14 okX5_faultHere ioX5_faultHere mk_X1_54 (ci := 5) rfl (by decide) (lat hY rfl) rfl rfl (Nat.le_of_ble_eq_true rfl) (by decide) hY (CM.monoi h fun r4 F4 A4 h => ?_)
    exact z_iretM dX1_readMost_17 rfl h
theorem kX1_readMost {l : Launch} {w : Nat → Nat} {nb : Nat} {Q : PM} {x2 x3 : Int32} {F A : MI} {t : Nat} (ht : isTx t) (h : CM l mX5_readNumber 3 w nb [.ref 2] F A (qi fun r1 F1 A1 => ((¬ r1 = (-1) → (vp_in x2 4 ∧ (vp_in x2 4 ∧ Q (some (.int 0)) F1 (u2 A1 (t + 2) x2.toNatClampNeg (if (r1 - x3) < (A1 (t + 2) x2.toNatClampNeg) then (r1 - x3) else (A1 (t + 2) x2.toNatClampNeg)))))) ∧ (r1 = (-1) → CM l mX5_faultHere 2 w nb [.ref 2, .int 1] F1 A1 (qi fun r4 F4 A4 => Q (some (.int r4)) F4 A4))))) : CM l mX1_readMost 4 w nb [.ref t, .ref 2, .int x2, .int x3] F A Q := CM.ofZ (by decide) (fun _ _ => rfl) (fun _ _ => Nat.le_of_ble_eq_true rfl) (vX1_readMost_0 ht h)
set_option maxHeartbeats 4000000 in
set_option maxRecDepth 100000 in
theorem vX3_readTerms_0 {l : Launch} {w : Nat → Nat} {nb : Nat} {Q : PM} {F A : MI} {i : Nat} (hi : i < nb) {k : Nat} (hk : k < nb) (h : ZM l mX3_readTerms 4 w nb Q 3 [(0, .ref 34), (1, .ref 2), (2, .ref (147 + 2 * i)), (3, .ref (147 + 2 * k)), (4, .int 0)] [] F A) : ZM l mX3_readTerms 4 w nb Q 0 [(0, .ref 34), (1, .ref 2), (2, .ref (147 + 2 * i)), (3, .ref (147 + 2 * k))] [] F A := by
  intro T G B hY
  refine z_iconst (v := 0) dX3_readTerms_0 rfl ?_
  refine z_istore (lv' := [(0, .ref 34), (1, .ref 2), (2, .ref (147 + 2 * i)), (3, .ref (147 + 2 * k)), (4, .int 0)]) dX3_readTerms_1 (by decide) rfl ?_
  exact z_pick [0, 1, 2, 3, 4] rfl (h T G B hY)
theorem kX3_readTerms {l : Launch} {w : Nat → Nat} {nb : Nat} {Q : PM} {F A : MI} {i : Nat} (hi : i < nb) {k : Nat} (hk : k < nb) (h : ZM l mX3_readTerms 4 w nb Q 3 [(0, .ref 34), (1, .ref 2), (2, .ref (147 + 2 * i)), (3, .ref (147 + 2 * k)), (4, .int 0)] [] F A) : CM l mX3_readTerms 4 w nb [.ref 34, .ref 2, .ref (147 + 2 * i), .ref (147 + 2 * k)] F A Q := CM.ofZ (by decide) (fun _ _ => rfl) (fun _ _ => Nat.le_of_ble_eq_true rfl) (vX3_readTerms_0 hi hk h)
set_option maxHeartbeats 4000000 in
set_option maxRecDepth 100000 in
theorem vX3_readTerms_3 {l : Launch} {w : Nat → Nat} {nb : Nat} {Q : PM} {x4 : Int32} {F A : MI} {i : Nat} (hi : i < nb) {k : Nat} (hk : k < nb) (h : ((4 ≤ x4 → Q (some (.int 0)) F A) ∧ (¬ 4 ≤ x4 → ((x4 = 0 → ZM l mX3_readTerms 4 w nb Q 21 [(0, .ref 34), (1, .ref 2), (2, .ref (147 + 2 * i)), (3, .ref (147 + 2 * k)), (4, .int x4)] [] F A) ∧ (¬ x4 = 0 → CM l mX3_isAtTerm 3 w nb [.ref 2] F A (qi fun r1 F1 A1 => ((r1 = 0 → Q (some (.int 0)) F1 A1) ∧ (¬ r1 = 0 → ZM l mX3_readTerms 4 w nb Q 21 [(0, .ref 34), (1, .ref 2), (2, .ref (147 + 2 * i)), (3, .ref (147 + 2 * k)), (4, .int x4)] [] F1 A1)))))))) : ZM l mX3_readTerms 4 w nb Q 3 [(0, .ref 34), (1, .ref 2), (2, .ref (147 + 2 * i)), (3, .ref (147 + 2 * k)), (4, .int x4)] [] F A := by
  intro T G B hY
  refine z_iload dX3_readTerms_3 4 rfl ?_
  refine z_iconst (v := 4) dX3_readTerms_5 rfl ?_
  refine z_icmp_ge (tgt := 110) dX3_readTerms_6 (by decide) (fun hb => ?_) (fun hb => ?_)
  · have h := h.1 hb
    refine z_iconst (v := 0) dX3_readTerms_110 rfl ?_
    exact z_iretM dX3_readTerms_111 rfl h
  · have h := h.2 hb
    refine z_iload dX3_readTerms_9 4 rfl ?_
    refine z_if_eq (tgt := 21) dX3_readTerms_11 (by decide) (fun hb => ?_) (fun hb => ?_)
    · have h := h.1 hb
      exact z_pick [0, 1, 2, 3, 4] rfl (h T G B hY)
    · have h := h.2 hb
      refine z_aload_n dX3_readTerms_14 1 rfl rfl ?_
      refine zm_Si (As := [.ref 2]) (rest := []) dX3_readTerms_15 okX3_isAtTerm smX3_isAtTerm mk_X3_76 rfl rfl (Nat.le_of_ble_eq_true rfl) (by decide) hY (CM.monoi h fun r1 F1 A1 h => ?_)
      refine z_if_eq (tgt := 110) dX3_readTerms_18 (by decide) (fun hb => ?_) (fun hb => ?_)
      · have h := h.1 hb
        refine z_iconst (v := 0) dX3_readTerms_110 rfl ?_
        exact z_iretM dX3_readTerms_111 rfl h
      · have h := h.2 hb
        exact z_pick [0, 1, 2, 3, 4] rfl (h T G B hY)
set_option maxHeartbeats 4000000 in
set_option maxRecDepth 100000 in
theorem vX3_readTerms_21 {l : Launch} {w : Nat → Nat} {nb : Nat} {Q : PM} {x4 : Int32} {F A : MI} {i : Nat} (hi : i < nb) {k : Nat} (hk : k < nb) (h : CM l mX5_skipIf 2 w nb [.ref 2, .int 45] F A (qi fun r1 F1 A1 => CM l mX3_isAtMeasure 2 w nb [.ref 2] F1 A1 (qi fun r2 F2 A2 => ((¬ r2 = 0 → CM l mX5_peek 1 w nb [.ref 2] F2 A2 (qi fun r3 F3 A3 => CM l mX5_skip 1 w nb [.ref 2] F3 A3 (qv fun F4 A4 => (vp_in (r3 - 48) 3 ∧ (vp_in (r3 - 48) 3 ∧ ((r1 = 0 → ((((A4 (148 + 2 * i) (r3 - 48).toNatClampNeg) - (A4 (148 + 2 * k) (r3 - 48).toNatClampNeg)) ≤ 0 → ZM l mX3_readTerms 4 w nb Q 99 [(0, .ref 34), (1, .ref 2), (2, .ref (147 + 2 * i)), (3, .ref (147 + 2 * k)), (4, .int x4)] [.int (F4 120 34), .ref 34] F4 A4) ∧ (¬ ((A4 (148 + 2 * i) (r3 - 48).toNatClampNeg) - (A4 (148 + 2 * k) (r3 - 48).toNatClampNeg)) ≤ 0 → ZM l mX3_readTerms 4 w nb Q 95 [(0, .ref 34), (1, .ref 2), (2, .ref (147 + 2 * i)), (3, .ref (147 + 2 * k)), (4, .int x4)] [.int (F4 120 34), .ref 34] F4 A4))) ∧ (¬ r1 = 0 → ((0 ≤ ((A4 (148 + 2 * i) (r3 - 48).toNatClampNeg) - (A4 (148 + 2 * k) (r3 - 48).toNatClampNeg)) → ZM l mX3_readTerms 4 w nb Q 99 [(0, .ref 34), (1, .ref 2), (2, .ref (147 + 2 * i)), (3, .ref (147 + 2 * k)), (4, .int x4)] [.int (F4 120 34), .ref 34] F4 A4) ∧ (¬ 0 ≤ ((A4 (148 + 2 * i) (r3 - 48).toNatClampNeg) - (A4 (148 + 2 * k) (r3 - 48).toNatClampNeg)) → ZM l mX3_readTerms 4 w nb Q 95 [(0, .ref 34), (1, .ref 2), (2, .ref (147 + 2 * i)), (3, .ref (147 + 2 * k)), (4, .int x4)] [.int (F4 120 34), .ref 34] F4 A4))))))))) ∧ (r2 = 0 → CM l mX5_faultHere 2 w nb [.ref 2, .int 1] F2 A2 (qi fun r7 F7 A7 => Q (some (.int r7)) F7 A7)))))) : ZM l mX3_readTerms 4 w nb Q 21 [(0, .ref 34), (1, .ref 2), (2, .ref (147 + 2 * i)), (3, .ref (147 + 2 * k)), (4, .int x4)] [] F A := by
  intro T G B hY
  refine z_aload_n dX3_readTerms_21 1 rfl rfl ?_
  refine z_bipush (v := 45) dX3_readTerms_22 rfl ?_
  refine zm_Vi (As := [.int 45]) (rest := []) dX3_readTerms_24 okX5_skipIf ioX5_skipIf mk_X3_34 (ci := 5) rfl (by decide) (lat hY rfl) rfl rfl (Nat.le_of_ble_eq_true rfl) (by decide) hY (CM.monoi h fun r1 F1 A1 h => ?_)
  refine z_istore (lv' := [(0, .ref 34), (1, .ref 2), (2, .ref (147 + 2 * i)), (3, .ref (147 + 2 * k)), (4, .int x4), (5, .int r1)]) dX3_readTerms_27 (by decide) rfl ?_
  refine z_aload_n dX3_readTerms_29 1 rfl rfl ?_
  refine zm_Si (As := [.ref 2]) (rest := []) dX3_readTerms_30 okX3_isAtMeasure smX3_isAtMeasure mk_X3_80 rfl rfl (Nat.le_of_ble_eq_true rfl) (by decide) hY (CM.monoi h fun r2 F2 A2 h => ?_)
  refine z_if_ne (tgt := 42) dX3_readTerms_33 (by decide) (fun hb => ?_) (fun hb => ?_)
  · have h := h.1 hb
    refine z_aload_n dX3_readTerms_42 1 rfl rfl ?_
    refine zm_Vi (As := []) (rest := []) dX3_readTerms_43 okX5_peek ioX5_peek mk_X3_73 (ci := 5) rfl (by decide) (lat hY rfl) rfl rfl (Nat.le_of_ble_eq_true rfl) (by decide) hY (CM.monoi h fun r3 F3 A3 h => ?_)
    refine z_bipush (v := 48) dX3_readTerms_46 rfl ?_
    refine z_isub dX3_readTerms_48 ?_
    refine z_istore (lv' := [(0, .ref 34), (1, .ref 2), (2, .ref (147 + 2 * i)), (3, .ref (147 + 2 * k)), (4, .int x4), (5, .int r1), (6, .int (r3 - 48))]) dX3_readTerms_49 (by decide) rfl ?_
    refine z_aload_n dX3_readTerms_51 1 rfl rfl ?_
    refine zm_Vv (As := []) (rest := []) dX3_readTerms_52 okX5_skip ioX5_skip mk_X3_59 (ci := 5) rfl (by decide) (lat hY rfl) rfl rfl (Nat.le_of_ble_eq_true rfl) (by decide) hY (CM.monov h fun F4 A4 h => ?_)
    refine z_aload_n dX3_readTerms_55 2 rfl rfl ?_
    refine z_getr (k := 4) (fc := 4) (r := (148 + 2 * i)) dX3_readTerms_56 ckX0 (by decide) fk_X3_83 rfl rfl (lat0 hY hi) (lgg0 hY hi) (by omega) ?_
    refine z_iload dX3_readTerms_59 6 rfl ?_
    have hin5 := h.1
    have h := h.2
    refine z_iald' (n := 3) (x := (A4 (148 + 2 * i) (r3 - 48).toNatClampNeg)) dX3_readTerms_61 (lat0m hY hi) (lln0 hY hi) hin5 rfl ?_
    refine z_aload_n dX3_readTerms_62 3 rfl rfl ?_
    refine z_getr (k := 4) (fc := 4) (r := (148 + 2 * k)) dX3_readTerms_63 ckX0 (by decide) fk_X3_83 rfl rfl (lat0 hY hk) (lgg0 hY hk) (by omega) ?_
    refine z_iload dX3_readTerms_66 6 rfl ?_
    have hin6 := h.1
    have h := h.2
    refine z_iald' (n := 3) (x := (A4 (148 + 2 * k) (r3 - 48).toNatClampNeg)) dX3_readTerms_68 (lat0m hY hk) (lln0 hY hk) hin6 rfl ?_
    refine z_isub dX3_readTerms_69 ?_
    refine z_istore (lv' := [(0, .ref 34), (1, .ref 2), (2, .ref (147 + 2 * i)), (3, .ref (147 + 2 * k)), (4, .int x4), (5, .int r1), (6, .int (r3 - 48)), (7, .int ((A4 (148 + 2 * i) (r3 - 48).toNatClampNeg) - (A4 (148 + 2 * k) (r3 - 48).toNatClampNeg)))]) dX3_readTerms_70 (by decide) rfl ?_
    refine z_aload_n dX3_readTerms_72 0 rfl rfl ?_
    refine z_dup dX3_readTerms_73 ?_
    refine z_geti' (k := 0) (fc := 120) (x := (F4 120 34)) dX3_readTerms_74 ckX3 (by decide) fk_X3_9 rfl rfl (lat hY rfl) rfl ?_
    refine z_iload dX3_readTerms_77 5 rfl ?_
    refine z_if_eq (tgt := 90) dX3_readTerms_79 (by decide) (fun hb => ?_) (fun hb => ?_)
    · have h := h.1 hb
      refine z_iload dX3_readTerms_90 7 rfl ?_
      refine z_if_le (tgt := 99) dX3_readTerms_92 (by decide) (fun hb => ?_) (fun hb => ?_)
      · have h := h.1 hb
        exact z_pick [0, 1, 2, 3, 4] rfl (h T G B hY)
      · have h := h.2 hb
        exact z_pick [0, 1, 2, 3, 4] rfl (h T G B hY)
    · have h := h.2 hb
      refine z_iload dX3_readTerms_82 7 rfl ?_
      refine z_if_ge (tgt := 99) dX3_readTerms_84 (by decide) (fun hb => ?_) (fun hb => ?_)
      · have h := h.1 hb
        exact z_pick [0, 1, 2, 3, 4] rfl (h T G B hY)
      · have h := h.2 hb
        refine z_goto (tgt := 95) dX3_readTerms_87 (by decide) ?_
        exact z_pick [0, 1, 2, 3, 4] rfl (h T G B hY)
  · have h := h.2 hb
    refine z_aload_n dX3_readTerms_36 1 rfl rfl ?_
    refine z_iconst (v := 1) dX3_readTerms_37 rfl ?_
    refine zm_Vi (As := [.int 1]) (rest := []) dX3_readTerms_38 okX5_faultHere ioX5_faultHere mk_X3_38 (ci := 5) rfl (by decide) (lat hY rfl) rfl rfl (Nat.le_of_ble_eq_true rfl) (by decide) hY (CM.monoi h fun r7 F7 A7 h => ?_)
    exact z_iretM dX3_readTerms_41 rfl h
set_option maxHeartbeats 4000000 in
set_option maxRecDepth 100000 in
theorem vX3_readTerms_99 {l : Launch} {w : Nat → Nat} {nb : Nat} {Q : PM} {x4 s0 : Int32} {F A : MI} {i : Nat} (hi : i < nb) {k : Nat} (hk : k < nb) (h : ZM l mX3_readTerms 4 w nb Q 100 [(0, .ref 34), (1, .ref 2), (2, .ref (147 + 2 * i)), (3, .ref (147 + 2 * k)), (4, .int x4)] [.int (-1), .int s0, .ref 34] F A) : ZM l mX3_readTerms 4 w nb Q 99 [(0, .ref 34), (1, .ref 2), (2, .ref (147 + 2 * i)), (3, .ref (147 + 2 * k)), (4, .int x4)] [.int s0, .ref 34] F A := by
  intro T G B hY
  refine z_iconst (v := (-1)) dX3_readTerms_99 rfl ?_
  exact z_pick [0, 1, 2, 3, 4] rfl (h T G B hY)
set_option maxHeartbeats 4000000 in
set_option maxRecDepth 100000 in
theorem vX3_readTerms_95 {l : Launch} {w : Nat → Nat} {nb : Nat} {Q : PM} {x4 s0 : Int32} {F A : MI} {i : Nat} (hi : i < nb) {k : Nat} (hk : k < nb) (h : ZM l mX3_readTerms 4 w nb Q 100 [(0, .ref 34), (1, .ref 2), (2, .ref (147 + 2 * i)), (3, .ref (147 + 2 * k)), (4, .int x4)] [.int 2, .int s0, .ref 34] F A) : ZM l mX3_readTerms 4 w nb Q 95 [(0, .ref 34), (1, .ref 2), (2, .ref (147 + 2 * i)), (3, .ref (147 + 2 * k)), (4, .int x4)] [.int s0, .ref 34] F A := by
  intro T G B hY
  refine z_iconst (v := 2) dX3_readTerms_95 rfl ?_
  refine z_goto (tgt := 100) dX3_readTerms_96 (by decide) ?_
  exact z_pick [0, 1, 2, 3, 4] rfl (h T G B hY)
set_option maxHeartbeats 4000000 in
set_option maxRecDepth 100000 in
theorem vX3_readTerms_100 {l : Launch} {w : Nat → Nat} {nb : Nat} {Q : PM} {x4 s0 s1 : Int32} {F A : MI} {i : Nat} (hi : i < nb) {k : Nat} (hk : k < nb) (h : ZM l mX3_readTerms 4 w nb Q 3 [(0, .ref 34), (1, .ref 2), (2, .ref (147 + 2 * i)), (3, .ref (147 + 2 * k)), (4, .int (x4 + 1))] [] (u2 F 120 34 (s1 + s0)) A) : ZM l mX3_readTerms 4 w nb Q 100 [(0, .ref 34), (1, .ref 2), (2, .ref (147 + 2 * i)), (3, .ref (147 + 2 * k)), (4, .int x4)] [.int s0, .int s1, .ref 34] F A := by
  intro T G B hY
  refine z_iadd dX3_readTerms_100 ?_
  refine z_puti (k := 0) (fc := 120) dX3_readTerms_101 ckX3 (by decide) fk_X3_9 rfl rfl rfl (lat hY rfl) ?_
  refine z_iinc (v := (x4 + 1)) (lv' := [(0, .ref 34), (1, .ref 2), (2, .ref (147 + 2 * i)), (3, .ref (147 + 2 * k)), (4, .int (x4 + 1))]) dX3_readTerms_104 4 rfl rfl (by decide) rfl ?_
  refine z_goto (tgt := 3) dX3_readTerms_107 (by decide) ?_
  exact z_pick [0, 1, 2, 3, 4] rfl (h T G B hY)
set_option maxHeartbeats 4000000 in
set_option maxRecDepth 100000 in
theorem vX7_card_0 {l : Launch} {w : Nat → Nat} {nb : Nat} {Q : PM} {x1 : Int32} {F A : MI}  (h : CM l mX7_classAt 2 w nb [.ref 1, .int x1] F A (qc (fun F1 A1 => Q (some (.int (-1))) F1 A1) (fun c1 F1 A1 => (((F1 161 (38 + 14 * c1)) < 2 → Q (some (.int (-1))) F1 A1) ∧ (¬ (F1 161 (38 + 14 * c1)) < 2 → CM l mX4_cardLength 2 w nb [.ref (38 + 14 * c1)] F1 A1 (qi fun r2 F2 A2 => CM l mX5_has 1 w nb [.ref 2, .int r2] F2 A2 (qi fun r3 F3 A3 => ((¬ r3 = 0 → CM l mX4_cardBeasts 3 w nb [.ref (38 + 14 * c1)] F3 A3 (qi fun r4 F4 A4 => CM l mX5_namesEachOf 3 w nb [.ref 2, .int r4] F4 A4 (qi fun r5 F5 A5 => ((r5 = 0 → ZM l mX7_card 4 w nb Q 60 [(0, .ref 1)] [.int (-1)] F5 A5) ∧ (¬ r5 = 0 → CM l mX4_scoreCard 3 w nb [.ref (38 + 14 * c1), .ref 2] F5 A5 (qi fun r6 F6 A6 => ZM l mX7_card 4 w nb Q 60 [(0, .ref 1)] [.int r6] F6 A6)))))) ∧ (r3 = 0 → Q (some (.int (-1))) F3 A3))))))))) : ZM l mX7_card 4 w nb Q 0 [(0, .ref 1), (1, .int x1)] [] F A := by
  intro T G B hY
  refine z_aload_n dX7_card_0 0 rfl rfl ?_
  refine z_iload_n dX7_card_1 1 rfl rfl ?_
  refine zm_Vc (As := [.int x1]) (rest := []) dX7_card_2 okX7_classAt ioX7_classAt mk_X7_80 (ci := 7) rfl (by decide) (lat hY rfl) rfl rfl (Nat.le_of_ble_eq_true rfl) (by decide) hY (CM.monoc h (fun F1 A1 h => ?_) (fun c1 F1 A1 hc1 h => ?_))
  · skip
    refine z_astore_nN (lv' := [(0, .ref 1), (1, .int x1), (2, .null)]) dX7_card_5 rfl (by decide) rfl ?_
    refine z_aload_nN dX7_card_6 2 rfl rfl ?_
    refine z_ifnullN (tgt := 32) dX7_card_7 (by decide) ?_
    refine z_iconst (v := (-1)) dX7_card_32 rfl ?_
    exact z_iretM dX7_card_33 rfl h
  · skip
    refine z_astore_n (lv' := [(0, .ref 1), (1, .int x1), (2, .ref (38 + 14 * c1))]) dX7_card_5 rfl (by decide) rfl ?_
    refine z_aload_n dX7_card_6 2 rfl rfl ?_
    refine z_ifnull dX7_card_7 ?_
    refine z_aload_n dX7_card_10 2 rfl rfl ?_
    refine z_geti' (k := 1) (fc := 161) (x := (F1 161 (38 + 14 * c1))) dX7_card_11 ckX4 (by decide) fk_X7_140 rfl rfl (lat4 hY hc1) rfl ?_
    refine z_iconst (v := 2) dX7_card_14 rfl ?_
    refine z_icmp_lt (tgt := 32) dX7_card_15 (by decide) (fun hb => ?_) (fun hb => ?_)
    · have h := h.1 hb
      refine z_iconst (v := (-1)) dX7_card_32 rfl ?_
      exact z_iretM dX7_card_33 rfl h
    · have h := h.2 hb
      refine z_aload_n dX7_card_18 0 rfl rfl ?_
      refine z_getr (k := 0) (fc := 280) (r := 2) dX7_card_19 ckX7 (by decide) fk_X7_10 rfl rfl (lat hY rfl) (lgg hY rfl) (by decide) ?_
      refine z_aload_n dX7_card_22 2 rfl rfl ?_
      refine zm_Vi (As := []) (rest := [.ref 2]) dX7_card_23 okX4_cardLength ioX4_cardLength mk_X7_166 (ci := 4) rfl (by decide) (lat4 hY hc1) rfl rfl (Nat.le_of_ble_eq_true rfl) (by decide) hY (CM.monoi h fun r2 F2 A2 h => ?_)
      refine zm_Vi (As := [.int r2]) (rest := []) dX7_card_26 okX5_has ioX5_has mk_X7_84 (ci := 5) rfl (by decide) (lat hY rfl) rfl rfl (Nat.le_of_ble_eq_true rfl) (by decide) hY (CM.monoi h fun r3 F3 A3 h => ?_)
      refine z_if_ne (tgt := 34) dX7_card_29 (by decide) (fun hb => ?_) (fun hb => ?_)
      · have h := h.1 hb
        refine z_aload_n dX7_card_34 0 rfl rfl ?_
        refine z_getr (k := 0) (fc := 280) (r := 2) dX7_card_35 ckX7 (by decide) fk_X7_10 rfl rfl (lat hY rfl) (lgg hY rfl) (by decide) ?_
        refine z_aload_n dX7_card_38 2 rfl rfl ?_
        refine zm_Vi (As := []) (rest := [.ref 2]) dX7_card_39 okX4_cardBeasts ioX4_cardBeasts mk_X7_169 (ci := 4) rfl (by decide) (lat4 hY hc1) rfl rfl (Nat.le_of_ble_eq_true rfl) (by decide) hY (CM.monoi h fun r4 F4 A4 h => ?_)
        refine zm_Vi (As := [.int r4]) (rest := []) dX7_card_42 okX5_namesEachOf ioX5_namesEachOf mk_X7_146 (ci := 5) rfl (by decide) (lat hY rfl) rfl rfl (Nat.le_of_ble_eq_true rfl) (by decide) hY (CM.monoi h fun r5 F5 A5 h => ?_)
        refine z_if_eq (tgt := 59) dX7_card_45 (by decide) (fun hb => ?_) (fun hb => ?_)
        · have h := h.1 hb
          refine z_iconst (v := (-1)) dX7_card_59 rfl ?_
          exact z_pick [0] rfl (h T G B hY)
        · have h := h.2 hb
          refine z_aload_n dX7_card_48 2 rfl rfl ?_
          refine z_aload_n dX7_card_49 0 rfl rfl ?_
          refine z_getr (k := 0) (fc := 280) (r := 2) dX7_card_50 ckX7 (by decide) fk_X7_10 rfl rfl (lat hY rfl) (lgg hY rfl) (by decide) ?_
          refine zm_Vi (As := [.ref 2]) (rest := []) dX7_card_53 okX4_scoreCard ioX4_scoreCard mk_X7_172 (ci := 4) rfl (by decide) (lat4 hY hc1) rfl rfl (Nat.le_of_ble_eq_true rfl) (by decide) hY (CM.monoi h fun r6 F6 A6 h => ?_)
          refine z_goto (tgt := 60) dX7_card_56 (by decide) ?_
          exact z_pick [0] rfl (h T G B hY)
      · have h := h.2 hb
        refine z_iconst (v := (-1)) dX7_card_32 rfl ?_
        exact z_iretM dX7_card_33 rfl h
theorem kX7_card {l : Launch} {w : Nat → Nat} {nb : Nat} {Q : PM} {x1 : Int32} {F A : MI}  (h : CM l mX7_classAt 2 w nb [.ref 1, .int x1] F A (qc (fun F1 A1 => Q (some (.int (-1))) F1 A1) (fun c1 F1 A1 => (((F1 161 (38 + 14 * c1)) < 2 → Q (some (.int (-1))) F1 A1) ∧ (¬ (F1 161 (38 + 14 * c1)) < 2 → CM l mX4_cardLength 2 w nb [.ref (38 + 14 * c1)] F1 A1 (qi fun r2 F2 A2 => CM l mX5_has 1 w nb [.ref 2, .int r2] F2 A2 (qi fun r3 F3 A3 => ((¬ r3 = 0 → CM l mX4_cardBeasts 3 w nb [.ref (38 + 14 * c1)] F3 A3 (qi fun r4 F4 A4 => CM l mX5_namesEachOf 3 w nb [.ref 2, .int r4] F4 A4 (qi fun r5 F5 A5 => ((r5 = 0 → ZM l mX7_card 4 w nb Q 60 [(0, .ref 1)] [.int (-1)] F5 A5) ∧ (¬ r5 = 0 → CM l mX4_scoreCard 3 w nb [.ref (38 + 14 * c1), .ref 2] F5 A5 (qi fun r6 F6 A6 => ZM l mX7_card 4 w nb Q 60 [(0, .ref 1)] [.int r6] F6 A6)))))) ∧ (r3 = 0 → Q (some (.int (-1))) F3 A3))))))))) : CM l mX7_card 4 w nb [.ref 1, .int x1] F A Q := CM.ofZ (by decide) (fun _ _ => rfl) (fun _ _ => Nat.le_of_ble_eq_true rfl) (vX7_card_0  h)
set_option maxHeartbeats 4000000 in
set_option maxRecDepth 100000 in
theorem vX7_card_60 {l : Launch} {w : Nat → Nat} {nb : Nat} {Q : PM} {s0 : Int32} {F A : MI}  (h : CM l mX5_clear 3 w nb [.ref 2] F A (qv fun F1 A1 => Q (some (.int s0)) F1 A1)) : ZM l mX7_card 4 w nb Q 60 [(0, .ref 1)] [.int s0] F A := by
  intro T G B hY
  refine z_istore_n (lv' := [(0, .ref 1), (3, .int s0)]) dX7_card_60 rfl (by decide) rfl ?_
  refine z_aload_n dX7_card_61 0 rfl rfl ?_
  refine z_getr (k := 0) (fc := 280) (r := 2) dX7_card_62 ckX7 (by decide) fk_X7_10 rfl rfl (lat hY rfl) (lgg hY rfl) (by decide) ?_
  refine zm_Vv (As := []) (rest := []) dX7_card_65 okX5_clear ioX5_clear mk_X7_95 (ci := 5) rfl (by decide) (lat hY rfl) rfl rfl (Nat.le_of_ble_eq_true rfl) (by decide) hY (CM.monov h fun F1 A1 h => ?_)
  refine z_iload_n dX7_card_68 1 rfl rfl ?_
  exact z_iretM dX7_card_69 rfl h
set_option maxHeartbeats 4000000 in
set_option maxRecDepth 100000 in
theorem vX7_lets_0 {l : Launch} {w : Nat → Nat} {nb : Nat} {Q : PM} {x1 x2 : Int32} {F A : MI}  (h : CM l mX7_classAt 2 w nb [.ref 1, .int x1] F A (qc (fun F1 A1 => CM l mX7_beastAt 2 w nb [.ref 1, .int x2] F1 A1 (qb nb (fun F2 A2 => Q (some (.int (-1))) F2 A2) (fun c2 F2 A2 => Q (some (.int (-1))) F2 A2))) (fun c1 F1 A1 => CM l mX7_beastAt 2 w nb [.ref 1, .int x2] F1 A1 (qb nb (fun F3 A3 => Q (some (.int (-1))) F3 A3) (fun c3 F3 A3 => CM l mX4_admits 3 w nb [.ref (38 + 14 * c1), .ref (147 + 2 * c3)] F3 A3 (qi fun r4 F4 A4 => ((r4 = 0 → Q (some (.int 0)) F4 A4) ∧ (¬ r4 = 0 → Q (some (.int 1)) F4 A4)))))))) : ZM l mX7_lets 4 w nb Q 0 [(0, .ref 1), (1, .int x1), (2, .int x2)] [] F A := by
  intro T G B hY
  refine z_aload_n dX7_lets_0 0 rfl rfl ?_
  refine z_iload_n dX7_lets_1 1 rfl rfl ?_
  refine zm_Vc (As := [.int x1]) (rest := []) dX7_lets_2 okX7_classAt ioX7_classAt mk_X7_80 (ci := 7) rfl (by decide) (lat hY rfl) rfl rfl (Nat.le_of_ble_eq_true rfl) (by decide) hY (CM.monoc h (fun F1 A1 h => ?_) (fun c1 F1 A1 hc1 h => ?_))
  · skip
    refine z_astore_nN (lv' := [(0, .ref 1), (1, .int x1), (2, .int x2), (3, .null)]) dX7_lets_5 rfl (by decide) rfl ?_
    refine z_aload_n dX7_lets_6 0 rfl rfl ?_
    refine z_iload_n dX7_lets_7 2 rfl rfl ?_
    refine zm_Vb (As := [.int x2]) (rest := []) dX7_lets_8 okX7_beastAt ioX7_beastAt mk_X7_109 (ci := 7) rfl (by decide) (lat hY rfl) rfl rfl (Nat.le_of_ble_eq_true rfl) (by decide) hY (CM.monob h (fun F2 A2 h => ?_) (fun c2 F2 A2 hc2 h => ?_))
    · skip
      refine z_astoreN (lv' := [(0, .ref 1), (1, .int x1), (2, .int x2), (3, .null), (4, .null)]) dX7_lets_11 (by decide) rfl ?_
      refine z_aload_nN dX7_lets_13 3 rfl rfl ?_
      refine z_ifnullN (tgt := 22) dX7_lets_14 (by decide) ?_
      refine z_iconst (v := (-1)) dX7_lets_22 rfl ?_
      exact z_iretM dX7_lets_23 rfl h
    · skip
      refine z_astore (lv' := [(0, .ref 1), (1, .int x1), (2, .int x2), (3, .null), (4, .ref (147 + 2 * c2))]) dX7_lets_11 (by decide) rfl ?_
      refine z_aload_nN dX7_lets_13 3 rfl rfl ?_
      refine z_ifnullN (tgt := 22) dX7_lets_14 (by decide) ?_
      refine z_iconst (v := (-1)) dX7_lets_22 rfl ?_
      exact z_iretM dX7_lets_23 rfl h
  · skip
    refine z_astore_n (lv' := [(0, .ref 1), (1, .int x1), (2, .int x2), (3, .ref (38 + 14 * c1))]) dX7_lets_5 rfl (by decide) rfl ?_
    refine z_aload_n dX7_lets_6 0 rfl rfl ?_
    refine z_iload_n dX7_lets_7 2 rfl rfl ?_
    refine zm_Vb (As := [.int x2]) (rest := []) dX7_lets_8 okX7_beastAt ioX7_beastAt mk_X7_109 (ci := 7) rfl (by decide) (lat hY rfl) rfl rfl (Nat.le_of_ble_eq_true rfl) (by decide) hY (CM.monob h (fun F3 A3 h => ?_) (fun c3 F3 A3 hc3 h => ?_))
    · skip
      refine z_astoreN (lv' := [(0, .ref 1), (1, .int x1), (2, .int x2), (3, .ref (38 + 14 * c1)), (4, .null)]) dX7_lets_11 (by decide) rfl ?_
      refine z_aload_n dX7_lets_13 3 rfl rfl ?_
      refine z_ifnull dX7_lets_14 ?_
      refine z_aloadN dX7_lets_17 4 rfl ?_
      refine z_ifnonnullN dX7_lets_19 ?_
      refine z_iconst (v := (-1)) dX7_lets_22 rfl ?_
      exact z_iretM dX7_lets_23 rfl h
    · skip
      refine z_astore (lv' := [(0, .ref 1), (1, .int x1), (2, .int x2), (3, .ref (38 + 14 * c1)), (4, .ref (147 + 2 * c3))]) dX7_lets_11 (by decide) rfl ?_
      refine z_aload_n dX7_lets_13 3 rfl rfl ?_
      refine z_ifnull dX7_lets_14 ?_
      refine z_aload dX7_lets_17 4 rfl ?_
      refine z_ifnonnull (tgt := 24) dX7_lets_19 (by decide) ?_
      refine z_aload_n dX7_lets_24 3 rfl rfl ?_
      refine z_aload dX7_lets_25 4 rfl ?_
      refine zm_Vi (As := [.ref (147 + 2 * c3)]) (rest := []) dX7_lets_27 okX4_admits ioX4_admits mk_X7_116 (ci := 4) rfl (by decide) (lat4 hY hc1) rfl rfl (Nat.le_of_ble_eq_true rfl) (by decide) hY (CM.monoi h fun r4 F4 A4 h => ?_)
      refine z_if_eq (tgt := 37) dX7_lets_30 (by decide) (fun hb => ?_) (fun hb => ?_)
      · have h := h.1 hb
        refine z_iconst (v := 0) dX7_lets_37 rfl ?_
        exact z_iretM dX7_lets_38 rfl h
      · have h := h.2 hb
        refine z_iconst (v := 1) dX7_lets_33 rfl ?_
        refine z_goto (tgt := 38) dX7_lets_34 (by decide) ?_
        exact z_iretM dX7_lets_38 rfl h
theorem kX7_lets {l : Launch} {w : Nat → Nat} {nb : Nat} {Q : PM} {x1 x2 : Int32} {F A : MI}  (h : CM l mX7_classAt 2 w nb [.ref 1, .int x1] F A (qc (fun F1 A1 => CM l mX7_beastAt 2 w nb [.ref 1, .int x2] F1 A1 (qb nb (fun F2 A2 => Q (some (.int (-1))) F2 A2) (fun c2 F2 A2 => Q (some (.int (-1))) F2 A2))) (fun c1 F1 A1 => CM l mX7_beastAt 2 w nb [.ref 1, .int x2] F1 A1 (qb nb (fun F3 A3 => Q (some (.int (-1))) F3 A3) (fun c3 F3 A3 => CM l mX4_admits 3 w nb [.ref (38 + 14 * c1), .ref (147 + 2 * c3)] F3 A3 (qi fun r4 F4 A4 => ((r4 = 0 → Q (some (.int 0)) F4 A4) ∧ (¬ r4 = 0 → Q (some (.int 1)) F4 A4)))))))) : CM l mX7_lets 4 w nb [.ref 1, .int x1, .int x2] F A Q := CM.ofZ (by decide) (fun _ _ => rfl) (fun _ _ => Nat.le_of_ble_eq_true rfl) (vX7_lets_0  h)
set_option maxHeartbeats 4000000 in
set_option maxRecDepth 100000 in
theorem vX7_order_0 {l : Launch} {w : Nat → Nat} {nb : Nat} {Q : PM} {x1 x2 : Int32} {F A : MI}  (h : CM l mX7_classAt 2 w nb [.ref 1, .int x2] F A (qc (fun F1 A1 => CM l mX7_isBelow 1 w nb [.int x1, .int 6] F1 A1 (qi fun r2 F2 A2 => ((r2 = 0 → Q (some (.int 0)) F2 A2) ∧ (¬ r2 = 0 → Q (some (.int 0)) F2 A2)))) (fun c1 F1 A1 => CM l mX7_isBelow 1 w nb [.int x1, .int 6] F1 A1 (qi fun r3 F3 A3 => ((r3 = 0 → Q (some (.int 0)) F3 A3) ∧ (¬ r3 = 0 → (((F3 161 (38 + 14 * c1)) = 0 → Q (some (.int 0)) F3 A3) ∧ (¬ (F3 161 (38 + 14 * c1)) = 0 → CM l mX5_has 1 w nb [.ref 2, .int (F3 161 (38 + 14 * c1))] F3 A3 (qi fun r4 F4 A4 => ((¬ r4 = 0 → (vp_in x1 6 ∧ ((¬ ((A4 6 x1.toNatClampNeg) &&& (F4 160 (38 + 14 * c1))) = 0 → ZM l mX7_order 4 w nb Q 74 [(0, .ref 1), (1, .int x1), (3, .ref (38 + 14 * c1))] [] F4 A4) ∧ (((A4 6 x1.toNatClampNeg) &&& (F4 160 (38 + 14 * c1))) = 0 → CM l mX5_namesEachOf 3 w nb [.ref 2, .int (F4 160 (38 + 14 * c1))] F4 A4 (qi fun r6 F6 A6 => ((r6 = 0 → ZM l mX7_order 4 w nb Q 74 [(0, .ref 1), (1, .int x1), (3, .ref (38 + 14 * c1))] [] F6 A6) ∧ (¬ r6 = 0 → ZM l mX7_order 4 w nb Q 75 [(0, .ref 1), (1, .int x1), (3, .ref (38 + 14 * c1))] [.int 1] F6 A6))))))) ∧ (r4 = 0 → Q (some (.int 0)) F4 A4))))))))))) : ZM l mX7_order 4 w nb Q 0 [(0, .ref 1), (1, .int x1), (2, .int x2)] [] F A := by
  intro T G B hY
  refine z_aload_n dX7_order_0 0 rfl rfl ?_
  refine z_iload_n dX7_order_1 2 rfl rfl ?_
  refine zm_Vc (As := [.int x2]) (rest := []) dX7_order_2 okX7_classAt ioX7_classAt mk_X7_80 (ci := 7) rfl (by decide) (lat hY rfl) rfl rfl (Nat.le_of_ble_eq_true rfl) (by decide) hY (CM.monoc h (fun F1 A1 h => ?_) (fun c1 F1 A1 hc1 h => ?_))
  · skip
    refine z_astore_nN (lv' := [(0, .ref 1), (1, .int x1), (2, .int x2), (3, .null)]) dX7_order_5 rfl (by decide) rfl ?_
    refine z_iload_n dX7_order_6 1 rfl rfl ?_
    refine z_bipush (v := 6) dX7_order_7 rfl ?_
    refine zm_Si (As := [.int x1, .int 6]) (rest := []) dX7_order_9 okX7_isBelow smX7_isBelow mk_X7_102 rfl rfl (Nat.le_of_ble_eq_true rfl) (by decide) hY (CM.monoi h fun r2 F2 A2 h => ?_)
    refine z_if_eq (tgt := 40) dX7_order_12 (by decide) (fun hb => ?_) (fun hb => ?_)
    · have h := h.1 hb
      refine z_iconst (v := 0) dX7_order_40 rfl ?_
      exact z_zretM dX7_order_41 rfl (by decide) h
    · have h := h.2 hb
      refine z_aload_nN dX7_order_15 3 rfl rfl ?_
      refine z_ifnullN (tgt := 40) dX7_order_16 (by decide) ?_
      refine z_iconst (v := 0) dX7_order_40 rfl ?_
      exact z_zretM dX7_order_41 rfl (by decide) h
  · skip
    refine z_astore_n (lv' := [(0, .ref 1), (1, .int x1), (2, .int x2), (3, .ref (38 + 14 * c1))]) dX7_order_5 rfl (by decide) rfl ?_
    refine z_iload_n dX7_order_6 1 rfl rfl ?_
    refine z_bipush (v := 6) dX7_order_7 rfl ?_
    refine zm_Si (As := [.int x1, .int 6]) (rest := []) dX7_order_9 okX7_isBelow smX7_isBelow mk_X7_102 rfl rfl (Nat.le_of_ble_eq_true rfl) (by decide) hY (CM.monoi h fun r3 F3 A3 h => ?_)
    refine z_if_eq (tgt := 40) dX7_order_12 (by decide) (fun hb => ?_) (fun hb => ?_)
    · have h := h.1 hb
      refine z_iconst (v := 0) dX7_order_40 rfl ?_
      exact z_zretM dX7_order_41 rfl (by decide) h
    · have h := h.2 hb
      refine z_aload_n dX7_order_15 3 rfl rfl ?_
      refine z_ifnull dX7_order_16 ?_
      refine z_aload_n dX7_order_19 3 rfl rfl ?_
      refine z_geti' (k := 1) (fc := 161) (x := (F3 161 (38 + 14 * c1))) dX7_order_20 ckX4 (by decide) fk_X7_140 rfl rfl (lat4 hY hc1) rfl ?_
      refine z_if_eq (tgt := 40) dX7_order_23 (by decide) (fun hb => ?_) (fun hb => ?_)
      · have h := h.1 hb
        refine z_iconst (v := 0) dX7_order_40 rfl ?_
        exact z_zretM dX7_order_41 rfl (by decide) h
      · have h := h.2 hb
        refine z_aload_n dX7_order_26 0 rfl rfl ?_
        refine z_getr (k := 0) (fc := 280) (r := 2) dX7_order_27 ckX7 (by decide) fk_X7_10 rfl rfl (lat hY rfl) (lgg hY rfl) (by decide) ?_
        refine z_aload_n dX7_order_30 3 rfl rfl ?_
        refine z_geti' (k := 1) (fc := 161) (x := (F3 161 (38 + 14 * c1))) dX7_order_31 ckX4 (by decide) fk_X7_140 rfl rfl (lat4 hY hc1) rfl ?_
        refine zm_Vi (As := [.int (F3 161 (38 + 14 * c1))]) (rest := []) dX7_order_34 okX5_has ioX5_has mk_X7_84 (ci := 5) rfl (by decide) (lat hY rfl) rfl rfl (Nat.le_of_ble_eq_true rfl) (by decide) hY (CM.monoi h fun r4 F4 A4 h => ?_)
        refine z_if_ne (tgt := 42) dX7_order_37 (by decide) (fun hb => ?_) (fun hb => ?_)
        · have h := h.1 hb
          refine z_aload_n dX7_order_42 0 rfl rfl ?_
          refine z_getr (k := 3) (fc := 283) (r := 6) dX7_order_43 ckX7 (by decide) fk_X7_28 rfl rfl (lat hY rfl) (lgg hY rfl) (by decide) ?_
          refine z_iload_n dX7_order_46 1 rfl rfl ?_
          have hin5 := h.1
          have h := h.2
          refine z_iald' (n := 6) (x := (A4 6 x1.toNatClampNeg)) dX7_order_47 (lat hY rfl) (lln hY rfl) hin5 rfl ?_
          refine z_aload_n dX7_order_48 3 rfl rfl ?_
          refine z_geti' (k := 0) (fc := 160) (x := (F4 160 (38 + 14 * c1))) dX7_order_49 ckX4 (by decide) fk_X7_143 rfl rfl (lat4 hY hc1) rfl ?_
          refine z_iand dX7_order_52 ?_
          refine z_if_ne (tgt := 74) dX7_order_53 (by decide) (fun hb => ?_) (fun hb => ?_)
          · have h := h.1 hb
            exact z_pick [0, 1, 3] rfl (h T G B hY)
          · have h := h.2 hb
            refine z_aload_n dX7_order_56 0 rfl rfl ?_
            refine z_getr (k := 0) (fc := 280) (r := 2) dX7_order_57 ckX7 (by decide) fk_X7_10 rfl rfl (lat hY rfl) (lgg hY rfl) (by decide) ?_
            refine z_aload_n dX7_order_60 3 rfl rfl ?_
            refine z_geti' (k := 0) (fc := 160) (x := (F4 160 (38 + 14 * c1))) dX7_order_61 ckX4 (by decide) fk_X7_143 rfl rfl (lat4 hY hc1) rfl ?_
            refine zm_Vi (As := [.int (F4 160 (38 + 14 * c1))]) (rest := []) dX7_order_64 okX5_namesEachOf ioX5_namesEachOf mk_X7_146 (ci := 5) rfl (by decide) (lat hY rfl) rfl rfl (Nat.le_of_ble_eq_true rfl) (by decide) hY (CM.monoi h fun r6 F6 A6 h => ?_)
            refine z_if_eq (tgt := 74) dX7_order_67 (by decide) (fun hb => ?_) (fun hb => ?_)
            · have h := h.1 hb
              exact z_pick [0, 1, 3] rfl (h T G B hY)
            · have h := h.2 hb
              refine z_iconst (v := 1) dX7_order_70 rfl ?_
              refine z_goto (tgt := 75) dX7_order_71 (by decide) ?_
              exact z_pick [0, 1, 3] rfl (h T G B hY)
        · have h := h.2 hb
          refine z_iconst (v := 0) dX7_order_40 rfl ?_
          exact z_zretM dX7_order_41 rfl (by decide) h
theorem kX7_order {l : Launch} {w : Nat → Nat} {nb : Nat} {Q : PM} {x1 x2 : Int32} {F A : MI}  (h : CM l mX7_classAt 2 w nb [.ref 1, .int x2] F A (qc (fun F1 A1 => CM l mX7_isBelow 1 w nb [.int x1, .int 6] F1 A1 (qi fun r2 F2 A2 => ((r2 = 0 → Q (some (.int 0)) F2 A2) ∧ (¬ r2 = 0 → Q (some (.int 0)) F2 A2)))) (fun c1 F1 A1 => CM l mX7_isBelow 1 w nb [.int x1, .int 6] F1 A1 (qi fun r3 F3 A3 => ((r3 = 0 → Q (some (.int 0)) F3 A3) ∧ (¬ r3 = 0 → (((F3 161 (38 + 14 * c1)) = 0 → Q (some (.int 0)) F3 A3) ∧ (¬ (F3 161 (38 + 14 * c1)) = 0 → CM l mX5_has 1 w nb [.ref 2, .int (F3 161 (38 + 14 * c1))] F3 A3 (qi fun r4 F4 A4 => ((¬ r4 = 0 → (vp_in x1 6 ∧ ((¬ ((A4 6 x1.toNatClampNeg) &&& (F4 160 (38 + 14 * c1))) = 0 → ZM l mX7_order 4 w nb Q 74 [(0, .ref 1), (1, .int x1), (3, .ref (38 + 14 * c1))] [] F4 A4) ∧ (((A4 6 x1.toNatClampNeg) &&& (F4 160 (38 + 14 * c1))) = 0 → CM l mX5_namesEachOf 3 w nb [.ref 2, .int (F4 160 (38 + 14 * c1))] F4 A4 (qi fun r6 F6 A6 => ((r6 = 0 → ZM l mX7_order 4 w nb Q 74 [(0, .ref 1), (1, .int x1), (3, .ref (38 + 14 * c1))] [] F6 A6) ∧ (¬ r6 = 0 → ZM l mX7_order 4 w nb Q 75 [(0, .ref 1), (1, .int x1), (3, .ref (38 + 14 * c1))] [.int 1] F6 A6))))))) ∧ (r4 = 0 → Q (some (.int 0)) F4 A4))))))))))) : CM l mX7_order 4 w nb [.ref 1, .int x1, .int x2] F A Q := CM.ofZ (by decide) (fun _ _ => rfl) (fun _ _ => Nat.le_of_ble_eq_true rfl) (vX7_order_0  h)
set_option maxHeartbeats 4000000 in
set_option maxRecDepth 100000 in
theorem vX7_order_74 {l : Launch} {w : Nat → Nat} {nb : Nat} {Q : PM} {x1 : Int32} {F A : MI} {c3 : Nat} (hc3 : c3 < 6) (h : ZM l mX7_order 4 w nb Q 75 [(0, .ref 1), (1, .int x1), (3, .ref (38 + 14 * c3))] [.int 0] F A) : ZM l mX7_order 4 w nb Q 74 [(0, .ref 1), (1, .int x1), (3, .ref (38 + 14 * c3))] [] F A := by
  intro T G B hY
  refine z_iconst (v := 0) dX7_order_74 rfl ?_
  exact z_pick [0, 1, 2] rfl (h T G B hY)
set_option maxHeartbeats 4000000 in
set_option maxRecDepth 100000 in
theorem vX7_order_75 {l : Launch} {w : Nat → Nat} {nb : Nat} {Q : PM} {x1 s0 : Int32} {F A : MI} {c3 : Nat} (hc3 : c3 < 6) (h : ((s0 = 0 → ZM l mX7_order 4 w nb Q 99 [(0, .ref 1), (4, .int s0)] [] F A) ∧ (¬ s0 = 0 → CM l mX4_keepOrder 3 w nb [.ref (38 + 14 * c3), .int x1, .ref 2] F A (qv fun F1 A1 => CM l mX2_join 3 w nb [.ref 7, .ref (38 + 14 * c3)] F1 A1 (qv fun F2 A2 => ZM l mX7_order 4 w nb Q 99 [(0, .ref 1), (4, .int s0)] [] F2 A2))))) : ZM l mX7_order 4 w nb Q 75 [(0, .ref 1), (1, .int x1), (3, .ref (38 + 14 * c3))] [.int s0] F A := by
  intro T G B hY
  refine z_istore (lv' := [(0, .ref 1), (1, .int x1), (3, .ref (38 + 14 * c3)), (4, .int s0)]) dX7_order_75 (by decide) rfl ?_
  refine z_iload dX7_order_77 3 rfl ?_
  refine z_if_eq (tgt := 99) dX7_order_79 (by decide) (fun hb => ?_) (fun hb => ?_)
  · have h := h.1 hb
    exact z_pick [0, 3] rfl (h T G B hY)
  · have h := h.2 hb
    refine z_aload_n dX7_order_82 2 rfl rfl ?_
    refine z_iload_n dX7_order_83 1 rfl rfl ?_
    refine z_aload_n dX7_order_84 0 rfl rfl ?_
    refine z_getr (k := 0) (fc := 280) (r := 2) dX7_order_85 ckX7 (by decide) fk_X7_10 rfl rfl (lat hY rfl) (lgg hY rfl) (by decide) ?_
    refine zm_Vv (As := [.int x1, .ref 2]) (rest := []) dX7_order_88 okX4_keepOrder ioX4_keepOrder mk_X7_149 (ci := 4) rfl (by decide) (lat4 hY hc3) rfl rfl (Nat.le_of_ble_eq_true rfl) (by decide) hY (CM.monov h fun F1 A1 h => ?_)
    refine z_aload_n dX7_order_91 0 rfl rfl ?_
    refine z_getr (k := 4) (fc := 284) (r := 7) dX7_order_92 ckX7 (by decide) fk_X7_35 rfl rfl (lat hY rfl) (lgg hY rfl) (by decide) ?_
    refine z_aload_n dX7_order_95 2 rfl rfl ?_
    refine zm_Vv (As := [.ref (38 + 14 * c3)]) (rest := []) dX7_order_96 okX2_join ioX2_join mk_X7_130 (ci := 2) rfl (by decide) (lat hY rfl) rfl rfl (Nat.le_of_ble_eq_true rfl) (by decide) hY (CM.monov h fun F2 A2 h => ?_)
    exact z_pick [0, 3] rfl (h T G B hY)
set_option maxHeartbeats 4000000 in
set_option maxRecDepth 100000 in
theorem vX7_order_99 {l : Launch} {w : Nat → Nat} {nb : Nat} {Q : PM} {x4 : Int32} {F A : MI} {c3 : Nat} (hc3 : c3 < 6) (h : CM l mX5_clear 3 w nb [.ref 2] F A (qv fun F1 A1 => ((x4 = 0 ∨ x4 = 1) ∧ Q (some (.int x4)) F1 A1))) : ZM l mX7_order 4 w nb Q 99 [(0, .ref 1), (4, .int x4)] [] F A := by
  intro T G B hY
  refine z_aload_n dX7_order_99 0 rfl rfl ?_
  refine z_getr (k := 0) (fc := 280) (r := 2) dX7_order_100 ckX7 (by decide) fk_X7_10 rfl rfl (lat hY rfl) (lgg hY rfl) (by decide) ?_
  refine zm_Vv (As := []) (rest := []) dX7_order_103 okX5_clear ioX5_clear mk_X7_95 (ci := 5) rfl (by decide) (lat hY rfl) rfl rfl (Nat.le_of_ble_eq_true rfl) (by decide) hY (CM.monov h fun F1 A1 h => ?_)
  refine z_iload dX7_order_106 1 rfl ?_
  exact z_zretM dX7_order_108 rfl h.1 h.2
set_option maxHeartbeats 4000000 in
set_option maxRecDepth 100000 in
theorem vX7_protest_0 {l : Launch} {w : Nat → Nat} {nb : Nat} {Q : PM} {x1 x2 : Int32} {F A : MI}  (h : CM l mX7_classAt 2 w nb [.ref 1, .int x1] F A (qc (fun F1 A1 => Q (some (.int 0)) F1 A1) (fun c1 F1 A1 => CM l mX7_beastAt 2 w nb [.ref 1, .int x2] F1 A1 (qb nb (fun F2 A2 => Q (some (.int 0)) F2 A2) (fun c2 F2 A2 => CM l mX4_holds 1 w nb [.ref (38 + 14 * c1), .int x2] F2 A2 (qi fun r3 F3 A3 => ((¬ r3 = 0 → CM l mX4_putOut 1 w nb [.ref (38 + 14 * c1), .int x2] F3 A3 (qv fun F4 A4 => CM l mX2_join 3 w nb [.ref 7, .ref (38 + 14 * c1)] F4 A4 (qv fun F5 A5 => Q (some (.int 1)) F5 A5))) ∧ (r3 = 0 → Q (some (.int 0)) F3 A3)))))))) : ZM l mX7_protest 4 w nb Q 0 [(0, .ref 1), (1, .int x1), (2, .int x2)] [] F A := by
  intro T G B hY
  refine z_aload_n dX7_protest_0 0 rfl rfl ?_
  refine z_iload_n dX7_protest_1 1 rfl rfl ?_
  refine zm_Vc (As := [.int x1]) (rest := []) dX7_protest_2 okX7_classAt ioX7_classAt mk_X7_80 (ci := 7) rfl (by decide) (lat hY rfl) rfl rfl (Nat.le_of_ble_eq_true rfl) (by decide) hY (CM.monoc h (fun F1 A1 h => ?_) (fun c1 F1 A1 hc1 h => ?_))
  · skip
    refine z_astore_nN (lv' := [(0, .ref 1), (1, .int x1), (2, .int x2), (3, .null)]) dX7_protest_5 rfl (by decide) rfl ?_
    refine z_aload_nN dX7_protest_6 3 rfl rfl ?_
    refine z_ifnullN (tgt := 26) dX7_protest_7 (by decide) ?_
    refine z_iconst (v := 0) dX7_protest_26 rfl ?_
    exact z_zretM dX7_protest_27 rfl (by decide) h
  · skip
    refine z_astore_n (lv' := [(0, .ref 1), (1, .int x1), (2, .int x2), (3, .ref (38 + 14 * c1))]) dX7_protest_5 rfl (by decide) rfl ?_
    refine z_aload_n dX7_protest_6 3 rfl rfl ?_
    refine z_ifnull dX7_protest_7 ?_
    refine z_aload_n dX7_protest_10 0 rfl rfl ?_
    refine z_iload_n dX7_protest_11 2 rfl rfl ?_
    refine zm_Vb (As := [.int x2]) (rest := []) dX7_protest_12 okX7_beastAt ioX7_beastAt mk_X7_109 (ci := 7) rfl (by decide) (lat hY rfl) rfl rfl (Nat.le_of_ble_eq_true rfl) (by decide) hY (CM.monob h (fun F2 A2 h => ?_) (fun c2 F2 A2 hc2 h => ?_))
    · skip
      refine z_ifnullN (tgt := 26) dX7_protest_15 (by decide) ?_
      refine z_iconst (v := 0) dX7_protest_26 rfl ?_
      exact z_zretM dX7_protest_27 rfl (by decide) h
    · skip
      refine z_ifnull dX7_protest_15 ?_
      refine z_aload_n dX7_protest_18 3 rfl rfl ?_
      refine z_iload_n dX7_protest_19 2 rfl rfl ?_
      refine zm_Vi (As := [.int x2]) (rest := []) dX7_protest_20 okX4_holds ioX4_holds mk_X7_134 (ci := 4) rfl (by decide) (lat4 hY hc1) rfl rfl (Nat.le_of_ble_eq_true rfl) (by decide) hY (CM.monoi h fun r3 F3 A3 h => ?_)
      refine z_if_ne (tgt := 28) dX7_protest_23 (by decide) (fun hb => ?_) (fun hb => ?_)
      · have h := h.1 hb
        refine z_aload_n dX7_protest_28 3 rfl rfl ?_
        refine z_iload_n dX7_protest_29 2 rfl rfl ?_
        refine zm_Vv (As := [.int x2]) (rest := []) dX7_protest_30 okX4_putOut ioX4_putOut mk_X7_137 (ci := 4) rfl (by decide) (lat4 hY hc1) rfl rfl (Nat.le_of_ble_eq_true rfl) (by decide) hY (CM.monov h fun F4 A4 h => ?_)
        refine z_aload_n dX7_protest_33 0 rfl rfl ?_
        refine z_getr (k := 4) (fc := 284) (r := 7) dX7_protest_34 ckX7 (by decide) fk_X7_35 rfl rfl (lat hY rfl) (lgg hY rfl) (by decide) ?_
        refine z_aload_n dX7_protest_37 3 rfl rfl ?_
        refine zm_Vv (As := [.ref (38 + 14 * c1)]) (rest := []) dX7_protest_38 okX2_join ioX2_join mk_X7_130 (ci := 2) rfl (by decide) (lat hY rfl) rfl rfl (Nat.le_of_ble_eq_true rfl) (by decide) hY (CM.monov h fun F5 A5 h => ?_)
        refine z_iconst (v := 1) dX7_protest_41 rfl ?_
        exact z_zretM dX7_protest_42 rfl (by decide) h
      · have h := h.2 hb
        refine z_iconst (v := 0) dX7_protest_26 rfl ?_
        exact z_zretM dX7_protest_27 rfl (by decide) h
