set_option maxHeartbeats 4000000 in
set_option maxRecDepth 100000 in
theorem vX7_placed_0 {l : Launch} {w : Nat → Nat} {nb : Nat} {Q : PM} {x1 x2 : Int32} {F A : MI}  (h : CM l mX7_classAt 2 w nb [.ref 1, .int x1] F A (qc (fun F1 A1 => Q (some (.int (-1))) F1 A1) (fun c1 F1 A1 => ((x2 < 1 → Q (some (.int (-1))) F1 A1) ∧ (¬ x2 < 1 → ((x2 ≤ (F1 161 (38 + 14 * c1)) → (vp_in (x2 - 1) 8 ∧ Q (some (.int (A1 (38 + 14 * c1 + 12) (x2 - 1).toNatClampNeg))) F1 A1)) ∧ (¬ x2 ≤ (F1 161 (38 + 14 * c1)) → Q (some (.int (-1))) F1 A1))))))) : ZM l mX7_placed 3 w nb Q 0 [(0, .ref 1), (1, .int x1), (2, .int x2)] [] F A := by
  intro T G B hY
  refine z_aload_n dX7_placed_0 0 rfl rfl ?_
  refine z_iload_n dX7_placed_1 1 rfl rfl ?_
  refine zm_Vc (As := [.int x1]) (rest := []) dX7_placed_2 okX7_classAt ioX7_classAt mk_X7_80 (ci := 7) rfl (by decide) (lat hY rfl) rfl rfl (Nat.le_of_ble_eq_true rfl) (by decide) hY (CM.monoc h (fun F1 A1 h => ?_) (fun c1 F1 A1 hc1 h => ?_))
  · skip
    refine z_astore_nN (lv' := [(0, .ref 1), (1, .int x1), (2, .int x2), (3, .null)]) dX7_placed_5 rfl (by decide) rfl ?_
    refine z_aload_nN dX7_placed_6 3 rfl rfl ?_
    refine z_ifnullN (tgt := 23) dX7_placed_7 (by decide) ?_
    refine z_iconst (v := (-1)) dX7_placed_23 rfl ?_
    exact z_iretM dX7_placed_24 rfl h
  · skip
    refine z_astore_n (lv' := [(0, .ref 1), (1, .int x1), (2, .int x2), (3, .ref (38 + 14 * c1))]) dX7_placed_5 rfl (by decide) rfl ?_
    refine z_aload_n dX7_placed_6 3 rfl rfl ?_
    refine z_ifnull dX7_placed_7 ?_
    refine z_iload_n dX7_placed_10 2 rfl rfl ?_
    refine z_iconst (v := 1) dX7_placed_11 rfl ?_
    refine z_icmp_lt (tgt := 23) dX7_placed_12 (by decide) (fun hb => ?_) (fun hb => ?_)
    · have h := h.1 hb
      refine z_iconst (v := (-1)) dX7_placed_23 rfl ?_
      exact z_iretM dX7_placed_24 rfl h
    · have h := h.2 hb
      refine z_iload_n dX7_placed_15 2 rfl rfl ?_
      refine z_aload_n dX7_placed_16 3 rfl rfl ?_
      refine z_geti' (k := 1) (fc := 161) (x := (F1 161 (38 + 14 * c1))) dX7_placed_17 ckX4 (by decide) fk_X7_140 rfl rfl (lat4 hY hc1) rfl ?_
      refine z_icmp_le (tgt := 25) dX7_placed_20 (by decide) (fun hb => ?_) (fun hb => ?_)
      · have h := h.1 hb
        refine z_aload_n dX7_placed_25 3 rfl rfl ?_
        refine z_getr (k := 6) (fc := 166) (r := (38 + 14 * c1 + 12)) dX7_placed_26 ckX4 (by decide) fk_X7_153 rfl rfl (lat4 hY hc1) (lggc hY 166 12 hc1 (by decide)) (by omega) ?_
        refine z_iload_n dX7_placed_29 2 rfl rfl ?_
        refine z_iconst (v := 1) dX7_placed_30 rfl ?_
        refine z_isub dX7_placed_31 ?_
        have hin2 := h.1
        have h := h.2
        refine z_iald' (n := 8) (x := (A1 (38 + 14 * c1 + 12) (x2 - 1).toNatClampNeg)) dX7_placed_32 (latc hY hc1 12 (by decide)) (llnc hY hc1 12 (by decide)) hin2 rfl ?_
        exact z_iretM dX7_placed_33 rfl h
      · have h := h.2 hb
        refine z_iconst (v := (-1)) dX7_placed_23 rfl ?_
        exact z_iretM dX7_placed_24 rfl h
set_option maxHeartbeats 4000000 in
set_option maxRecDepth 100000 in
theorem vX7_price_0 {l : Launch} {w : Nat → Nat} {nb : Nat} {Q : PM} {x1 : Int32} {F A : MI}  (h : CM l mX7_beastAt 2 w nb [.ref 1, .int x1] F A (qb nb (fun F1 A1 => Q (some (.int (-1))) F1 A1) (fun c1 F1 A1 => ZM l mX7_price 3 w nb Q 15 [(0, .ref 1), (1, .int x1), (2, .int 100), (3, .int 0)] [] F1 A1))) : ZM l mX7_price 3 w nb Q 0 [(0, .ref 1), (1, .int x1)] [] F A := by
  intro T G B hY
  refine z_aload_n dX7_price_0 0 rfl rfl ?_
  refine z_iload_n dX7_price_1 1 rfl rfl ?_
  refine zm_Vb (As := [.int x1]) (rest := []) dX7_price_2 okX7_beastAt ioX7_beastAt mk_X7_109 (ci := 7) rfl (by decide) (lat hY rfl) rfl rfl (Nat.le_of_ble_eq_true rfl) (by decide) hY (CM.monob h (fun F1 A1 h => ?_) (fun c1 F1 A1 hc1 h => ?_))
  · skip
    refine z_ifnonnullN dX7_price_5 ?_
    refine z_iconst (v := (-1)) dX7_price_8 rfl ?_
    exact z_iretM dX7_price_9 rfl h
  · skip
    refine z_ifnonnull (tgt := 10) dX7_price_5 (by decide) ?_
    refine z_bipush (v := 100) dX7_price_10 rfl ?_
    refine z_istore_n (lv' := [(0, .ref 1), (1, .int x1), (2, .int 100)]) dX7_price_12 rfl (by decide) rfl ?_
    refine z_iconst (v := 0) dX7_price_13 rfl ?_
    refine z_istore_n (lv' := [(0, .ref 1), (1, .int x1), (2, .int 100), (3, .int 0)]) dX7_price_14 rfl (by decide) rfl ?_
    exact z_pick [0, 1, 2, 3] rfl (h T G B hY)
set_option maxHeartbeats 4000000 in
set_option maxRecDepth 100000 in
theorem vX7_price_15 {l : Launch} {w : Nat → Nat} {nb : Nat} {Q : PM} {x1 x2 x3 : Int32} {F A : MI}  (h : ((6 ≤ x3 → Q (some (.int x2)) F A) ∧ (¬ 6 ≤ x3 → (vp_in x3 6 ∧ CM l mX4_placeOf 1 w nb [.ref (38 + 14 * x3.toNatClampNeg), .int x1] F A (qi fun r2 F2 A2 => ((r2 ≤ 0 → ZM l mX7_price 3 w nb Q 46 [(0, .ref 1), (1, .int x1), (2, .int x2), (3, .int x3)] [] F2 A2) ∧ (¬ r2 ≤ 0 → (¬ r2 = 0 ∧ ZM l mX7_price 3 w nb Q 46 [(0, .ref 1), (1, .int x1), (2, .int (x2 + (50 / r2))), (3, .int x3)] [] F2 A2)))))))) : ZM l mX7_price 3 w nb Q 15 [(0, .ref 1), (1, .int x1), (2, .int x2), (3, .int x3)] [] F A := by
  intro T G B hY
  refine z_iload_n dX7_price_15 3 rfl rfl ?_
  refine z_bipush (v := 6) dX7_price_16 rfl ?_
  refine z_icmp_ge (tgt := 52) dX7_price_18 (by decide) (fun hb => ?_) (fun hb => ?_)
  · have h := h.1 hb
    refine z_iload_n dX7_price_52 2 rfl rfl ?_
    exact z_iretM dX7_price_53 rfl h
  · have h := h.2 hb
    refine z_aload_n dX7_price_21 0 rfl rfl ?_
    refine z_getr (k := 2) (fc := 282) (r := 5) dX7_price_22 ckX7 (by decide) fk_X7_24 rfl rfl (lat hY rfl) (lgg hY rfl) (by decide) ?_
    refine z_iload_n dX7_price_25 3 rfl rfl ?_
    have hin1 := h.1
    have h := h.2
    refine z_aald' (ci := 12) (n := 6) (r := (38 + 14 * x3.toNatClampNeg)) dX7_price_26 (lat hY rfl) (by decide) (lln hY rfl) hin1 (lbb5 hY (vin hin1)) (by omega) ?_
    refine z_iload_n dX7_price_27 1 rfl rfl ?_
    refine zm_Vi (As := [.int x1]) (rest := []) dX7_price_28 okX4_placeOf ioX4_placeOf mk_X7_193 (ci := 4) rfl (by decide) (lat4 hY (vin hin1)) rfl rfl (Nat.le_of_ble_eq_true rfl) (by decide) hY (CM.monoi h fun r2 F2 A2 h => ?_)
    refine z_istore (lv' := [(0, .ref 1), (1, .int x1), (2, .int x2), (3, .int x3), (4, .int r2)]) dX7_price_31 (by decide) rfl ?_
    refine z_iload dX7_price_33 4 rfl ?_
    refine z_if_le (tgt := 46) dX7_price_35 (by decide) (fun hb => ?_) (fun hb => ?_)
    · have h := h.1 hb
      exact z_pick [0, 1, 2, 3] rfl (h T G B hY)
    · have h := h.2 hb
      refine z_iload_n dX7_price_38 2 rfl rfl ?_
      refine z_bipush (v := 50) dX7_price_39 rfl ?_
      refine z_iload dX7_price_41 4 rfl ?_
      refine z_idiv dX7_price_43 h.1 ?_
      have h := h.2
      refine z_iadd dX7_price_44 ?_
      refine z_istore_n (lv' := [(0, .ref 1), (1, .int x1), (2, .int (x2 + (50 / r2))), (3, .int x3), (4, .int r2)]) dX7_price_45 rfl (by decide) rfl ?_
      exact z_pick [0, 1, 2, 3] rfl (h T G B hY)
set_option maxHeartbeats 4000000 in
set_option maxRecDepth 100000 in
theorem vX7_price_46 {l : Launch} {w : Nat → Nat} {nb : Nat} {Q : PM} {x1 x2 x3 : Int32} {F A : MI}  (h : ZM l mX7_price 3 w nb Q 15 [(0, .ref 1), (1, .int x1), (2, .int x2), (3, .int (x3 + 1))] [] F A) : ZM l mX7_price 3 w nb Q 46 [(0, .ref 1), (1, .int x1), (2, .int x2), (3, .int x3)] [] F A := by
  intro T G B hY
  refine z_iinc (v := (x3 + 1)) (lv' := [(0, .ref 1), (1, .int x1), (2, .int x2), (3, .int (x3 + 1))]) dX7_price_46 3 rfl rfl (by decide) rfl ?_
  refine z_goto (tgt := 15) dX7_price_49 (by decide) ?_
  exact z_pick [0, 1, 2, 3] rfl (h T G B hY)
set_option maxHeartbeats 4000000 in
set_option maxRecDepth 100000 in
theorem vX7_swaps_0 {l : Launch} {w : Nat → Nat} {nb : Nat} {Q : PM} {x1 : Int32} {F A : MI}  (h : CM l mX7_classAt 2 w nb [.ref 1, .int x1] F A (qc (fun F1 A1 => Q (some (.int (-1))) F1 A1) (fun c1 F1 A1 => Q (some (.int (F1 167 (38 + 14 * c1)))) F1 A1))) : ZM l mX7_swaps 3 w nb Q 0 [(0, .ref 1), (1, .int x1)] [] F A := by
  intro T G B hY
  refine z_aload_n dX7_swaps_0 0 rfl rfl ?_
  refine z_iload_n dX7_swaps_1 1 rfl rfl ?_
  refine zm_Vc (As := [.int x1]) (rest := []) dX7_swaps_2 okX7_classAt ioX7_classAt mk_X7_80 (ci := 7) rfl (by decide) (lat hY rfl) rfl rfl (Nat.le_of_ble_eq_true rfl) (by decide) hY (CM.monoc h (fun F1 A1 h => ?_) (fun c1 F1 A1 hc1 h => ?_))
  · skip
    refine z_astore_nN (lv' := [(0, .ref 1), (1, .int x1), (2, .null)]) dX7_swaps_5 rfl (by decide) rfl ?_
    refine z_aload_nN dX7_swaps_6 2 rfl rfl ?_
    refine z_ifnonnullN dX7_swaps_7 ?_
    refine z_iconst (v := (-1)) dX7_swaps_10 rfl ?_
    refine z_goto (tgt := 18) dX7_swaps_11 (by decide) ?_
    exact z_iretM dX7_swaps_18 rfl h
  · skip
    refine z_astore_n (lv' := [(0, .ref 1), (1, .int x1), (2, .ref (38 + 14 * c1))]) dX7_swaps_5 rfl (by decide) rfl ?_
    refine z_aload_n dX7_swaps_6 2 rfl rfl ?_
    refine z_ifnonnull (tgt := 14) dX7_swaps_7 (by decide) ?_
    refine z_aload_n dX7_swaps_14 2 rfl rfl ?_
    refine z_geti' (k := 7) (fc := 167) (x := (F1 167 (38 + 14 * c1))) dX7_swaps_15 ckX4 (by decide) fk_X7_156 rfl rfl (lat4 hY hc1) rfl ?_
    exact z_iretM dX7_swaps_18 rfl h
set_option maxHeartbeats 4000000 in
set_option maxRecDepth 100000 in
theorem vX7_team_0 {l : Launch} {w : Nat → Nat} {nb : Nat} {Q : PM} {x1 : Int32} {F A : MI}  (h : CM l mX7_isBelow 1 w nb [.int x1, .int 10] F A (qi fun r1 F1 A1 => ((¬ r1 = 0 → ZM l mX7_team 3 w nb Q 18 [(0, .ref 1), (1, .int x1), (2, .int 0), (3, .int 0), (4, .int 1)] [] F1 A1) ∧ (r1 = 0 → Q (some (.int (-1))) F1 A1)))) : ZM l mX7_team 3 w nb Q 0 [(0, .ref 1), (1, .int x1)] [] F A := by
  intro T G B hY
  refine z_iload_n dX7_team_0 1 rfl rfl ?_
  refine z_bipush (v := 10) dX7_team_1 rfl ?_
  refine zm_Si (As := [.int x1, .int 10]) (rest := []) dX7_team_3 okX7_isBelow smX7_isBelow mk_X7_102 rfl rfl (Nat.le_of_ble_eq_true rfl) (by decide) hY (CM.monoi h fun r1 F1 A1 h => ?_)
  refine z_if_ne (tgt := 11) dX7_team_6 (by decide) (fun hb => ?_) (fun hb => ?_)
  · have h := h.1 hb
    refine z_iconst (v := 0) dX7_team_11 rfl ?_
    refine z_istore_n (lv' := [(0, .ref 1), (1, .int x1), (2, .int 0)]) dX7_team_12 rfl (by decide) rfl ?_
    refine z_iconst (v := 0) dX7_team_13 rfl ?_
    refine z_istore_n (lv' := [(0, .ref 1), (1, .int x1), (2, .int 0), (3, .int 0)]) dX7_team_14 rfl (by decide) rfl ?_
    refine z_iconst (v := 1) dX7_team_15 rfl ?_
    refine z_istore (lv' := [(0, .ref 1), (1, .int x1), (2, .int 0), (3, .int 0), (4, .int 1)]) dX7_team_16 (by decide) rfl ?_
    exact z_pick [0, 1, 2, 3, 4] rfl (h T G B hY)
  · have h := h.2 hb
    refine z_iconst (v := (-1)) dX7_team_9 rfl ?_
    exact z_iretM dX7_team_10 rfl h
set_option maxHeartbeats 4000000 in
set_option maxRecDepth 100000 in
theorem vX7_team_18 {l : Launch} {w : Nat → Nat} {nb : Nat} {Q : PM} {x1 x2 x3 x4 : Int32} {F A : MI}  (h : ((8 < x4 → ((¬ x2 = 3 → Q (some (.int (-1))) F A) ∧ (x2 = 3 → Q (some (.int x3)) F A))) ∧ (¬ 8 < x4 → ZM l mX7_team 3 w nb Q 28 [(0, .ref 1), (1, .int x1), (2, .int x2), (3, .int x3), (4, .int x4), (5, .int 0)] [] F A))) : ZM l mX7_team 3 w nb Q 18 [(0, .ref 1), (1, .int x1), (2, .int x2), (3, .int x3), (4, .int x4)] [] F A := by
  intro T G B hY
  refine z_iload dX7_team_18 4 rfl ?_
  refine z_bipush (v := 8) dX7_team_20 rfl ?_
  refine z_icmp_gt (tgt := 87) dX7_team_22 (by decide) (fun hb => ?_) (fun hb => ?_)
  · have h := h.1 hb
    refine z_iload_n dX7_team_87 2 rfl rfl ?_
    refine z_iconst (v := 3) dX7_team_88 rfl ?_
    refine z_icmp_ne (tgt := 96) dX7_team_89 (by decide) (fun hb => ?_) (fun hb => ?_)
    · have h := h.1 hb
      refine z_iconst (v := (-1)) dX7_team_96 rfl ?_
      exact z_iretM dX7_team_97 rfl h
    · have h := h.2 hb
      refine z_iload_n dX7_team_92 3 rfl rfl ?_
      refine z_goto (tgt := 97) dX7_team_93 (by decide) ?_
      exact z_iretM dX7_team_97 rfl h
  · have h := h.2 hb
    refine z_iconst (v := 0) dX7_team_25 rfl ?_
    refine z_istore (lv' := [(0, .ref 1), (1, .int x1), (2, .int x2), (3, .int x3), (4, .int x4), (5, .int 0)]) dX7_team_26 (by decide) rfl ?_
    exact z_pick [0, 1, 2, 3, 4, 5] rfl (h T G B hY)
set_option maxHeartbeats 4000000 in
set_option maxRecDepth 100000 in
theorem vX7_team_28 {l : Launch} {w : Nat → Nat} {nb : Nat} {Q : PM} {x1 x2 x3 x4 x5 : Int32} {F A : MI}  (h : (((F 288 1) ≤ x5 → ZM l mX7_team 3 w nb Q 81 [(0, .ref 1), (1, .int x1), (2, .int x2), (3, .int x3), (4, .int x4)] [] F A) ∧ (¬ (F 288 1) ≤ x5 → ((3 ≤ x2 → ZM l mX7_team 3 w nb Q 81 [(0, .ref 1), (1, .int x1), (2, .int x2), (3, .int x3), (4, .int x4)] [] F A) ∧ (¬ 3 ≤ x2 → (vp_in x5 20 ∧ x5.toNatClampNeg < nb ∧ ((¬ (F 2 (147 + 2 * x5.toNatClampNeg)) = x1 → ZM l mX7_team 3 w nb Q 75 [(0, .ref 1), (1, .int x1), (2, .int x2), (3, .int x3), (4, .int x4), (5, .int x5)] [] F A) ∧ ((F 2 (147 + 2 * x5.toNatClampNeg)) = x1 → CM l mX7_leastPlace 2 w nb [.ref 1, .int x5] F A (qi fun r2 F2 A2 => ((¬ r2 = x4 → ZM l mX7_team 3 w nb Q 75 [(0, .ref 1), (1, .int x1), (2, .int x2), (3, .int x3), (4, .int x4), (5, .int x5)] [] F2 A2) ∧ (r2 = x4 → ZM l mX7_team 3 w nb Q 75 [(0, .ref 1), (1, .int x1), (2, .int (x2 + 1)), (3, .int (x3 + x4)), (4, .int x4), (5, .int x5)] [] F2 A2))))))))))) : ZM l mX7_team 3 w nb Q 28 [(0, .ref 1), (1, .int x1), (2, .int x2), (3, .int x3), (4, .int x4), (5, .int x5)] [] F A := by
  intro T G B hY
  refine z_iload dX7_team_28 5 rfl ?_
  refine z_aload_n dX7_team_30 0 rfl rfl ?_
  refine z_geti' (k := 8) (fc := 288) (x := (F 288 1)) dX7_team_31 ckX7 (by decide) fk_X7_60 rfl rfl (lat hY rfl) rfl ?_
  refine z_icmp_ge (tgt := 81) dX7_team_34 (by decide) (fun hb => ?_) (fun hb => ?_)
  · have h := h.1 hb
    exact z_pick [0, 1, 2, 3, 4] rfl (h T G B hY)
  · have h := h.2 hb
    refine z_iload_n dX7_team_37 2 rfl rfl ?_
    refine z_iconst (v := 3) dX7_team_38 rfl ?_
    refine z_icmp_ge (tgt := 81) dX7_team_39 (by decide) (fun hb => ?_) (fun hb => ?_)
    · have h := h.1 hb
      exact z_pick [0, 1, 2, 3, 4] rfl (h T G B hY)
    · have h := h.2 hb
      refine z_aload_n dX7_team_42 0 rfl rfl ?_
      refine z_getr (k := 1) (fc := 281) (r := 4) dX7_team_43 ckX7 (by decide) fk_X7_18 rfl rfl (lat hY rfl) (lgg hY rfl) (by decide) ?_
      refine z_iload dX7_team_46 5 rfl ?_
      have hin1 := h.1
      have h := h.2
      have hi1 := h.1
      have h := h.2
      refine z_aald' (ci := 11) (n := 20) (r := (147 + 2 * x5.toNatClampNeg)) dX7_team_48 (lat hY rfl) (by decide) (lln hY rfl) hin1 (lbb0 hY hi1) (by omega) ?_
      refine z_geti' (k := 2) (fc := 2) (x := (F 2 (147 + 2 * x5.toNatClampNeg))) dX7_team_49 ckX0 (by decide) fk_X7_186 rfl rfl (lat0 hY hi1) rfl ?_
      refine z_iload_n dX7_team_52 1 rfl rfl ?_
      refine z_icmp_ne (tgt := 75) dX7_team_53 (by decide) (fun hb => ?_) (fun hb => ?_)
      · have h := h.1 hb
        exact z_pick [0, 1, 2, 3, 4, 5] rfl (h T G B hY)
      · have h := h.2 hb
        refine z_aload_n dX7_team_56 0 rfl rfl ?_
        refine z_iload dX7_team_57 5 rfl ?_
        refine zm_Vi (As := [.int x5]) (rest := []) dX7_team_59 okX7_leastPlace ioX7_leastPlace mk_X7_189 (ci := 7) rfl (by decide) (lat hY rfl) rfl rfl (Nat.le_of_ble_eq_true rfl) (by decide) hY (CM.monoi h fun r2 F2 A2 h => ?_)
        refine z_iload dX7_team_62 4 rfl ?_
        refine z_icmp_ne (tgt := 75) dX7_team_64 (by decide) (fun hb => ?_) (fun hb => ?_)
        · have h := h.1 hb
          exact z_pick [0, 1, 2, 3, 4, 5] rfl (h T G B hY)
        · have h := h.2 hb
          refine z_iinc (v := (x2 + 1)) (lv' := [(0, .ref 1), (1, .int x1), (2, .int (x2 + 1)), (3, .int x3), (4, .int x4), (5, .int x5)]) dX7_team_67 2 rfl rfl (by decide) rfl ?_
          refine z_iload_n dX7_team_70 3 rfl rfl ?_
          refine z_iload dX7_team_71 4 rfl ?_
          refine z_iadd dX7_team_73 ?_
          refine z_istore_n (lv' := [(0, .ref 1), (1, .int x1), (2, .int (x2 + 1)), (3, .int (x3 + x4)), (4, .int x4), (5, .int x5)]) dX7_team_74 rfl (by decide) rfl ?_
          exact z_pick [0, 1, 2, 3, 4, 5] rfl (h T G B hY)
set_option maxHeartbeats 4000000 in
set_option maxRecDepth 100000 in
theorem vX7_team_81 {l : Launch} {w : Nat → Nat} {nb : Nat} {Q : PM} {x1 x2 x3 x4 : Int32} {F A : MI}  (h : ZM l mX7_team 3 w nb Q 18 [(0, .ref 1), (1, .int x1), (2, .int x2), (3, .int x3), (4, .int (x4 + 1))] [] F A) : ZM l mX7_team 3 w nb Q 81 [(0, .ref 1), (1, .int x1), (2, .int x2), (3, .int x3), (4, .int x4)] [] F A := by
  intro T G B hY
  refine z_iinc (v := (x4 + 1)) (lv' := [(0, .ref 1), (1, .int x1), (2, .int x2), (3, .int x3), (4, .int (x4 + 1))]) dX7_team_81 4 rfl rfl (by decide) rfl ?_
  refine z_goto (tgt := 18) dX7_team_84 (by decide) ?_
  exact z_pick [0, 1, 2, 3, 4] rfl (h T G B hY)
set_option maxHeartbeats 4000000 in
set_option maxRecDepth 100000 in
theorem vX7_team_75 {l : Launch} {w : Nat → Nat} {nb : Nat} {Q : PM} {x1 x2 x3 x4 x5 : Int32} {F A : MI}  (h : ZM l mX7_team 3 w nb Q 28 [(0, .ref 1), (1, .int x1), (2, .int x2), (3, .int x3), (4, .int x4), (5, .int (x5 + 1))] [] F A) : ZM l mX7_team 3 w nb Q 75 [(0, .ref 1), (1, .int x1), (2, .int x2), (3, .int x3), (4, .int x4), (5, .int x5)] [] F A := by
  intro T G B hY
  refine z_iinc (v := (x5 + 1)) (lv' := [(0, .ref 1), (1, .int x1), (2, .int x2), (3, .int x3), (4, .int x4), (5, .int (x5 + 1))]) dX7_team_75 5 rfl rfl (by decide) rfl ?_
  refine z_goto (tgt := 28) dX7_team_78 (by decide) ?_
  exact z_pick [0, 1, 2, 3, 4, 5] rfl (h T G B hY)
set_option maxHeartbeats 4000000 in
set_option maxRecDepth 100000 in
theorem vX1_readLeast_0 {l : Launch} {w : Nat → Nat} {nb : Nat} {Q : PM} {x2 x3 : Int32} {F A : MI} {t : Nat} (ht : isTx t) (h : CM l mX5_readNumber 3 w nb [.ref 2] F A (qi fun r1 F1 A1 => ((¬ r1 = (-1) → (vp_in x2 4 ∧ CM l mJ9_max_7cf53 1 w nb [.int (A1 (t + 1) x2.toNatClampNeg), .int (r1 + x3)] F1 A1 (qi fun r3 F3 A3 => (vp_in x2 4 ∧ Q (some (.int 0)) F3 (u2 A3 (t + 1) x2.toNatClampNeg r3))))) ∧ (r1 = (-1) → CM l mX5_faultHere 2 w nb [.ref 2, .int 1] F1 A1 (qi fun r5 F5 A5 => Q (some (.int r5)) F5 A5))))) : ZM l mX1_readLeast 4 w nb Q 0 [(0, .ref t), (1, .ref 2), (2, .int x2), (3, .int x3)] [] F A := by
  intro T G B hY
  refine z_aload_n dX1_readLeast_0 1 rfl rfl ?_
  refine zm_Vi (As := []) (rest := []) dX1_readLeast_1 okX5_readNumber ioX5_readNumber mk_X1_94 (ci := 5) rfl (by decide) (lat hY rfl) rfl rfl (Nat.le_of_ble_eq_true rfl) (by decide) hY (CM.monoi h fun r1 F1 A1 h => ?_)
  refine z_istore (lv' := [(0, .ref t), (1, .ref 2), (2, .int x2), (3, .int x3), (4, .int r1)]) dX1_readLeast_4 (by decide) rfl ?_
  refine z_iload dX1_readLeast_6 4 rfl ?_
  refine z_iconst (v := (-1)) dX1_readLeast_8 rfl ?_
  refine z_icmp_ne (tgt := 18) dX1_readLeast_9 (by decide) (fun hb => ?_) (fun hb => ?_)
  · have h := h.1 hb
    refine z_aload_n dX1_readLeast_18 0 rfl rfl ?_
    refine z_getr (k := 0) (fc := 40) (r := (t + 1)) dX1_readLeast_19 ckX1 (by decide) fk_X1_11 rfl rfl (lat1 hY ht) (lgg1a hY ht) (by omega) ?_
    refine z_iload_n dX1_readLeast_22 2 rfl rfl ?_
    refine z_aload_n dX1_readLeast_23 0 rfl rfl ?_
    refine z_getr (k := 0) (fc := 40) (r := (t + 1)) dX1_readLeast_24 ckX1 (by decide) fk_X1_11 rfl rfl (lat1 hY ht) (lgg1a hY ht) (by omega) ?_
    refine z_iload_n dX1_readLeast_27 2 rfl rfl ?_
    have hin2 := h.1
    have h := h.2
    refine z_iald' (n := 4) (x := (A1 (t + 1) x2.toNatClampNeg)) dX1_readLeast_28 (lat1a hY ht) (lln1a hY ht) hin2 rfl ?_
    refine z_iload dX1_readLeast_29 4 rfl ?_
    refine z_iload_n dX1_readLeast_31 3 rfl rfl ?_
    refine z_iadd dX1_readLeast_32 ?_
    refine zm_Si (As := [.int (A1 (t + 1) x2.toNatClampNeg), .int (r1 + x3)]) (rest := [.int x2, .ref (t + 1)]) dX1_readLeast_33 okJ9_max_7cf53 smJ9_max_7cf53 mk_X1_97 rfl rfl (Nat.le_of_ble_eq_true rfl) (by decide) hY (CM.monoi h fun r3 F3 A3 h => ?_)
    have hin4 := h.1
    have h := h.2
    refine z_iast' (n := 4) dX1_readLeast_36 (lat1a hY ht) (lln1a hY ht) hin4 ?_
    refine z_iconst (v := 0) dX1_readLeast_37 rfl ?_
    exact z_iretM dX1_readLeast_38 rfl h
  · have h := h.2 hb
    refine z_aload_n dX1_readLeast_12 1 rfl rfl ?_
    refine z_iconst (v := 1) dX1_readLeast_13 rfl ?_
    refine zm_Vi (As := [.int 1]) (rest := []) dX1_readLeast_14 okX5_faultHere ioX5_faultHere mk_X1_54 (ci := 5) rfl (by decide) (lat hY rfl) rfl rfl (Nat.le_of_ble_eq_true rfl) (by decide) hY (CM.monoi h fun r5 F5 A5 h => ?_)
    exact z_iretM dX1_readLeast_17 rfl h
set_option maxHeartbeats 4000000 in
set_option maxRecDepth 100000 in
theorem vX1_readMost_0 {l : Launch} {w : Nat → Nat} {nb : Nat} {Q : PM} {x2 x3 : Int32} {F A : MI} {t : Nat} (ht : isTx t) (h : CM l mX5_readNumber 3 w nb [.ref 2] F A (qi fun r1 F1 A1 => ((¬ r1 = (-1) → (vp_in x2 4 ∧ CM l mJ9_min_7cf53 1 w nb [.int (A1 (t + 2) x2.toNatClampNeg), .int (r1 - x3)] F1 A1 (qi fun r3 F3 A3 => (vp_in x2 4 ∧ Q (some (.int 0)) F3 (u2 A3 (t + 2) x2.toNatClampNeg r3))))) ∧ (r1 = (-1) → CM l mX5_faultHere 2 w nb [.ref 2, .int 1] F1 A1 (qi fun r5 F5 A5 => Q (some (.int r5)) F5 A5))))) : ZM l mX1_readMost 4 w nb Q 0 [(0, .ref t), (1, .ref 2), (2, .int x2), (3, .int x3)] [] F A := by
  intro T G B hY
  refine z_aload_n dX1_readMost_0 1 rfl rfl ?_
  refine zm_Vi (As := []) (rest := []) dX1_readMost_1 okX5_readNumber ioX5_readNumber mk_X1_94 (ci := 5) rfl (by decide) (lat hY rfl) rfl rfl (Nat.le_of_ble_eq_true rfl) (by decide) hY (CM.monoi h fun r1 F1 A1 h => ?_)
  refine z_istore (lv' := [(0, .ref t), (1, .ref 2), (2, .int x2), (3, .int x3), (4, .int r1)]) dX1_readMost_4 (by decide) rfl ?_
  refine z_iload dX1_readMost_6 4 rfl ?_
  refine z_iconst (v := (-1)) dX1_readMost_8 rfl ?_
  refine z_icmp_ne (tgt := 18) dX1_readMost_9 (by decide) (fun hb => ?_) (fun hb => ?_)
  · have h := h.1 hb
    refine z_aload_n dX1_readMost_18 0 rfl rfl ?_
    refine z_getr (k := 1) (fc := 41) (r := (t + 2)) dX1_readMost_19 ckX1 (by decide) fk_X1_15 rfl rfl (lat1 hY ht) (lgg1b hY ht) (by omega) ?_
    refine z_iload_n dX1_readMost_22 2 rfl rfl ?_
    refine z_aload_n dX1_readMost_23 0 rfl rfl ?_
    refine z_getr (k := 1) (fc := 41) (r := (t + 2)) dX1_readMost_24 ckX1 (by decide) fk_X1_15 rfl rfl (lat1 hY ht) (lgg1b hY ht) (by omega) ?_
    refine z_iload_n dX1_readMost_27 2 rfl rfl ?_
    have hin2 := h.1
    have h := h.2
    refine z_iald' (n := 4) (x := (A1 (t + 2) x2.toNatClampNeg)) dX1_readMost_28 (lat1b hY ht) (lln1b hY ht) hin2 rfl ?_
    refine z_iload dX1_readMost_29 4 rfl ?_
    refine z_iload_n dX1_readMost_31 3 rfl rfl ?_
    refine z_isub dX1_readMost_32 ?_
    refine zm_Si (As := [.int (A1 (t + 2) x2.toNatClampNeg), .int (r1 - x3)]) (rest := [.int x2, .ref (t + 2)]) dX1_readMost_33 okJ9_min_7cf53 smJ9_min_7cf53 mk_X1_103 rfl rfl (Nat.le_of_ble_eq_true rfl) (by decide) hY (CM.monoi h fun r3 F3 A3 h => ?_)
    have hin4 := h.1
    have h := h.2
    refine z_iast' (n := 4) dX1_readMost_36 (lat1b hY ht) (lln1b hY ht) hin4 ?_
    refine z_iconst (v := 0) dX1_readMost_37 rfl ?_
    exact z_iretM dX1_readMost_38 rfl h
  · have h := h.2 hb
    refine z_aload_n dX1_readMost_12 1 rfl rfl ?_
    refine z_iconst (v := 1) dX1_readMost_13 rfl ?_
    refine zm_Vi (As := [.int 1]) (rest := []) dX1_readMost_14 okX5_faultHere ioX5_faultHere mk_X1_54 (ci := 5) rfl (by decide) (lat hY rfl) rfl rfl (Nat.le_of_ble_eq_true rfl) (by decide) hY (CM.monoi h fun r5 F5 A5 h => ?_)
    exact z_iretM dX1_readMost_17 rfl h
set_option maxHeartbeats 4000000 in
set_option maxRecDepth 100000 in
theorem vX3_readTerms_0 {l : Launch} {w : Nat → Nat} {nb : Nat} {Q : PM} {F A : MI} {i : Nat} (hi : i < nb) {k : Nat} (hk : k < nb) (h : ZM l mX3_readTerms 4 w nb Q 3 [(0, .ref 34), (1, .ref 2), (2, .ref (147 + 2 * i)), (3, .ref (147 + 2 * k)), (4, .int 0)] [] F A) : ZM l mX3_readTerms 4 w nb Q 0 [(0, .ref 34), (1, .ref 2), (2, .ref (147 + 2 * i)), (3, .ref (147 + 2 * k))] [] F A := by
  intro T G B hY
  refine z_iconst (v := 0) dX3_readTerms_0 rfl ?_
  refine z_istore (lv' := [(0, .ref 34), (1, .ref 2), (2, .ref (147 + 2 * i)), (3, .ref (147 + 2 * k)), (4, .int 0)]) dX3_readTerms_1 (by decide) rfl ?_
  exact z_pick [0, 1, 2, 3, 4] rfl (h T G B hY)
set_option maxHeartbeats 4000000 in
set_option maxRecDepth 100000 in
theorem vX3_readTerms_3 {l : Launch} {w : Nat → Nat} {nb : Nat} {Q : PM} {x4 : Int32} {F A : MI} {i : Nat} (hi : i < nb) {k : Nat} (hk : k < nb) (h : ((4 ≤ x4 → Q (some (.int 0)) F A) ∧ (¬ 4 ≤ x4 → ((x4 = 0 → ZM l mX3_readTerms 4 w nb Q 21 [(0, .ref 34), (1, .ref 2), (2, .ref (147 + 2 * i)), (3, .ref (147 + 2 * k)), (4, .int x4)] [] F A) ∧ (¬ x4 = 0 → CM l mX3_isAtTerm 3 w nb [.ref 2] F A (qi fun r1 F1 A1 => ((r1 = 0 → Q (some (.int 0)) F1 A1) ∧ (¬ r1 = 0 → ZM l mX3_readTerms 4 w nb Q 21 [(0, .ref 34), (1, .ref 2), (2, .ref (147 + 2 * i)), (3, .ref (147 + 2 * k)), (4, .int x4)] [] F1 A1)))))))) : ZM l mX3_readTerms 4 w nb Q 3 [(0, .ref 34), (1, .ref 2), (2, .ref (147 + 2 * i)), (3, .ref (147 + 2 * k)), (4, .int x4)] [] F A := by
  intro T G B hY
  refine z_iload dX3_readTerms_3 4 rfl ?_
  refine z_iconst (v := 4) dX3_readTerms_5 rfl ?_
  refine z_icmp_ge (tgt := 110) dX3_readTerms_6 (by decide) (fun hb => ?_) (fun hb => ?_)
  · have h := h.1 hb
    refine z_iconst (v := 0) dX3_readTerms_110 rfl ?_
    exact z_iretM dX3_readTerms_111 rfl h
  · have h := h.2 hb
    refine z_iload dX3_readTerms_9 4 rfl ?_
    refine z_if_eq (tgt := 21) dX3_readTerms_11 (by decide) (fun hb => ?_) (fun hb => ?_)
    · have h := h.1 hb
      exact z_pick [0, 1, 2, 3, 4] rfl (h T G B hY)
    · have h := h.2 hb
      refine z_aload_n dX3_readTerms_14 1 rfl rfl ?_
      refine zm_Si (As := [.ref 2]) (rest := []) dX3_readTerms_15 okX3_isAtTerm smX3_isAtTerm mk_X3_76 rfl rfl (Nat.le_of_ble_eq_true rfl) (by decide) hY (CM.monoi h fun r1 F1 A1 h => ?_)
      refine z_if_eq (tgt := 110) dX3_readTerms_18 (by decide) (fun hb => ?_) (fun hb => ?_)
      · have h := h.1 hb
        refine z_iconst (v := 0) dX3_readTerms_110 rfl ?_
        exact z_iretM dX3_readTerms_111 rfl h
      · have h := h.2 hb
        exact z_pick [0, 1, 2, 3, 4] rfl (h T G B hY)
set_option maxHeartbeats 4000000 in
set_option maxRecDepth 100000 in
theorem vX3_readTerms_21 {l : Launch} {w : Nat → Nat} {nb : Nat} {Q : PM} {x4 : Int32} {F A : MI} {i : Nat} (hi : i < nb) {k : Nat} (hk : k < nb) (h : CM l mX5_skipIf 2 w nb [.ref 2, .int 45] F A (qi fun r1 F1 A1 => CM l mX3_isAtMeasure 2 w nb [.ref 2] F1 A1 (qi fun r2 F2 A2 => ((¬ r2 = 0 → CM l mX5_peek 1 w nb [.ref 2] F2 A2 (qi fun r3 F3 A3 => CM l mX5_skip 1 w nb [.ref 2] F3 A3 (qv fun F4 A4 => (vp_in (r3 - 48) 3 ∧ (vp_in (r3 - 48) 3 ∧ ((r1 = 0 → ((((A4 (148 + 2 * i) (r3 - 48).toNatClampNeg) - (A4 (148 + 2 * k) (r3 - 48).toNatClampNeg)) ≤ 0 → ZM l mX3_readTerms 4 w nb Q 99 [(0, .ref 34), (1, .ref 2), (2, .ref (147 + 2 * i)), (3, .ref (147 + 2 * k)), (4, .int x4)] [.int (F4 120 34), .ref 34] F4 A4) ∧ (¬ ((A4 (148 + 2 * i) (r3 - 48).toNatClampNeg) - (A4 (148 + 2 * k) (r3 - 48).toNatClampNeg)) ≤ 0 → ZM l mX3_readTerms 4 w nb Q 95 [(0, .ref 34), (1, .ref 2), (2, .ref (147 + 2 * i)), (3, .ref (147 + 2 * k)), (4, .int x4)] [.int (F4 120 34), .ref 34] F4 A4))) ∧ (¬ r1 = 0 → ((0 ≤ ((A4 (148 + 2 * i) (r3 - 48).toNatClampNeg) - (A4 (148 + 2 * k) (r3 - 48).toNatClampNeg)) → ZM l mX3_readTerms 4 w nb Q 99 [(0, .ref 34), (1, .ref 2), (2, .ref (147 + 2 * i)), (3, .ref (147 + 2 * k)), (4, .int x4)] [.int (F4 120 34), .ref 34] F4 A4) ∧ (¬ 0 ≤ ((A4 (148 + 2 * i) (r3 - 48).toNatClampNeg) - (A4 (148 + 2 * k) (r3 - 48).toNatClampNeg)) → ZM l mX3_readTerms 4 w nb Q 95 [(0, .ref 34), (1, .ref 2), (2, .ref (147 + 2 * i)), (3, .ref (147 + 2 * k)), (4, .int x4)] [.int (F4 120 34), .ref 34] F4 A4))))))))) ∧ (r2 = 0 → CM l mX5_faultHere 2 w nb [.ref 2, .int 1] F2 A2 (qi fun r7 F7 A7 => Q (some (.int r7)) F7 A7)))))) : ZM l mX3_readTerms 4 w nb Q 21 [(0, .ref 34), (1, .ref 2), (2, .ref (147 + 2 * i)), (3, .ref (147 + 2 * k)), (4, .int x4)] [] F A := by
  intro T G B hY
  refine z_aload_n dX3_readTerms_21 1 rfl rfl ?_
  refine z_bipush (v := 45) dX3_readTerms_22 rfl ?_
  refine zm_Vi (As := [.int 45]) (rest := []) dX3_readTerms_24 okX5_skipIf ioX5_skipIf mk_X3_34 (ci := 5) rfl (by decide) (lat hY rfl) rfl rfl (Nat.le_of_ble_eq_true rfl) (by decide) hY (CM.monoi h fun r1 F1 A1 h => ?_)
  refine z_istore (lv' := [(0, .ref 34), (1, .ref 2), (2, .ref (147 + 2 * i)), (3, .ref (147 + 2 * k)), (4, .int x4), (5, .int r1)]) dX3_readTerms_27 (by decide) rfl ?_
  refine z_aload_n dX3_readTerms_29 1 rfl rfl ?_
  refine zm_Si (As := [.ref 2]) (rest := []) dX3_readTerms_30 okX3_isAtMeasure smX3_isAtMeasure mk_X3_80 rfl rfl (Nat.le_of_ble_eq_true rfl) (by decide) hY (CM.monoi h fun r2 F2 A2 h => ?_)
  refine z_if_ne (tgt := 42) dX3_readTerms_33 (by decide) (fun hb => ?_) (fun hb => ?_)
  · have h := h.1 hb
    refine z_aload_n dX3_readTerms_42 1 rfl rfl ?_
    refine zm_Vi (As := []) (rest := []) dX3_readTerms_43 okX5_peek ioX5_peek mk_X3_73 (ci := 5) rfl (by decide) (lat hY rfl) rfl rfl (Nat.le_of_ble_eq_true rfl) (by decide) hY (CM.monoi h fun r3 F3 A3 h => ?_)
    refine z_bipush (v := 48) dX3_readTerms_46 rfl ?_
    refine z_isub dX3_readTerms_48 ?_
    refine z_istore (lv' := [(0, .ref 34), (1, .ref 2), (2, .ref (147 + 2 * i)), (3, .ref (147 + 2 * k)), (4, .int x4), (5, .int r1), (6, .int (r3 - 48))]) dX3_readTerms_49 (by decide) rfl ?_
    refine z_aload_n dX3_readTerms_51 1 rfl rfl ?_
    refine zm_Vv (As := []) (rest := []) dX3_readTerms_52 okX5_skip ioX5_skip mk_X3_59 (ci := 5) rfl (by decide) (lat hY rfl) rfl rfl (Nat.le_of_ble_eq_true rfl) (by decide) hY (CM.monov h fun F4 A4 h => ?_)
    refine z_aload_n dX3_readTerms_55 2 rfl rfl ?_
    refine z_getr (k := 4) (fc := 4) (r := (148 + 2 * i)) dX3_readTerms_56 ckX0 (by decide) fk_X3_83 rfl rfl (lat0 hY hi) (lgg0 hY hi) (by omega) ?_
    refine z_iload dX3_readTerms_59 6 rfl ?_
    have hin5 := h.1
    have h := h.2
    refine z_iald' (n := 3) (x := (A4 (148 + 2 * i) (r3 - 48).toNatClampNeg)) dX3_readTerms_61 (lat0m hY hi) (lln0 hY hi) hin5 rfl ?_
    refine z_aload_n dX3_readTerms_62 3 rfl rfl ?_
    refine z_getr (k := 4) (fc := 4) (r := (148 + 2 * k)) dX3_readTerms_63 ckX0 (by decide) fk_X3_83 rfl rfl (lat0 hY hk) (lgg0 hY hk) (by omega) ?_
    refine z_iload dX3_readTerms_66 6 rfl ?_
    have hin6 := h.1
    have h := h.2
    refine z_iald' (n := 3) (x := (A4 (148 + 2 * k) (r3 - 48).toNatClampNeg)) dX3_readTerms_68 (lat0m hY hk) (lln0 hY hk) hin6 rfl ?_
    refine z_isub dX3_readTerms_69 ?_
    refine z_istore (lv' := [(0, .ref 34), (1, .ref 2), (2, .ref (147 + 2 * i)), (3, .ref (147 + 2 * k)), (4, .int x4), (5, .int r1), (6, .int (r3 - 48)), (7, .int ((A4 (148 + 2 * i) (r3 - 48).toNatClampNeg) - (A4 (148 + 2 * k) (r3 - 48).toNatClampNeg)))]) dX3_readTerms_70 (by decide) rfl ?_
    refine z_aload_n dX3_readTerms_72 0 rfl rfl ?_
    refine z_dup dX3_readTerms_73 ?_
    refine z_geti' (k := 0) (fc := 120) (x := (F4 120 34)) dX3_readTerms_74 ckX3 (by decide) fk_X3_9 rfl rfl (lat hY rfl) rfl ?_
    refine z_iload dX3_readTerms_77 5 rfl ?_
    refine z_if_eq (tgt := 90) dX3_readTerms_79 (by decide) (fun hb => ?_) (fun hb => ?_)
    · have h := h.1 hb
      refine z_iload dX3_readTerms_90 7 rfl ?_
      refine z_if_le (tgt := 99) dX3_readTerms_92 (by decide) (fun hb => ?_) (fun hb => ?_)
      · have h := h.1 hb
        exact z_pick [0, 1, 2, 3, 4] rfl (h T G B hY)
      · have h := h.2 hb
        exact z_pick [0, 1, 2, 3, 4] rfl (h T G B hY)
    · have h := h.2 hb
      refine z_iload dX3_readTerms_82 7 rfl ?_
      refine z_if_ge (tgt := 99) dX3_readTerms_84 (by decide) (fun hb => ?_) (fun hb => ?_)
      · have h := h.1 hb
        exact z_pick [0, 1, 2, 3, 4] rfl (h T G B hY)
      · have h := h.2 hb
        refine z_goto (tgt := 95) dX3_readTerms_87 (by decide) ?_
        exact z_pick [0, 1, 2, 3, 4] rfl (h T G B hY)
  · have h := h.2 hb
    refine z_aload_n dX3_readTerms_36 1 rfl rfl ?_
    refine z_iconst (v := 1) dX3_readTerms_37 rfl ?_
    refine zm_Vi (As := [.int 1]) (rest := []) dX3_readTerms_38 okX5_faultHere ioX5_faultHere mk_X3_38 (ci := 5) rfl (by decide) (lat hY rfl) rfl rfl (Nat.le_of_ble_eq_true rfl) (by decide) hY (CM.monoi h fun r7 F7 A7 h => ?_)
    exact z_iretM dX3_readTerms_41 rfl h
set_option maxHeartbeats 4000000 in
set_option maxRecDepth 100000 in
theorem vX3_readTerms_99 {l : Launch} {w : Nat → Nat} {nb : Nat} {Q : PM} {x4 s0 : Int32} {F A : MI} {i : Nat} (hi : i < nb) {k : Nat} (hk : k < nb) (h : ZM l mX3_readTerms 4 w nb Q 100 [(0, .ref 34), (1, .ref 2), (2, .ref (147 + 2 * i)), (3, .ref (147 + 2 * k)), (4, .int x4)] [.int (-1), .int s0, .ref 34] F A) : ZM l mX3_readTerms 4 w nb Q 99 [(0, .ref 34), (1, .ref 2), (2, .ref (147 + 2 * i)), (3, .ref (147 + 2 * k)), (4, .int x4)] [.int s0, .ref 34] F A := by
  intro T G B hY
  refine z_iconst (v := (-1)) dX3_readTerms_99 rfl ?_
  exact z_pick [0, 1, 2, 3, 4] rfl (h T G B hY)
set_option maxHeartbeats 4000000 in
set_option maxRecDepth 100000 in
theorem vX3_readTerms_95 {l : Launch} {w : Nat → Nat} {nb : Nat} {Q : PM} {x4 s0 : Int32} {F A : MI} {i : Nat} (hi : i < nb) {k : Nat} (hk : k < nb) (h : ZM l mX3_readTerms 4 w nb Q 100 [(0, .ref 34), (1, .ref 2), (2, .ref (147 + 2 * i)), (3, .ref (147 + 2 * k)), (4, .int x4)] [.int 2, .int s0, .ref 34] F A) : ZM l mX3_readTerms 4 w nb Q 95 [(0, .ref 34), (1, .ref 2), (2, .ref (147 + 2 * i)), (3, .ref (147 + 2 * k)), (4, .int x4)] [.int s0, .ref 34] F A := by
  intro T G B hY
  refine z_iconst (v := 2) dX3_readTerms_95 rfl ?_
  refine z_goto (tgt := 100) dX3_readTerms_96 (by decide) ?_
  exact z_pick [0, 1, 2, 3, 4] rfl (h T G B hY)
set_option maxHeartbeats 4000000 in
set_option maxRecDepth 100000 in
theorem vX3_readTerms_100 {l : Launch} {w : Nat → Nat} {nb : Nat} {Q : PM} {x4 s0 s1 : Int32} {F A : MI} {i : Nat} (hi : i < nb) {k : Nat} (hk : k < nb) (h : ZM l mX3_readTerms 4 w nb Q 3 [(0, .ref 34), (1, .ref 2), (2, .ref (147 + 2 * i)), (3, .ref (147 + 2 * k)), (4, .int (x4 + 1))] [] (u2 F 120 34 (s1 + s0)) A) : ZM l mX3_readTerms 4 w nb Q 100 [(0, .ref 34), (1, .ref 2), (2, .ref (147 + 2 * i)), (3, .ref (147 + 2 * k)), (4, .int x4)] [.int s0, .int s1, .ref 34] F A := by
  intro T G B hY
  refine z_iadd dX3_readTerms_100 ?_
  refine z_puti (k := 0) (fc := 120) dX3_readTerms_101 ckX3 (by decide) fk_X3_9 rfl rfl rfl (lat hY rfl) ?_
  refine z_iinc (v := (x4 + 1)) (lv' := [(0, .ref 34), (1, .ref 2), (2, .ref (147 + 2 * i)), (3, .ref (147 + 2 * k)), (4, .int (x4 + 1))]) dX3_readTerms_104 4 rfl rfl (by decide) rfl ?_
  refine z_goto (tgt := 3) dX3_readTerms_107 (by decide) ?_
  exact z_pick [0, 1, 2, 3, 4] rfl (h T G B hY)
set_option maxHeartbeats 4000000 in
set_option maxRecDepth 100000 in
theorem vX7_card_0 {l : Launch} {w : Nat → Nat} {nb : Nat} {Q : PM} {x1 : Int32} {F A : MI}  (h : CM l mX7_classAt 2 w nb [.ref 1, .int x1] F A (qc (fun F1 A1 => Q (some (.int (-1))) F1 A1) (fun c1 F1 A1 => (((F1 161 (38 + 14 * c1)) < 2 → Q (some (.int (-1))) F1 A1) ∧ (¬ (F1 161 (38 + 14 * c1)) < 2 → CM l mX4_cardLength 2 w nb [.ref (38 + 14 * c1)] F1 A1 (qi fun r2 F2 A2 => CM l mX5_has 1 w nb [.ref 2, .int r2] F2 A2 (qi fun r3 F3 A3 => ((¬ r3 = 0 → CM l mX4_cardBeasts 3 w nb [.ref (38 + 14 * c1)] F3 A3 (qi fun r4 F4 A4 => CM l mX5_namesEachOf 3 w nb [.ref 2, .int r4] F4 A4 (qi fun r5 F5 A5 => ((r5 = 0 → ZM l mX7_card 4 w nb Q 60 [(0, .ref 1)] [.int (-1)] F5 A5) ∧ (¬ r5 = 0 → CM l mX4_scoreCard 3 w nb [.ref (38 + 14 * c1), .ref 2] F5 A5 (qi fun r6 F6 A6 => ZM l mX7_card 4 w nb Q 60 [(0, .ref 1)] [.int r6] F6 A6)))))) ∧ (r3 = 0 → Q (some (.int (-1))) F3 A3))))))))) : ZM l mX7_card 4 w nb Q 0 [(0, .ref 1), (1, .int x1)] [] F A := by
  intro T G B hY
  refine z_aload_n dX7_card_0 0 rfl rfl ?_
  refine z_iload_n dX7_card_1 1 rfl rfl ?_
  refine zm_Vc (As := [.int x1]) (rest := []) dX7_card_2 okX7_classAt ioX7_classAt mk_X7_80 (ci := 7) rfl (by decide) (lat hY rfl) rfl rfl (Nat.le_of_ble_eq_true rfl) (by decide) hY (CM.monoc h (fun F1 A1 h => ?_) (fun c1 F1 A1 hc1 h => ?_))
  · skip
    refine z_astore_nN (lv' := [(0, .ref 1), (1, .int x1), (2, .null)]) dX7_card_5 rfl (by decide) rfl ?_
    refine z_aload_nN dX7_card_6 2 rfl rfl ?_
    refine z_ifnullN (tgt := 32) dX7_card_7 (by decide) ?_
    refine z_iconst (v := (-1)) dX7_card_32 rfl ?_
    exact z_iretM dX7_card_33 rfl h
  · skip
    refine z_astore_n (lv' := [(0, .ref 1), (1, .int x1), (2, .ref (38 + 14 * c1))]) dX7_card_5 rfl (by decide) rfl ?_
    refine z_aload_n dX7_card_6 2 rfl rfl ?_
    refine z_ifnull dX7_card_7 ?_
    refine z_aload_n dX7_card_10 2 rfl rfl ?_
    refine z_geti' (k := 1) (fc := 161) (x := (F1 161 (38 + 14 * c1))) dX7_card_11 ckX4 (by decide) fk_X7_140 rfl rfl (lat4 hY hc1) rfl ?_
    refine z_iconst (v := 2) dX7_card_14 rfl ?_
    refine z_icmp_lt (tgt := 32) dX7_card_15 (by decide) (fun hb => ?_) (fun hb => ?_)
    · have h := h.1 hb
      refine z_iconst (v := (-1)) dX7_card_32 rfl ?_
      exact z_iretM dX7_card_33 rfl h
    · have h := h.2 hb
      refine z_aload_n dX7_card_18 0 rfl rfl ?_
      refine z_getr (k := 0) (fc := 280) (r := 2) dX7_card_19 ckX7 (by decide) fk_X7_10 rfl rfl (lat hY rfl) (lgg hY rfl) (by decide) ?_
      refine z_aload_n dX7_card_22 2 rfl rfl ?_
      refine zm_Vi (As := []) (rest := [.ref 2]) dX7_card_23 okX4_cardLength ioX4_cardLength mk_X7_166 (ci := 4) rfl (by decide) (lat4 hY hc1) rfl rfl (Nat.le_of_ble_eq_true rfl) (by decide) hY (CM.monoi h fun r2 F2 A2 h => ?_)
      refine zm_Vi (As := [.int r2]) (rest := []) dX7_card_26 okX5_has ioX5_has mk_X7_84 (ci := 5) rfl (by decide) (lat hY rfl) rfl rfl (Nat.le_of_ble_eq_true rfl) (by decide) hY (CM.monoi h fun r3 F3 A3 h => ?_)
      refine z_if_ne (tgt := 34) dX7_card_29 (by decide) (fun hb => ?_) (fun hb => ?_)
      · have h := h.1 hb
        refine z_aload_n dX7_card_34 0 rfl rfl ?_
        refine z_getr (k := 0) (fc := 280) (r := 2) dX7_card_35 ckX7 (by decide) fk_X7_10 rfl rfl (lat hY rfl) (lgg hY rfl) (by decide) ?_
        refine z_aload_n dX7_card_38 2 rfl rfl ?_
        refine zm_Vi (As := []) (rest := [.ref 2]) dX7_card_39 okX4_cardBeasts ioX4_cardBeasts mk_X7_169 (ci := 4) rfl (by decide) (lat4 hY hc1) rfl rfl (Nat.le_of_ble_eq_true rfl) (by decide) hY (CM.monoi h fun r4 F4 A4 h => ?_)
        refine zm_Vi (As := [.int r4]) (rest := []) dX7_card_42 okX5_namesEachOf ioX5_namesEachOf mk_X7_146 (ci := 5) rfl (by decide) (lat hY rfl) rfl rfl (Nat.le_of_ble_eq_true rfl) (by decide) hY (CM.monoi h fun r5 F5 A5 h => ?_)
        refine z_if_eq (tgt := 59) dX7_card_45 (by decide) (fun hb => ?_) (fun hb => ?_)
        · have h := h.1 hb
          refine z_iconst (v := (-1)) dX7_card_59 rfl ?_
          exact z_pick [0] rfl (h T G B hY)
        · have h := h.2 hb
          refine z_aload_n dX7_card_48 2 rfl rfl ?_
          refine z_aload_n dX7_card_49 0 rfl rfl ?_
          refine z_getr (k := 0) (fc := 280) (r := 2) dX7_card_50 ckX7 (by decide) fk_X7_10 rfl rfl (lat hY rfl) (lgg hY rfl) (by decide) ?_
          refine zm_Vi (As := [.ref 2]) (rest := []) dX7_card_53 okX4_scoreCard ioX4_scoreCard mk_X7_172 (ci := 4) rfl (by decide) (lat4 hY hc1) rfl rfl (Nat.le_of_ble_eq_true rfl) (by decide) hY (CM.monoi h fun r6 F6 A6 h => ?_)
          refine z_goto (tgt := 60) dX7_card_56 (by decide) ?_
          exact z_pick [0] rfl (h T G B hY)
      · have h := h.2 hb
        refine z_iconst (v := (-1)) dX7_card_32 rfl ?_
        exact z_iretM dX7_card_33 rfl h
set_option maxHeartbeats 4000000 in
set_option maxRecDepth 100000 in
theorem vX7_card_60 {l : Launch} {w : Nat → Nat} {nb : Nat} {Q : PM} {s0 : Int32} {F A : MI}  (h : CM l mX5_clear 3 w nb [.ref 2] F A (qv fun F1 A1 => Q (some (.int s0)) F1 A1)) : ZM l mX7_card 4 w nb Q 60 [(0, .ref 1)] [.int s0] F A := by
  intro T G B hY
  refine z_istore_n (lv' := [(0, .ref 1), (3, .int s0)]) dX7_card_60 rfl (by decide) rfl ?_
  refine z_aload_n dX7_card_61 0 rfl rfl ?_
  refine z_getr (k := 0) (fc := 280) (r := 2) dX7_card_62 ckX7 (by decide) fk_X7_10 rfl rfl (lat hY rfl) (lgg hY rfl) (by decide) ?_
  refine zm_Vv (As := []) (rest := []) dX7_card_65 okX5_clear ioX5_clear mk_X7_95 (ci := 5) rfl (by decide) (lat hY rfl) rfl rfl (Nat.le_of_ble_eq_true rfl) (by decide) hY (CM.monov h fun F1 A1 h => ?_)
  refine z_iload_n dX7_card_68 1 rfl rfl ?_
  exact z_iretM dX7_card_69 rfl h
set_option maxHeartbeats 4000000 in
set_option maxRecDepth 100000 in
theorem vX7_lets_0 {l : Launch} {w : Nat → Nat} {nb : Nat} {Q : PM} {x1 x2 : Int32} {F A : MI}  (h : CM l mX7_classAt 2 w nb [.ref 1, .int x1] F A (qc (fun F1 A1 => CM l mX7_beastAt 2 w nb [.ref 1, .int x2] F1 A1 (qb nb (fun F2 A2 => Q (some (.int (-1))) F2 A2) (fun c2 F2 A2 => Q (some (.int (-1))) F2 A2))) (fun c1 F1 A1 => CM l mX7_beastAt 2 w nb [.ref 1, .int x2] F1 A1 (qb nb (fun F3 A3 => Q (some (.int (-1))) F3 A3) (fun c3 F3 A3 => CM l mX4_admits 3 w nb [.ref (38 + 14 * c1), .ref (147 + 2 * c3)] F3 A3 (qi fun r4 F4 A4 => ((r4 = 0 → Q (some (.int 0)) F4 A4) ∧ (¬ r4 = 0 → Q (some (.int 1)) F4 A4)))))))) : ZM l mX7_lets 4 w nb Q 0 [(0, .ref 1), (1, .int x1), (2, .int x2)] [] F A := by
  intro T G B hY
  refine z_aload_n dX7_lets_0 0 rfl rfl ?_
  refine z_iload_n dX7_lets_1 1 rfl rfl ?_
  refine zm_Vc (As := [.int x1]) (rest := []) dX7_lets_2 okX7_classAt ioX7_classAt mk_X7_80 (ci := 7) rfl (by decide) (lat hY rfl) rfl rfl (Nat.le_of_ble_eq_true rfl) (by decide) hY (CM.monoc h (fun F1 A1 h => ?_) (fun c1 F1 A1 hc1 h => ?_))
  · skip
    refine z_astore_nN (lv' := [(0, .ref 1), (1, .int x1), (2, .int x2), (3, .null)]) dX7_lets_5 rfl (by decide) rfl ?_
    refine z_aload_n dX7_lets_6 0 rfl rfl ?_
    refine z_iload_n dX7_lets_7 2 rfl rfl ?_
    refine zm_Vb (As := [.int x2]) (rest := []) dX7_lets_8 okX7_beastAt ioX7_beastAt mk_X7_109 (ci := 7) rfl (by decide) (lat hY rfl) rfl rfl (Nat.le_of_ble_eq_true rfl) (by decide) hY (CM.monob h (fun F2 A2 h => ?_) (fun c2 F2 A2 hc2 h => ?_))
    · skip
      refine z_astoreN (lv' := [(0, .ref 1), (1, .int x1), (2, .int x2), (3, .null), (4, .null)]) dX7_lets_11 (by decide) rfl ?_
      refine z_aload_nN dX7_lets_13 3 rfl rfl ?_
      refine z_ifnullN (tgt := 22) dX7_lets_14 (by decide) ?_
      refine z_iconst (v := (-1)) dX7_lets_22 rfl ?_
      exact z_iretM dX7_lets_23 rfl h
    · skip
      refine z_astore (lv' := [(0, .ref 1), (1, .int x1), (2, .int x2), (3, .null), (4, .ref (147 + 2 * c2))]) dX7_lets_11 (by decide) rfl ?_
      refine z_aload_nN dX7_lets_13 3 rfl rfl ?_
      refine z_ifnullN (tgt := 22) dX7_lets_14 (by decide) ?_
      refine z_iconst (v := (-1)) dX7_lets_22 rfl ?_
      exact z_iretM dX7_lets_23 rfl h
  · skip
    refine z_astore_n (lv' := [(0, .ref 1), (1, .int x1), (2, .int x2), (3, .ref (38 + 14 * c1))]) dX7_lets_5 rfl (by decide) rfl ?_
    refine z_aload_n dX7_lets_6 0 rfl rfl ?_
    refine z_iload_n dX7_lets_7 2 rfl rfl ?_
    refine zm_Vb (As := [.int x2]) (rest := []) dX7_lets_8 okX7_beastAt ioX7_beastAt mk_X7_109 (ci := 7) rfl (by decide) (lat hY rfl) rfl rfl (Nat.le_of_ble_eq_true rfl) (by decide) hY (CM.monob h (fun F3 A3 h => ?_) (fun c3 F3 A3 hc3 h => ?_))
    · skip
      refine z_astoreN (lv' := [(0, .ref 1), (1, .int x1), (2, .int x2), (3, .ref (38 + 14 * c1)), (4, .null)]) dX7_lets_11 (by decide) rfl ?_
      refine z_aload_n dX7_lets_13 3 rfl rfl ?_
      refine z_ifnull dX7_lets_14 ?_
      refine z_aloadN dX7_lets_17 4 rfl ?_
      refine z_ifnonnullN dX7_lets_19 ?_
      refine z_iconst (v := (-1)) dX7_lets_22 rfl ?_
      exact z_iretM dX7_lets_23 rfl h
    · skip
      refine z_astore (lv' := [(0, .ref 1), (1, .int x1), (2, .int x2), (3, .ref (38 + 14 * c1)), (4, .ref (147 + 2 * c3))]) dX7_lets_11 (by decide) rfl ?_
      refine z_aload_n dX7_lets_13 3 rfl rfl ?_
      refine z_ifnull dX7_lets_14 ?_
      refine z_aload dX7_lets_17 4 rfl ?_
      refine z_ifnonnull (tgt := 24) dX7_lets_19 (by decide) ?_
      refine z_aload_n dX7_lets_24 3 rfl rfl ?_
      refine z_aload dX7_lets_25 4 rfl ?_
      refine zm_Vi (As := [.ref (147 + 2 * c3)]) (rest := []) dX7_lets_27 okX4_admits ioX4_admits mk_X7_116 (ci := 4) rfl (by decide) (lat4 hY hc1) rfl rfl (Nat.le_of_ble_eq_true rfl) (by decide) hY (CM.monoi h fun r4 F4 A4 h => ?_)
      refine z_if_eq (tgt := 37) dX7_lets_30 (by decide) (fun hb => ?_) (fun hb => ?_)
      · have h := h.1 hb
        refine z_iconst (v := 0) dX7_lets_37 rfl ?_
        exact z_iretM dX7_lets_38 rfl h
      · have h := h.2 hb
        refine z_iconst (v := 1) dX7_lets_33 rfl ?_
        refine z_goto (tgt := 38) dX7_lets_34 (by decide) ?_
        exact z_iretM dX7_lets_38 rfl h
set_option maxHeartbeats 4000000 in
set_option maxRecDepth 100000 in
theorem vX7_order_0 {l : Launch} {w : Nat → Nat} {nb : Nat} {Q : PM} {x1 x2 : Int32} {F A : MI}  (h : CM l mX7_classAt 2 w nb [.ref 1, .int x2] F A (qc (fun F1 A1 => CM l mX7_isBelow 1 w nb [.int x1, .int 6] F1 A1 (qi fun r2 F2 A2 => ((r2 = 0 → Q (some (.int 0)) F2 A2) ∧ (¬ r2 = 0 → Q (some (.int 0)) F2 A2)))) (fun c1 F1 A1 => CM l mX7_isBelow 1 w nb [.int x1, .int 6] F1 A1 (qi fun r3 F3 A3 => ((r3 = 0 → Q (some (.int 0)) F3 A3) ∧ (¬ r3 = 0 → (((F3 161 (38 + 14 * c1)) = 0 → Q (some (.int 0)) F3 A3) ∧ (¬ (F3 161 (38 + 14 * c1)) = 0 → CM l mX5_has 1 w nb [.ref 2, .int (F3 161 (38 + 14 * c1))] F3 A3 (qi fun r4 F4 A4 => ((¬ r4 = 0 → (vp_in x1 6 ∧ ((¬ ((A4 6 x1.toNatClampNeg) &&& (F4 160 (38 + 14 * c1))) = 0 → ZM l mX7_order 4 w nb Q 74 [(0, .ref 1), (1, .int x1), (3, .ref (38 + 14 * c1))] [] F4 A4) ∧ (((A4 6 x1.toNatClampNeg) &&& (F4 160 (38 + 14 * c1))) = 0 → CM l mX5_namesEachOf 3 w nb [.ref 2, .int (F4 160 (38 + 14 * c1))] F4 A4 (qi fun r6 F6 A6 => ((r6 = 0 → ZM l mX7_order 4 w nb Q 74 [(0, .ref 1), (1, .int x1), (3, .ref (38 + 14 * c1))] [] F6 A6) ∧ (¬ r6 = 0 → ZM l mX7_order 4 w nb Q 75 [(0, .ref 1), (1, .int x1), (3, .ref (38 + 14 * c1))] [.int 1] F6 A6))))))) ∧ (r4 = 0 → Q (some (.int 0)) F4 A4))))))))))) : ZM l mX7_order 4 w nb Q 0 [(0, .ref 1), (1, .int x1), (2, .int x2)] [] F A := by
  intro T G B hY
  refine z_aload_n dX7_order_0 0 rfl rfl ?_
  refine z_iload_n dX7_order_1 2 rfl rfl ?_
  refine zm_Vc (As := [.int x2]) (rest := []) dX7_order_2 okX7_classAt ioX7_classAt mk_X7_80 (ci := 7) rfl (by decide) (lat hY rfl) rfl rfl (Nat.le_of_ble_eq_true rfl) (by decide) hY (CM.monoc h (fun F1 A1 h => ?_) (fun c1 F1 A1 hc1 h => ?_))
  · skip
    refine z_astore_nN (lv' := [(0, .ref 1), (1, .int x1), (2, .int x2), (3, .null)]) dX7_order_5 rfl (by decide) rfl ?_
    refine z_iload_n dX7_order_6 1 rfl rfl ?_
    refine z_bipush (v := 6) dX7_order_7 rfl ?_
    refine zm_Si (As := [.int x1, .int 6]) (rest := []) dX7_order_9 okX7_isBelow smX7_isBelow mk_X7_102 rfl rfl (Nat.le_of_ble_eq_true rfl) (by decide) hY (CM.monoi h fun r2 F2 A2 h => ?_)
    refine z_if_eq (tgt := 40) dX7_order_12 (by decide) (fun hb => ?_) (fun hb => ?_)
    · have h := h.1 hb
      refine z_iconst (v := 0) dX7_order_40 rfl ?_
      exact z_zretM dX7_order_41 rfl (by decide) h
    · have h := h.2 hb
      refine z_aload_nN dX7_order_15 3 rfl rfl ?_
      refine z_ifnullN (tgt := 40) dX7_order_16 (by decide) ?_
      refine z_iconst (v := 0) dX7_order_40 rfl ?_
      exact z_zretM dX7_order_41 rfl (by decide) h
  · skip
    refine z_astore_n (lv' := [(0, .ref 1), (1, .int x1), (2, .int x2), (3, .ref (38 + 14 * c1))]) dX7_order_5 rfl (by decide) rfl ?_
    refine z_iload_n dX7_order_6 1 rfl rfl ?_
    refine z_bipush (v := 6) dX7_order_7 rfl ?_
    refine zm_Si (As := [.int x1, .int 6]) (rest := []) dX7_order_9 okX7_isBelow smX7_isBelow mk_X7_102 rfl rfl (Nat.le_of_ble_eq_true rfl) (by decide) hY (CM.monoi h fun r3 F3 A3 h => ?_)
    refine z_if_eq (tgt := 40) dX7_order_12 (by decide) (fun hb => ?_) (fun hb => ?_)
    · have h := h.1 hb
      refine z_iconst (v := 0) dX7_order_40 rfl ?_
      exact z_zretM dX7_order_41 rfl (by decide) h
    · have h := h.2 hb
      refine z_aload_n dX7_order_15 3 rfl rfl ?_
      refine z_ifnull dX7_order_16 ?_
      refine z_aload_n dX7_order_19 3 rfl rfl ?_
      refine z_geti' (k := 1) (fc := 161) (x := (F3 161 (38 + 14 * c1))) dX7_order_20 ckX4 (by decide) fk_X7_140 rfl rfl (lat4 hY hc1) rfl ?_
      refine z_if_eq (tgt := 40) dX7_order_23 (by decide) (fun hb => ?_) (fun hb => ?_)
      · have h := h.1 hb
        refine z_iconst (v := 0) dX7_order_40 rfl ?_
        exact z_zretM dX7_order_41 rfl (by decide) h
      · have h := h.2 hb
        refine z_aload_n dX7_order_26 0 rfl rfl ?_
        refine z_getr (k := 0) (fc := 280) (r := 2) dX7_order_27 ckX7 (by decide) fk_X7_10 rfl rfl (lat hY rfl) (lgg hY rfl) (by decide) ?_
        refine z_aload_n dX7_order_30 3 rfl rfl ?_
        refine z_geti' (k := 1) (fc := 161) (x := (F3 161 (38 + 14 * c1))) dX7_order_31 ckX4 (by decide) fk_X7_140 rfl rfl (lat4 hY hc1) rfl ?_
        refine zm_Vi (As := [.int (F3 161 (38 + 14 * c1))]) (rest := []) dX7_order_34 okX5_has ioX5_has mk_X7_84 (ci := 5) rfl (by decide) (lat hY rfl) rfl rfl (Nat.le_of_ble_eq_true rfl) (by decide) hY (CM.monoi h fun r4 F4 A4 h => ?_)
        refine z_if_ne (tgt := 42) dX7_order_37 (by decide) (fun hb => ?_) (fun hb => ?_)
        · have h := h.1 hb
          refine z_aload_n dX7_order_42 0 rfl rfl ?_
          refine z_getr (k := 3) (fc := 283) (r := 6) dX7_order_43 ckX7 (by decide) fk_X7_28 rfl rfl (lat hY rfl) (lgg hY rfl) (by decide) ?_
          refine z_iload_n dX7_order_46 1 rfl rfl ?_
          have hin5 := h.1
          have h := h.2
          refine z_iald' (n := 6) (x := (A4 6 x1.toNatClampNeg)) dX7_order_47 (lat hY rfl) (lln hY rfl) hin5 rfl ?_
          refine z_aload_n dX7_order_48 3 rfl rfl ?_
          refine z_geti' (k := 0) (fc := 160) (x := (F4 160 (38 + 14 * c1))) dX7_order_49 ckX4 (by decide) fk_X7_143 rfl rfl (lat4 hY hc1) rfl ?_
          refine z_iand dX7_order_52 ?_
          refine z_if_ne (tgt := 74) dX7_order_53 (by decide) (fun hb => ?_) (fun hb => ?_)
          · have h := h.1 hb
            exact z_pick [0, 1, 3] rfl (h T G B hY)
          · have h := h.2 hb
            refine z_aload_n dX7_order_56 0 rfl rfl ?_
            refine z_getr (k := 0) (fc := 280) (r := 2) dX7_order_57 ckX7 (by decide) fk_X7_10 rfl rfl (lat hY rfl) (lgg hY rfl) (by decide) ?_
            refine z_aload_n dX7_order_60 3 rfl rfl ?_
            refine z_geti' (k := 0) (fc := 160) (x := (F4 160 (38 + 14 * c1))) dX7_order_61 ckX4 (by decide) fk_X7_143 rfl rfl (lat4 hY hc1) rfl ?_
            refine zm_Vi (As := [.int (F4 160 (38 + 14 * c1))]) (rest := []) dX7_order_64 okX5_namesEachOf ioX5_namesEachOf mk_X7_146 (ci := 5) rfl (by decide) (lat hY rfl) rfl rfl (Nat.le_of_ble_eq_true rfl) (by decide) hY (CM.monoi h fun r6 F6 A6 h => ?_)
            refine z_if_eq (tgt := 74) dX7_order_67 (by decide) (fun hb => ?_) (fun hb => ?_)
            · have h := h.1 hb
              exact z_pick [0, 1, 3] rfl (h T G B hY)
            · have h := h.2 hb
              refine z_iconst (v := 1) dX7_order_70 rfl ?_
              refine z_goto (tgt := 75) dX7_order_71 (by decide) ?_
              exact z_pick [0, 1, 3] rfl (h T G B hY)
        · have h := h.2 hb
          refine z_iconst (v := 0) dX7_order_40 rfl ?_
          exact z_zretM dX7_order_41 rfl (by decide) h
set_option maxHeartbeats 4000000 in
set_option maxRecDepth 100000 in
theorem vX7_order_74 {l : Launch} {w : Nat → Nat} {nb : Nat} {Q : PM} {x1 : Int32} {F A : MI} {c3 : Nat} (hc3 : c3 < 6) (h : ZM l mX7_order 4 w nb Q 75 [(0, .ref 1), (1, .int x1), (3, .ref (38 + 14 * c3))] [.int 0] F A) : ZM l mX7_order 4 w nb Q 74 [(0, .ref 1), (1, .int x1), (3, .ref (38 + 14 * c3))] [] F A := by
  intro T G B hY
  refine z_iconst (v := 0) dX7_order_74 rfl ?_
  exact z_pick [0, 1, 2] rfl (h T G B hY)
set_option maxHeartbeats 4000000 in
set_option maxRecDepth 100000 in
theorem vX7_order_75 {l : Launch} {w : Nat → Nat} {nb : Nat} {Q : PM} {x1 s0 : Int32} {F A : MI} {c3 : Nat} (hc3 : c3 < 6) (h : ((s0 = 0 → ZM l mX7_order 4 w nb Q 99 [(0, .ref 1), (4, .int s0)] [] F A) ∧ (¬ s0 = 0 → CM l mX4_keepOrder 3 w nb [.ref (38 + 14 * c3), .int x1, .ref 2] F A (qv fun F1 A1 => CM l mX2_join 3 w nb [.ref 7, .ref (38 + 14 * c3)] F1 A1 (qv fun F2 A2 => ZM l mX7_order 4 w nb Q 99 [(0, .ref 1), (4, .int s0)] [] F2 A2))))) : ZM l mX7_order 4 w nb Q 75 [(0, .ref 1), (1, .int x1), (3, .ref (38 + 14 * c3))] [.int s0] F A := by
  intro T G B hY
  refine z_istore (lv' := [(0, .ref 1), (1, .int x1), (3, .ref (38 + 14 * c3)), (4, .int s0)]) dX7_order_75 (by decide) rfl ?_
  refine z_iload dX7_order_77 3 rfl ?_
  refine z_if_eq (tgt := 99) dX7_order_79 (by decide) (fun hb => ?_) (fun hb => ?_)
  · have h := h.1 hb
    exact z_pick [0, 3] rfl (h T G B hY)
  · have h := h.2 hb
    refine z_aload_n dX7_order_82 2 rfl rfl ?_
    refine z_iload_n dX7_order_83 1 rfl rfl ?_
    refine z_aload_n dX7_order_84 0 rfl rfl ?_
    refine z_getr (k := 0) (fc := 280) (r := 2) dX7_order_85 ckX7 (by decide) fk_X7_10 rfl rfl (lat hY rfl) (lgg hY rfl) (by decide) ?_
    refine zm_Vv (As := [.int x1, .ref 2]) (rest := []) dX7_order_88 okX4_keepOrder ioX4_keepOrder mk_X7_149 (ci := 4) rfl (by decide) (lat4 hY hc3) rfl rfl (Nat.le_of_ble_eq_true rfl) (by decide) hY (CM.monov h fun F1 A1 h => ?_)
    refine z_aload_n dX7_order_91 0 rfl rfl ?_
    refine z_getr (k := 4) (fc := 284) (r := 7) dX7_order_92 ckX7 (by decide) fk_X7_35 rfl rfl (lat hY rfl) (lgg hY rfl) (by decide) ?_
    refine z_aload_n dX7_order_95 2 rfl rfl ?_
    refine zm_Vv (As := [.ref (38 + 14 * c3)]) (rest := []) dX7_order_96 okX2_join ioX2_join mk_X7_130 (ci := 2) rfl (by decide) (lat hY rfl) rfl rfl (Nat.le_of_ble_eq_true rfl) (by decide) hY (CM.monov h fun F2 A2 h => ?_)
    exact z_pick [0, 3] rfl (h T G B hY)
set_option maxHeartbeats 4000000 in
set_option maxRecDepth 100000 in
theorem vX7_order_99 {l : Launch} {w : Nat → Nat} {nb : Nat} {Q : PM} {x4 : Int32} {F A : MI} {c3 : Nat} (hc3 : c3 < 6) (h : CM l mX5_clear 3 w nb [.ref 2] F A (qv fun F1 A1 => ((x4 = 0 ∨ x4 = 1) ∧ Q (some (.int x4)) F1 A1))) : ZM l mX7_order 4 w nb Q 99 [(0, .ref 1), (4, .int x4)] [] F A := by
  intro T G B hY
  refine z_aload_n dX7_order_99 0 rfl rfl ?_
  refine z_getr (k := 0) (fc := 280) (r := 2) dX7_order_100 ckX7 (by decide) fk_X7_10 rfl rfl (lat hY rfl) (lgg hY rfl) (by decide) ?_
  refine zm_Vv (As := []) (rest := []) dX7_order_103 okX5_clear ioX5_clear mk_X7_95 (ci := 5) rfl (by decide) (lat hY rfl) rfl rfl (Nat.le_of_ble_eq_true rfl) (by decide) hY (CM.monov h fun F1 A1 h => ?_)
  refine z_iload dX7_order_106 1 rfl ?_
  exact z_zretM dX7_order_108 rfl h.1 h.2
set_option maxHeartbeats 4000000 in
set_option maxRecDepth 100000 in
theorem vX7_protest_0 {l : Launch} {w : Nat → Nat} {nb : Nat} {Q : PM} {x1 x2 : Int32} {F A : MI}  (h : CM l mX7_classAt 2 w nb [.ref 1, .int x1] F A (qc (fun F1 A1 => Q (some (.int 0)) F1 A1) (fun c1 F1 A1 => CM l mX7_beastAt 2 w nb [.ref 1, .int x2] F1 A1 (qb nb (fun F2 A2 => Q (some (.int 0)) F2 A2) (fun c2 F2 A2 => CM l mX4_holds 1 w nb [.ref (38 + 14 * c1), .int x2] F2 A2 (qi fun r3 F3 A3 => ((¬ r3 = 0 → CM l mX4_putOut 1 w nb [.ref (38 + 14 * c1), .int x2] F3 A3 (qv fun F4 A4 => CM l mX2_join 3 w nb [.ref 7, .ref (38 + 14 * c1)] F4 A4 (qv fun F5 A5 => Q (some (.int 1)) F5 A5))) ∧ (r3 = 0 → Q (some (.int 0)) F3 A3)))))))) : ZM l mX7_protest 4 w nb Q 0 [(0, .ref 1), (1, .int x1), (2, .int x2)] [] F A := by
  intro T G B hY
  refine z_aload_n dX7_protest_0 0 rfl rfl ?_
  refine z_iload_n dX7_protest_1 1 rfl rfl ?_
  refine zm_Vc (As := [.int x1]) (rest := []) dX7_protest_2 okX7_classAt ioX7_classAt mk_X7_80 (ci := 7) rfl (by decide) (lat hY rfl) rfl rfl (Nat.le_of_ble_eq_true rfl) (by decide) hY (CM.monoc h (fun F1 A1 h => ?_) (fun c1 F1 A1 hc1 h => ?_))
  · skip
    refine z_astore_nN (lv' := [(0, .ref 1), (1, .int x1), (2, .int x2), (3, .null)]) dX7_protest_5 rfl (by decide) rfl ?_
    refine z_aload_nN dX7_protest_6 3 rfl rfl ?_
    refine z_ifnullN (tgt := 26) dX7_protest_7 (by decide) ?_
    refine z_iconst (v := 0) dX7_protest_26 rfl ?_
    exact z_zretM dX7_protest_27 rfl (by decide) h
  · skip
    refine z_astore_n (lv' := [(0, .ref 1), (1, .int x1), (2, .int x2), (3, .ref (38 + 14 * c1))]) dX7_protest_5 rfl (by decide) rfl ?_
    refine z_aload_n dX7_protest_6 3 rfl rfl ?_
    refine z_ifnull dX7_protest_7 ?_
    refine z_aload_n dX7_protest_10 0 rfl rfl ?_
    refine z_iload_n dX7_protest_11 2 rfl rfl ?_
    refine zm_Vb (As := [.int x2]) (rest := []) dX7_protest_12 okX7_beastAt ioX7_beastAt mk_X7_109 (ci := 7) rfl (by decide) (lat hY rfl) rfl rfl (Nat.le_of_ble_eq_true rfl) (by decide) hY (CM.monob h (fun F2 A2 h => ?_) (fun c2 F2 A2 hc2 h => ?_))
    · skip
      refine z_ifnullN (tgt := 26) dX7_protest_15 (by decide) ?_
      refine z_iconst (v := 0) dX7_protest_26 rfl ?_
      exact z_zretM dX7_protest_27 rfl (by decide) h
    · skip
      refine z_ifnull dX7_protest_15 ?_
      refine z_aload_n dX7_protest_18 3 rfl rfl ?_
      refine z_iload_n dX7_protest_19 2 rfl rfl ?_
      refine zm_Vi (As := [.int x2]) (rest := []) dX7_protest_20 okX4_holds ioX4_holds mk_X7_134 (ci := 4) rfl (by decide) (lat4 hY hc1) rfl rfl (Nat.le_of_ble_eq_true rfl) (by decide) hY (CM.monoi h fun r3 F3 A3 h => ?_)
      refine z_if_ne (tgt := 28) dX7_protest_23 (by decide) (fun hb => ?_) (fun hb => ?_)
      · have h := h.1 hb
        refine z_aload_n dX7_protest_28 3 rfl rfl ?_
        refine z_iload_n dX7_protest_29 2 rfl rfl ?_
        refine zm_Vv (As := [.int x2]) (rest := []) dX7_protest_30 okX4_putOut ioX4_putOut mk_X7_137 (ci := 4) rfl (by decide) (lat4 hY hc1) rfl rfl (Nat.le_of_ble_eq_true rfl) (by decide) hY (CM.monov h fun F4 A4 h => ?_)
        refine z_aload_n dX7_protest_33 0 rfl rfl ?_
        refine z_getr (k := 4) (fc := 284) (r := 7) dX7_protest_34 ckX7 (by decide) fk_X7_35 rfl rfl (lat hY rfl) (lgg hY rfl) (by decide) ?_
        refine z_aload_n dX7_protest_37 3 rfl rfl ?_
        refine zm_Vv (As := [.ref (38 + 14 * c1)]) (rest := []) dX7_protest_38 okX2_join ioX2_join mk_X7_130 (ci := 2) rfl (by decide) (lat hY rfl) rfl rfl (Nat.le_of_ble_eq_true rfl) (by decide) hY (CM.monov h fun F5 A5 h => ?_)
        refine z_iconst (v := 1) dX7_protest_41 rfl ?_
        exact z_zretM dX7_protest_42 rfl (by decide) h
      · have h := h.2 hb
        refine z_iconst (v := 0) dX7_protest_26 rfl ?_
        exact z_zretM dX7_protest_27 rfl (by decide) h
set_option maxHeartbeats 4000000 in
set_option maxRecDepth 100000 in
theorem vX7_ring_0 {l : Launch} {w : Nat → Nat} {nb : Nat} {Q : PM} {x1 x2 : Int32} {F A : MI}  (h : CM l mX7_classAt 2 w nb [.ref 1, .int x1] F A (qc (fun F1 A1 => Q (some (.int (-1))) F1 A1) (fun c1 F1 A1 => CM l mX7_isBelow 1 w nb [.int x2, .int 3] F1 A1 (qi fun r2 F2 A2 => ((¬ r2 = 0 → CM l mX2_findInRing 3 w nb [.ref 7, .ref (38 + 14 * c1), .int x2] F2 A2 (qi fun r3 F3 A3 => Q (some (.int r3)) F3 A3)) ∧ (r2 = 0 → Q (some (.int (-1))) F2 A2)))))) : ZM l mX7_ring 4 w nb Q 0 [(0, .ref 1), (1, .int x1), (2, .int x2)] [] F A := by
  intro T G B hY
  refine z_aload_n dX7_ring_0 0 rfl rfl ?_
  refine z_iload_n dX7_ring_1 1 rfl rfl ?_
  refine zm_Vc (As := [.int x1]) (rest := []) dX7_ring_2 okX7_classAt ioX7_classAt mk_X7_80 (ci := 7) rfl (by decide) (lat hY rfl) rfl rfl (Nat.le_of_ble_eq_true rfl) (by decide) hY (CM.monoc h (fun F1 A1 h => ?_) (fun c1 F1 A1 hc1 h => ?_))
  · skip
    refine z_astore_nN (lv' := [(0, .ref 1), (1, .int x1), (2, .int x2), (3, .null)]) dX7_ring_5 rfl (by decide) rfl ?_
    refine z_aload_nN dX7_ring_6 3 rfl rfl ?_
    refine z_ifnullN (tgt := 18) dX7_ring_7 (by decide) ?_
    refine z_iconst (v := (-1)) dX7_ring_18 rfl ?_
    exact z_iretM dX7_ring_19 rfl h
  · skip
    refine z_astore_n (lv' := [(0, .ref 1), (1, .int x1), (2, .int x2), (3, .ref (38 + 14 * c1))]) dX7_ring_5 rfl (by decide) rfl ?_
    refine z_aload_n dX7_ring_6 3 rfl rfl ?_
    refine z_ifnull dX7_ring_7 ?_
    refine z_iload_n dX7_ring_10 2 rfl rfl ?_
    refine z_iconst (v := 3) dX7_ring_11 rfl ?_
    refine zm_Si (As := [.int x2, .int 3]) (rest := []) dX7_ring_12 okX7_isBelow smX7_isBelow mk_X7_102 rfl rfl (Nat.le_of_ble_eq_true rfl) (by decide) hY (CM.monoi h fun r2 F2 A2 h => ?_)
    refine z_if_ne (tgt := 20) dX7_ring_15 (by decide) (fun hb => ?_) (fun hb => ?_)
    · have h := h.1 hb
      refine z_aload_n dX7_ring_20 0 rfl rfl ?_
      refine z_getr (k := 4) (fc := 284) (r := 7) dX7_ring_21 ckX7 (by decide) fk_X7_35 rfl rfl (lat hY rfl) (lgg hY rfl) (by decide) ?_
      refine z_aload_n dX7_ring_24 3 rfl rfl ?_
      refine z_iload_n dX7_ring_25 2 rfl rfl ?_
      refine zm_Vi (As := [.ref (38 + 14 * c1), .int x2]) (rest := []) dX7_ring_26 okX2_findInRing ioX2_findInRing mk_X7_159 (ci := 2) rfl (by decide) (lat hY rfl) rfl rfl (Nat.le_of_ble_eq_true rfl) (by decide) hY (CM.monoi h fun r3 F3 A3 h => ?_)
      exact z_iretM dX7_ring_29 rfl h
    · have h := h.2 hb
      refine z_iconst (v := (-1)) dX7_ring_18 rfl ?_
      exact z_iretM dX7_ring_19 rfl h
set_option maxHeartbeats 4000000 in
set_option maxRecDepth 100000 in
theorem vX1_readMeasure_0 {l : Launch} {w : Nat → Nat} {nb : Nat} {Q : PM} {F A : MI} {t : Nat} (ht : isTx t) (h : CM l mX5_isAtDigit 2 w nb [.ref 2] F A (qi fun r1 F1 A1 => ((¬ r1 = 0 → CM l mX5_peek 1 w nb [.ref 2] F1 A1 (qi fun r2 F2 A2 => (((r2 - 48) < 3 → CM l mX5_skip 1 w nb [.ref 2] F2 A2 (qv fun F3 A3 => CM l mX5_skipIf 2 w nb [.ref 2, .int 62] F3 A3 (qi fun r4 F4 A4 => ((r4 = 0 → CM l mX5_skipIf 2 w nb [.ref 2, .int 60] F4 A4 (qi fun r5 F5 A5 => ((r5 = 0 → CM l mX5_faultHere 2 w nb [.ref 2, .int 1] F5 A5 (qi fun r6 F6 A6 => Q (some (.int r6)) F6 A6)) ∧ (¬ r5 = 0 → CM l mX1_readMost 4 w nb [.ref t, .ref 2, .int (1 + (r2 - 48)), .int 1] F5 A5 (qi fun r7 F7 A7 => Q (some (.int r7)) F7 A7))))) ∧ (¬ r4 = 0 → CM l mX1_readLeast 4 w nb [.ref t, .ref 2, .int (1 + (r2 - 48)), .int 1] F4 A4 (qi fun r8 F8 A8 => Q (some (.int r8)) F8 A8)))))) ∧ (¬ (r2 - 48) < 3 → CM l mX5_faultHere 2 w nb [.ref 2, .int 2] F2 A2 (qi fun r9 F9 A9 => Q (some (.int r9)) F9 A9))))) ∧ (r1 = 0 → CM l mX5_faultHere 2 w nb [.ref 2, .int 1] F1 A1 (qi fun r10 F10 A10 => Q (some (.int r10)) F10 A10))))) : ZM l mX1_readMeasure 5 w nb Q 0 [(0, .ref t), (1, .ref 2)] [] F A := by
  intro T G B hY
  refine z_aload_n dX1_readMeasure_0 1 rfl rfl ?_
  refine zm_Vi (As := []) (rest := []) dX1_readMeasure_1 okX5_isAtDigit ioX5_isAtDigit mk_X1_88 (ci := 5) rfl (by decide) (lat hY rfl) rfl rfl (Nat.le_of_ble_eq_true rfl) (by decide) hY (CM.monoi h fun r1 F1 A1 h => ?_)
  refine z_if_ne (tgt := 13) dX1_readMeasure_4 (by decide) (fun hb => ?_) (fun hb => ?_)
  · have h := h.1 hb
    refine z_aload_n dX1_readMeasure_13 1 rfl rfl ?_
    refine zm_Vi (As := []) (rest := []) dX1_readMeasure_14 okX5_peek ioX5_peek mk_X1_58 (ci := 5) rfl (by decide) (lat hY rfl) rfl rfl (Nat.le_of_ble_eq_true rfl) (by decide) hY (CM.monoi h fun r2 F2 A2 h => ?_)
    refine z_bipush (v := 48) dX1_readMeasure_17 rfl ?_
    refine z_isub dX1_readMeasure_19 ?_
    refine z_istore_n (lv' := [(0, .ref t), (1, .ref 2), (2, .int (r2 - 48))]) dX1_readMeasure_20 rfl (by decide) rfl ?_
    refine z_iload_n dX1_readMeasure_21 2 rfl rfl ?_
    refine z_iconst (v := 3) dX1_readMeasure_22 rfl ?_
    refine z_icmp_lt (tgt := 32) dX1_readMeasure_23 (by decide) (fun hb => ?_) (fun hb => ?_)
    · have h := h.1 hb
      refine z_aload_n dX1_readMeasure_32 1 rfl rfl ?_
      refine zm_Vv (As := []) (rest := []) dX1_readMeasure_33 okX5_skip ioX5_skip mk_X1_91 (ci := 5) rfl (by decide) (lat hY rfl) rfl rfl (Nat.le_of_ble_eq_true rfl) (by decide) hY (CM.monov h fun F3 A3 h => ?_)
      refine z_aload_n dX1_readMeasure_36 1 rfl rfl ?_
      refine z_bipush (v := 62) dX1_readMeasure_37 rfl ?_
      refine zm_Vi (As := [.int 62]) (rest := []) dX1_readMeasure_39 okX5_skipIf ioX5_skipIf mk_X1_50 (ci := 5) rfl (by decide) (lat hY rfl) rfl rfl (Nat.le_of_ble_eq_true rfl) (by decide) hY (CM.monoi h fun r4 F4 A4 h => ?_)
      refine z_if_eq (tgt := 55) dX1_readMeasure_42 (by decide) (fun hb => ?_) (fun hb => ?_)
      · have h := h.1 hb
        refine z_aload_n dX1_readMeasure_55 1 rfl rfl ?_
        refine z_bipush (v := 60) dX1_readMeasure_56 rfl ?_
        refine zm_Vi (As := [.int 60]) (rest := []) dX1_readMeasure_58 okX5_skipIf ioX5_skipIf mk_X1_50 (ci := 5) rfl (by decide) (lat hY rfl) rfl rfl (Nat.le_of_ble_eq_true rfl) (by decide) hY (CM.monoi h fun r5 F5 A5 h => ?_)
        refine z_if_eq (tgt := 74) dX1_readMeasure_61 (by decide) (fun hb => ?_) (fun hb => ?_)
        · have h := h.1 hb
          refine z_aload_n dX1_readMeasure_74 1 rfl rfl ?_
          refine z_iconst (v := 1) dX1_readMeasure_75 rfl ?_
          refine zm_Vi (As := [.int 1]) (rest := []) dX1_readMeasure_76 okX5_faultHere ioX5_faultHere mk_X1_54 (ci := 5) rfl (by decide) (lat hY rfl) rfl rfl (Nat.le_of_ble_eq_true rfl) (by decide) hY (CM.monoi h fun r6 F6 A6 h => ?_)
          exact z_iretM dX1_readMeasure_79 rfl h
        · have h := h.2 hb
          refine z_aload_n dX1_readMeasure_64 0 rfl rfl ?_
          refine z_aload_n dX1_readMeasure_65 1 rfl rfl ?_
          refine z_iconst (v := 1) dX1_readMeasure_66 rfl ?_
          refine z_iload_n dX1_readMeasure_67 2 rfl rfl ?_
          refine z_iadd dX1_readMeasure_68 ?_
          refine z_iconst (v := 1) dX1_readMeasure_69 rfl ?_
          refine zm_Vi (As := [.ref 2, .int (1 + (r2 - 48)), .int 1]) (rest := []) dX1_readMeasure_70 okX1_readMost ioX1_readMost mk_X1_82 (ci := 1) rfl (by decide) (lat1 hY ht) rfl rfl (Nat.le_of_ble_eq_true rfl) (by decide) hY (CM.monoi h fun r7 F7 A7 h => ?_)
          exact z_iretM dX1_readMeasure_73 rfl h
      · have h := h.2 hb
        refine z_aload_n dX1_readMeasure_45 0 rfl rfl ?_
        refine z_aload_n dX1_readMeasure_46 1 rfl rfl ?_
        refine z_iconst (v := 1) dX1_readMeasure_47 rfl ?_
        refine z_iload_n dX1_readMeasure_48 2 rfl rfl ?_
        refine z_iadd dX1_readMeasure_49 ?_
        refine z_iconst (v := 1) dX1_readMeasure_50 rfl ?_
        refine zm_Vi (As := [.ref 2, .int (1 + (r2 - 48)), .int 1]) (rest := []) dX1_readMeasure_51 okX1_readLeast ioX1_readLeast mk_X1_78 (ci := 1) rfl (by decide) (lat1 hY ht) rfl rfl (Nat.le_of_ble_eq_true rfl) (by decide) hY (CM.monoi h fun r8 F8 A8 h => ?_)
        exact z_iretM dX1_readMeasure_54 rfl h
    · have h := h.2 hb
      refine z_aload_n dX1_readMeasure_26 1 rfl rfl ?_
      refine z_iconst (v := 2) dX1_readMeasure_27 rfl ?_
      refine zm_Vi (As := [.int 2]) (rest := []) dX1_readMeasure_28 okX5_faultHere ioX5_faultHere mk_X1_54 (ci := 5) rfl (by decide) (lat hY rfl) rfl rfl (Nat.le_of_ble_eq_true rfl) (by decide) hY (CM.monoi h fun r9 F9 A9 h => ?_)
      exact z_iretM dX1_readMeasure_31 rfl h
  · have h := h.2 hb
    refine z_aload_n dX1_readMeasure_7 1 rfl rfl ?_
    refine z_iconst (v := 1) dX1_readMeasure_8 rfl ?_
    refine zm_Vi (As := [.int 1]) (rest := []) dX1_readMeasure_9 okX5_faultHere ioX5_faultHere mk_X1_54 (ci := 5) rfl (by decide) (lat hY rfl) rfl rfl (Nat.le_of_ble_eq_true rfl) (by decide) hY (CM.monoi h fun r10 F10 A10 h => ?_)
    exact z_iretM dX1_readMeasure_12 rfl h
set_option maxHeartbeats 4000000 in
set_option maxRecDepth 100000 in
theorem vX3_readPair_0 {l : Launch} {w : Nat → Nat} {nb : Nat} {Q : PM} {F A : MI} {c : Nat} (hc : c < 6) (h : CM l mX5_place 1 w nb [.ref 2] F A (qi fun r1 F1 A1 => CM l mX3_placeNamed 2 w nb [.ref 2] F1 A1 (qi fun r2 F2 A2 => CM l mX3_faultOfPlace 3 w nb [.ref 2, .int r2, .int (F2 161 (38 + 14 * c))] F2 A2 (qi fun r3 F3 A3 => ((r3 = 0 → CM l mX5_skip 1 w nb [.ref 2] F3 A3 (qv fun F4 A4 => CM l mX5_skipIf 2 w nb [.ref 2, .int 62] F4 A4 (qi fun r5 F5 A5 => ((¬ r5 = 0 → CM l mX3_placeNamed 2 w nb [.ref 2] F5 A5 (qi fun r6 F6 A6 => CM l mX3_faultOfPlace 3 w nb [.ref 2, .int r6, .int (F6 161 (38 + 14 * c))] F6 A6 (qi fun r7 F7 A7 => ((r7 = 0 → ((¬ r6 = r2 → CM l mX5_skip 1 w nb [.ref 2] F7 A7 (qv fun F8 A8 => ((r2 ≤ r6 → CM l mX5_skipIf 2 w nb [.ref 2, .int 58] F8 A8 (qi fun r9 F9 A9 => ((¬ r9 = 0 → (vp_in (r2 - 1) 8 ∧ (vp_in (A9 (38 + 14 * c + 12) (r2 - 1).toNatClampNeg) 20 ∧ (A9 (38 + 14 * c + 12) (r2 - 1).toNatClampNeg).toNatClampNeg < nb ∧ (vp_in (r6 - 1) 8 ∧ (vp_in (A9 (38 + 14 * c + 12) (r6 - 1).toNatClampNeg) 20 ∧ (A9 (38 + 14 * c + 12) (r6 - 1).toNatClampNeg).toNatClampNeg < nb ∧ CM l mX3_readTerms 4 w nb [.ref 34, .ref 2, .ref (147 + 2 * (A9 (38 + 14 * c + 12) (r2 - 1).toNatClampNeg).toNatClampNeg), .ref (147 + 2 * (A9 (38 + 14 * c + 12) (r6 - 1).toNatClampNeg).toNatClampNeg)] F9 A9 (qi fun r14 F14 A14 => Q (some (.int r14)) F14 A14)))))) ∧ (r9 = 0 → CM l mX5_faultHere 2 w nb [.ref 2, .int 1] F9 A9 (qi fun r15 F15 A15 => Q (some (.int r15)) F15 A15))))) ∧ (¬ r2 ≤ r6 → CM l mX5_faultAt 1 w nb [.ref 2, .int 3, .int r1] F8 A8 (qi fun r16 F16 A16 => Q (some (.int r16)) F16 A16))))) ∧ (r6 = r2 → CM l mX5_faultHere 2 w nb [.ref 2, .int 2] F7 A7 (qi fun r17 F17 A17 => Q (some (.int r17)) F17 A17)))) ∧ (¬ r7 = 0 → Q (some (.int r7)) F7 A7))))) ∧ (r5 = 0 → CM l mX5_faultHere 2 w nb [.ref 2, .int 1] F5 A5 (qi fun r18 F18 A18 => Q (some (.int r18)) F18 A18)))))) ∧ (¬ r3 = 0 → Q (some (.int r3)) F3 A3)))))) : ZM l mX3_readPair 5 w nb Q 0 [(0, .ref 34), (1, .ref 2), (2, .ref (38 + 14 * c)), (3, .ref 4)] [] F A := by
  intro T G B hY
  refine z_aload_n dX3_readPair_0 1 rfl rfl ?_
  refine zm_Vi (As := []) (rest := []) dX3_readPair_1 okX5_place ioX5_place mk_X3_42 (ci := 5) rfl (by decide) (lat hY rfl) rfl rfl (Nat.le_of_ble_eq_true rfl) (by decide) hY (CM.monoi h fun r1 F1 A1 h => ?_)
  refine z_istore (lv' := [(0, .ref 34), (1, .ref 2), (2, .ref (38 + 14 * c)), (3, .ref 4), (4, .int r1)]) dX3_readPair_4 (by decide) rfl ?_
  refine z_aload_n dX3_readPair_6 1 rfl rfl ?_
  refine zm_Si (As := [.ref 2]) (rest := []) dX3_readPair_7 okX3_placeNamed smX3_placeNamed mk_X3_46 rfl rfl (Nat.le_of_ble_eq_true rfl) (by decide) hY (CM.monoi h fun r2 F2 A2 h => ?_)
  refine z_istore (lv' := [(0, .ref 34), (1, .ref 2), (2, .ref (38 + 14 * c)), (3, .ref 4), (4, .int r1), (5, .int r2)]) dX3_readPair_10 (by decide) rfl ?_
  refine z_aload_n dX3_readPair_12 1 rfl rfl ?_
  refine z_iload dX3_readPair_13 5 rfl ?_
  refine z_aload_n dX3_readPair_15 2 rfl rfl ?_
  refine z_geti' (k := 1) (fc := 161) (x := (F2 161 (38 + 14 * c))) dX3_readPair_16 ckX4 (by decide) fk_X3_50 rfl rfl (lat4 hY hc) rfl ?_
  refine zm_Si (As := [.ref 2, .int r2, .int (F2 161 (38 + 14 * c))]) (rest := []) dX3_readPair_19 okX3_faultOfPlace smX3_faultOfPlace mk_X3_55 rfl rfl (Nat.le_of_ble_eq_true rfl) (by decide) hY (CM.monoi h fun r3 F3 A3 h => ?_)
  refine z_istore (lv' := [(0, .ref 34), (1, .ref 2), (2, .ref (38 + 14 * c)), (3, .ref 4), (4, .int r1), (5, .int r2), (6, .int r3)]) dX3_readPair_22 (by decide) rfl ?_
  refine z_iload dX3_readPair_24 6 rfl ?_
  refine z_if_eq (tgt := 32) dX3_readPair_26 (by decide) (fun hb => ?_) (fun hb => ?_)
  · have h := h.1 hb
    refine z_aload_n dX3_readPair_32 1 rfl rfl ?_
    refine zm_Vv (As := []) (rest := []) dX3_readPair_33 okX5_skip ioX5_skip mk_X3_59 (ci := 5) rfl (by decide) (lat hY rfl) rfl rfl (Nat.le_of_ble_eq_true rfl) (by decide) hY (CM.monov h fun F4 A4 h => ?_)
    refine z_aload_n dX3_readPair_36 1 rfl rfl ?_
    refine z_bipush (v := 62) dX3_readPair_37 rfl ?_
    refine zm_Vi (As := [.int 62]) (rest := []) dX3_readPair_39 okX5_skipIf ioX5_skipIf mk_X3_34 (ci := 5) rfl (by decide) (lat hY rfl) rfl rfl (Nat.le_of_ble_eq_true rfl) (by decide) hY (CM.monoi h fun r5 F5 A5 h => ?_)
    refine z_if_ne (tgt := 51) dX3_readPair_42 (by decide) (fun hb => ?_) (fun hb => ?_)
    · have h := h.1 hb
      refine z_aload_n dX3_readPair_51 1 rfl rfl ?_
      refine zm_Si (As := [.ref 2]) (rest := []) dX3_readPair_52 okX3_placeNamed smX3_placeNamed mk_X3_46 rfl rfl (Nat.le_of_ble_eq_true rfl) (by decide) hY (CM.monoi h fun r6 F6 A6 h => ?_)
      refine z_istore (lv' := [(0, .ref 34), (1, .ref 2), (2, .ref (38 + 14 * c)), (3, .ref 4), (4, .int r1), (5, .int r2), (6, .int r3), (7, .int r6)]) dX3_readPair_55 (by decide) rfl ?_
      refine z_aload_n dX3_readPair_57 1 rfl rfl ?_
      refine z_iload dX3_readPair_58 7 rfl ?_
      refine z_aload_n dX3_readPair_60 2 rfl rfl ?_
      refine z_geti' (k := 1) (fc := 161) (x := (F6 161 (38 + 14 * c))) dX3_readPair_61 ckX4 (by decide) fk_X3_50 rfl rfl (lat4 hY hc) rfl ?_
      refine zm_Si (As := [.ref 2, .int r6, .int (F6 161 (38 + 14 * c))]) (rest := []) dX3_readPair_64 okX3_faultOfPlace smX3_faultOfPlace mk_X3_55 rfl rfl (Nat.le_of_ble_eq_true rfl) (by decide) hY (CM.monoi h fun r7 F7 A7 h => ?_)
      refine z_istore (lv' := [(0, .ref 34), (1, .ref 2), (2, .ref (38 + 14 * c)), (3, .ref 4), (4, .int r1), (5, .int r2), (6, .int r7), (7, .int r6)]) dX3_readPair_67 (by decide) rfl ?_
      refine z_iload dX3_readPair_69 6 rfl ?_
      refine z_if_eq (tgt := 77) dX3_readPair_71 (by decide) (fun hb => ?_) (fun hb => ?_)
      · have h := h.1 hb
        refine z_iload dX3_readPair_77 7 rfl ?_
        refine z_iload dX3_readPair_79 5 rfl ?_
        refine z_icmp_ne (tgt := 90) dX3_readPair_81 (by decide) (fun hb => ?_) (fun hb => ?_)
        · have h := h.1 hb
          refine z_aload_n dX3_readPair_90 1 rfl rfl ?_
          refine zm_Vv (As := []) (rest := []) dX3_readPair_91 okX5_skip ioX5_skip mk_X3_59 (ci := 5) rfl (by decide) (lat hY rfl) rfl rfl (Nat.le_of_ble_eq_true rfl) (by decide) hY (CM.monov h fun F8 A8 h => ?_)
          refine z_iload dX3_readPair_94 5 rfl ?_
          refine z_iload dX3_readPair_96 7 rfl ?_
          refine z_icmp_le (tgt := 109) dX3_readPair_98 (by decide) (fun hb => ?_) (fun hb => ?_)
          · have h := h.1 hb
            refine z_aload_n dX3_readPair_109 1 rfl rfl ?_
            refine z_bipush (v := 58) dX3_readPair_110 rfl ?_
            refine zm_Vi (As := [.int 58]) (rest := []) dX3_readPair_112 okX5_skipIf ioX5_skipIf mk_X3_34 (ci := 5) rfl (by decide) (lat hY rfl) rfl rfl (Nat.le_of_ble_eq_true rfl) (by decide) hY (CM.monoi h fun r9 F9 A9 h => ?_)
            refine z_if_ne (tgt := 124) dX3_readPair_115 (by decide) (fun hb => ?_) (fun hb => ?_)
            · have h := h.1 hb
              refine z_aload_n dX3_readPair_124 0 rfl rfl ?_
              refine z_aload_n dX3_readPair_125 1 rfl rfl ?_
              refine z_aload_n dX3_readPair_126 3 rfl rfl ?_
              refine z_aload_n dX3_readPair_127 2 rfl rfl ?_
              refine z_getr (k := 6) (fc := 166) (r := (38 + 14 * c + 12)) dX3_readPair_128 ckX4 (by decide) fk_X3_65 rfl rfl (lat4 hY hc) (lggc hY 166 12 hc (by decide)) (by omega) ?_
              refine z_iload dX3_readPair_131 5 rfl ?_
              refine z_iconst (v := 1) dX3_readPair_133 rfl ?_
              refine z_isub dX3_readPair_134 ?_
              have hin10 := h.1
              have h := h.2
              refine z_iald' (n := 8) (x := (A9 (38 + 14 * c + 12) (r2 - 1).toNatClampNeg)) dX3_readPair_135 (latc hY hc 12 (by decide)) (llnc hY hc 12 (by decide)) hin10 rfl ?_
              have hin11 := h.1
              have h := h.2
              have hi11 := h.1
              have h := h.2
              refine z_aald' (ci := 11) (n := 20) (r := (147 + 2 * (A9 (38 + 14 * c + 12) (r2 - 1).toNatClampNeg).toNatClampNeg)) dX3_readPair_136 (lat hY rfl) (by decide) (lln hY rfl) hin11 (lbb0 hY hi11) (by omega) ?_
              refine z_aload_n dX3_readPair_137 3 rfl rfl ?_
              refine z_aload_n dX3_readPair_138 2 rfl rfl ?_
              refine z_getr (k := 6) (fc := 166) (r := (38 + 14 * c + 12)) dX3_readPair_139 ckX4 (by decide) fk_X3_65 rfl rfl (lat4 hY hc) (lggc hY 166 12 hc (by decide)) (by omega) ?_
              refine z_iload dX3_readPair_142 7 rfl ?_
              refine z_iconst (v := 1) dX3_readPair_144 rfl ?_
              refine z_isub dX3_readPair_145 ?_
              have hin12 := h.1
              have h := h.2
              refine z_iald' (n := 8) (x := (A9 (38 + 14 * c + 12) (r6 - 1).toNatClampNeg)) dX3_readPair_146 (latc hY hc 12 (by decide)) (llnc hY hc 12 (by decide)) hin12 rfl ?_
              have hin13 := h.1
              have h := h.2
              have hi13 := h.1
              have h := h.2
              refine z_aald' (ci := 11) (n := 20) (r := (147 + 2 * (A9 (38 + 14 * c + 12) (r6 - 1).toNatClampNeg).toNatClampNeg)) dX3_readPair_147 (lat hY rfl) (by decide) (lln hY rfl) hin13 (lbb0 hY hi13) (by omega) ?_
              refine zm_Vi (As := [.ref 2, .ref (147 + 2 * (A9 (38 + 14 * c + 12) (r2 - 1).toNatClampNeg).toNatClampNeg), .ref (147 + 2 * (A9 (38 + 14 * c + 12) (r6 - 1).toNatClampNeg).toNatClampNeg)]) (rest := []) dX3_readPair_148 okX3_readTerms ioX3_readTerms mk_X3_69 (ci := 3) rfl (by decide) (lat hY rfl) rfl rfl (Nat.le_of_ble_eq_true rfl) (by decide) hY (CM.monoi h fun r14 F14 A14 h => ?_)
              exact z_iretM dX3_readPair_151 rfl h
            · have h := h.2 hb
              refine z_aload_n dX3_readPair_118 1 rfl rfl ?_
              refine z_iconst (v := 1) dX3_readPair_119 rfl ?_
              refine zm_Vi (As := [.int 1]) (rest := []) dX3_readPair_120 okX5_faultHere ioX5_faultHere mk_X3_38 (ci := 5) rfl (by decide) (lat hY rfl) rfl rfl (Nat.le_of_ble_eq_true rfl) (by decide) hY (CM.monoi h fun r15 F15 A15 h => ?_)
              exact z_iretM dX3_readPair_123 rfl h
          · have h := h.2 hb
            refine z_aload_n dX3_readPair_101 1 rfl rfl ?_
            refine z_iconst (v := 3) dX3_readPair_102 rfl ?_
            refine z_iload dX3_readPair_103 4 rfl ?_
            refine zm_Vi (As := [.int 3, .int r1]) (rest := []) dX3_readPair_105 okX5_faultAt ioX5_faultAt mk_X3_62 (ci := 5) rfl (by decide) (lat hY rfl) rfl rfl (Nat.le_of_ble_eq_true rfl) (by decide) hY (CM.monoi h fun r16 F16 A16 h => ?_)
            exact z_iretM dX3_readPair_108 rfl h
        · have h := h.2 hb
          refine z_aload_n dX3_readPair_84 1 rfl rfl ?_
          refine z_iconst (v := 2) dX3_readPair_85 rfl ?_
          refine zm_Vi (As := [.int 2]) (rest := []) dX3_readPair_86 okX5_faultHere ioX5_faultHere mk_X3_38 (ci := 5) rfl (by decide) (lat hY rfl) rfl rfl (Nat.le_of_ble_eq_true rfl) (by decide) hY (CM.monoi h fun r17 F17 A17 h => ?_)
          exact z_iretM dX3_readPair_89 rfl h
      · have h := h.2 hb
        refine z_iload dX3_readPair_74 6 rfl ?_
        exact z_iretM dX3_readPair_76 rfl h
    · have h := h.2 hb
      refine z_aload_n dX3_readPair_45 1 rfl rfl ?_
      refine z_iconst (v := 1) dX3_readPair_46 rfl ?_
      refine zm_Vi (As := [.int 1]) (rest := []) dX3_readPair_47 okX5_faultHere ioX5_faultHere mk_X3_38 (ci := 5) rfl (by decide) (lat hY rfl) rfl rfl (Nat.le_of_ble_eq_true rfl) (by decide) hY (CM.monoi h fun r18 F18 A18 h => ?_)
      exact z_iretM dX3_readPair_50 rfl h
  · have h := h.2 hb
    refine z_iload dX3_readPair_29 6 rfl ?_
    exact z_iretM dX3_readPair_31 rfl h
set_option maxHeartbeats 4000000 in
set_option maxRecDepth 100000 in
theorem vX7_enter_0 {l : Launch} {w : Nat → Nat} {nb : Nat} {Q : PM} {x1 x2 : Int32} {F A : MI}  (h : CM l mX7_lets 4 w nb [.ref 1, .int x1, .int x2] F A (qi fun r1 F1 A1 => ((r1 = 1 → (vp_in x1 6 ∧ CM l mX4_canTake 1 w nb [.ref (38 + 14 * x1.toNatClampNeg), .int x2] F1 A1 (qi fun r3 F3 A3 => ((¬ r3 = 0 → CM l mX4_take 2 w nb [.ref (38 + 14 * x1.toNatClampNeg), .int x2] F3 A3 (qv fun F4 A4 => CM l mX2_join 3 w nb [.ref 7, .ref (38 + 14 * x1.toNatClampNeg)] F4 A4 (qv fun F5 A5 => Q (some (.int 1)) F5 A5))) ∧ (r3 = 0 → Q (some (.int 0)) F3 A3))))) ∧ (¬ r1 = 1 → Q (some (.int 0)) F1 A1)))) : ZM l mX7_enter 5 w nb Q 0 [(0, .ref 1), (1, .int x1), (2, .int x2)] [] F A := by
  intro T G B hY
  refine z_aload_n dX7_enter_0 0 rfl rfl ?_
  refine z_iload_n dX7_enter_1 1 rfl rfl ?_
  refine z_iload_n dX7_enter_2 2 rfl rfl ?_
  refine zm_Vi (As := [.int x1, .int x2]) (rest := []) dX7_enter_3 okX7_lets ioX7_lets mk_X7_120 (ci := 7) rfl (by decide) (lat hY rfl) rfl rfl (Nat.le_of_ble_eq_true rfl) (by decide) hY (CM.monoi h fun r1 F1 A1 h => ?_)
  refine z_iconst (v := 1) dX7_enter_6 rfl ?_
  refine z_icmp_eq (tgt := 12) dX7_enter_7 (by decide) (fun hb => ?_) (fun hb => ?_)
  · have h := h.1 hb
    refine z_aload_n dX7_enter_12 0 rfl rfl ?_
    refine z_getr (k := 2) (fc := 282) (r := 5) dX7_enter_13 ckX7 (by decide) fk_X7_24 rfl rfl (lat hY rfl) (lgg hY rfl) (by decide) ?_
    refine z_iload_n dX7_enter_16 1 rfl rfl ?_
    have hin2 := h.1
    have h := h.2
    refine z_aald' (ci := 12) (n := 6) (r := (38 + 14 * x1.toNatClampNeg)) dX7_enter_17 (lat hY rfl) (by decide) (lln hY rfl) hin2 (lbb5 hY (vin hin2)) (by omega) ?_
    refine z_astore_n (lv' := [(0, .ref 1), (1, .int x1), (2, .int x2), (3, .ref (38 + 14 * x1.toNatClampNeg))]) dX7_enter_18 rfl (by decide) rfl ?_
    refine z_aload_n dX7_enter_19 3 rfl rfl ?_
    refine z_iload_n dX7_enter_20 2 rfl rfl ?_
    refine zm_Vi (As := [.int x2]) (rest := []) dX7_enter_21 okX4_canTake ioX4_canTake mk_X7_124 (ci := 4) rfl (by decide) (lat4 hY (vin hin2)) rfl rfl (Nat.le_of_ble_eq_true rfl) (by decide) hY (CM.monoi h fun r3 F3 A3 h => ?_)
    refine z_if_ne (tgt := 29) dX7_enter_24 (by decide) (fun hb => ?_) (fun hb => ?_)
    · have h := h.1 hb
      refine z_aload_n dX7_enter_29 3 rfl rfl ?_
      refine z_iload_n dX7_enter_30 2 rfl rfl ?_
      refine zm_Vv (As := [.int x2]) (rest := []) dX7_enter_31 okX4_take ioX4_take mk_X7_127 (ci := 4) rfl (by decide) (lat4 hY (vin hin2)) rfl rfl (Nat.le_of_ble_eq_true rfl) (by decide) hY (CM.monov h fun F4 A4 h => ?_)
      refine z_aload_n dX7_enter_34 0 rfl rfl ?_
      refine z_getr (k := 4) (fc := 284) (r := 7) dX7_enter_35 ckX7 (by decide) fk_X7_35 rfl rfl (lat hY rfl) (lgg hY rfl) (by decide) ?_
      refine z_aload_n dX7_enter_38 3 rfl rfl ?_
      refine zm_Vv (As := [.ref (38 + 14 * x1.toNatClampNeg)]) (rest := []) dX7_enter_39 okX2_join ioX2_join mk_X7_130 (ci := 2) rfl (by decide) (lat hY rfl) rfl rfl (Nat.le_of_ble_eq_true rfl) (by decide) hY (CM.monov h fun F5 A5 h => ?_)
      refine z_iconst (v := 1) dX7_enter_42 rfl ?_
      exact z_zretM dX7_enter_43 rfl (by decide) h
    · have h := h.2 hb
      refine z_iconst (v := 0) dX7_enter_27 rfl ?_
      exact z_zretM dX7_enter_28 rfl (by decide) h
  · have h := h.2 hb
    refine z_iconst (v := 0) dX7_enter_10 rfl ?_
    exact z_zretM dX7_enter_11 rfl (by decide) h
set_option maxHeartbeats 4000000 in
set_option maxRecDepth 100000 in
theorem vX1_readClause_0 {l : Launch} {w : Nat → Nat} {nb : Nat} {Q : PM} {F A : MI} {t : Nat} (ht : isTx t) (h : CM l mX5_skipIf 2 w nb [.ref 2, .int 98] F A (qi fun r1 F1 A1 => ((r1 = 0 → CM l mX5_skipIf 2 w nb [.ref 2, .int 102] F1 A1 (qi fun r2 F2 A2 => ((r2 = 0 → CM l mX5_skipIf 2 w nb [.ref 2, .int 116] F2 A2 (qi fun r3 F3 A3 => ((r3 = 0 → CM l mX5_skipIf 2 w nb [.ref 2, .int 109] F3 A3 (qi fun r4 F4 A4 => ((r4 = 0 → CM l mX5_faultHere 2 w nb [.ref 2, .int 1] F4 A4 (qi fun r5 F5 A5 => Q (some (.int r5)) F5 A5)) ∧ (¬ r4 = 0 → CM l mX1_readMeasure 5 w nb [.ref t, .ref 2] F4 A4 (qi fun r6 F6 A6 => Q (some (.int r6)) F6 A6))))) ∧ (¬ r3 = 0 → CM l mX1_readMost 4 w nb [.ref t, .ref 2, .int 0, .int 0] F3 A3 (qi fun r7 F7 A7 => Q (some (.int r7)) F7 A7))))) ∧ (¬ r2 = 0 → CM l mX1_readLeast 4 w nb [.ref t, .ref 2, .int 0, .int 0] F2 A2 (qi fun r8 F8 A8 => Q (some (.int r8)) F8 A8))))) ∧ (¬ r1 = 0 → CM l mX1_readBreeds 3 w nb [.ref t, .ref 2] F1 A1 (qi fun r9 F9 A9 => Q (some (.int r9)) F9 A9))))) : ZM l mX1_readClause 6 w nb Q 0 [(0, .ref t), (1, .ref 2)] [] F A := by
  intro T G B hY
  refine z_aload_n dX1_readClause_0 1 rfl rfl ?_
  refine z_bipush (v := 98) dX1_readClause_1 rfl ?_
  refine zm_Vi (As := [.int 98]) (rest := []) dX1_readClause_3 okX5_skipIf ioX5_skipIf mk_X1_50 (ci := 5) rfl (by decide) (lat hY rfl) rfl rfl (Nat.le_of_ble_eq_true rfl) (by decide) hY (CM.monoi h fun r1 F1 A1 h => ?_)
  refine z_if_eq (tgt := 15) dX1_readClause_6 (by decide) (fun hb => ?_) (fun hb => ?_)
  · have h := h.1 hb
    refine z_aload_n dX1_readClause_15 1 rfl rfl ?_
    refine z_bipush (v := 102) dX1_readClause_16 rfl ?_
    refine zm_Vi (As := [.int 102]) (rest := []) dX1_readClause_18 okX5_skipIf ioX5_skipIf mk_X1_50 (ci := 5) rfl (by decide) (lat hY rfl) rfl rfl (Nat.le_of_ble_eq_true rfl) (by decide) hY (CM.monoi h fun r2 F2 A2 h => ?_)
    refine z_if_eq (tgt := 32) dX1_readClause_21 (by decide) (fun hb => ?_) (fun hb => ?_)
    · have h := h.1 hb
      refine z_aload_n dX1_readClause_32 1 rfl rfl ?_
      refine z_bipush (v := 116) dX1_readClause_33 rfl ?_
      refine zm_Vi (As := [.int 116]) (rest := []) dX1_readClause_35 okX5_skipIf ioX5_skipIf mk_X1_50 (ci := 5) rfl (by decide) (lat hY rfl) rfl rfl (Nat.le_of_ble_eq_true rfl) (by decide) hY (CM.monoi h fun r3 F3 A3 h => ?_)
      refine z_if_eq (tgt := 49) dX1_readClause_38 (by decide) (fun hb => ?_) (fun hb => ?_)
      · have h := h.1 hb
        refine z_aload_n dX1_readClause_49 1 rfl rfl ?_
        refine z_bipush (v := 109) dX1_readClause_50 rfl ?_
        refine zm_Vi (As := [.int 109]) (rest := []) dX1_readClause_52 okX5_skipIf ioX5_skipIf mk_X1_50 (ci := 5) rfl (by decide) (lat hY rfl) rfl rfl (Nat.le_of_ble_eq_true rfl) (by decide) hY (CM.monoi h fun r4 F4 A4 h => ?_)
        refine z_if_eq (tgt := 64) dX1_readClause_55 (by decide) (fun hb => ?_) (fun hb => ?_)
        · have h := h.1 hb
          refine z_aload_n dX1_readClause_64 1 rfl rfl ?_
          refine z_iconst (v := 1) dX1_readClause_65 rfl ?_
          refine zm_Vi (As := [.int 1]) (rest := []) dX1_readClause_66 okX5_faultHere ioX5_faultHere mk_X1_54 (ci := 5) rfl (by decide) (lat hY rfl) rfl rfl (Nat.le_of_ble_eq_true rfl) (by decide) hY (CM.monoi h fun r5 F5 A5 h => ?_)
          exact z_iretM dX1_readClause_69 rfl h
        · have h := h.2 hb
          refine z_aload_n dX1_readClause_58 0 rfl rfl ?_
          refine z_aload_n dX1_readClause_59 1 rfl rfl ?_
          refine zm_Vi (As := [.ref 2]) (rest := []) dX1_readClause_60 okX1_readMeasure ioX1_readMeasure mk_X1_85 (ci := 1) rfl (by decide) (lat1 hY ht) rfl rfl (Nat.le_of_ble_eq_true rfl) (by decide) hY (CM.monoi h fun r6 F6 A6 h => ?_)
          exact z_iretM dX1_readClause_63 rfl h
      · have h := h.2 hb
        refine z_aload_n dX1_readClause_41 0 rfl rfl ?_
        refine z_aload_n dX1_readClause_42 1 rfl rfl ?_
        refine z_iconst (v := 0) dX1_readClause_43 rfl ?_
        refine z_iconst (v := 0) dX1_readClause_44 rfl ?_
        refine zm_Vi (As := [.ref 2, .int 0, .int 0]) (rest := []) dX1_readClause_45 okX1_readMost ioX1_readMost mk_X1_82 (ci := 1) rfl (by decide) (lat1 hY ht) rfl rfl (Nat.le_of_ble_eq_true rfl) (by decide) hY (CM.monoi h fun r7 F7 A7 h => ?_)
        exact z_iretM dX1_readClause_48 rfl h
    · have h := h.2 hb
      refine z_aload_n dX1_readClause_24 0 rfl rfl ?_
      refine z_aload_n dX1_readClause_25 1 rfl rfl ?_
      refine z_iconst (v := 0) dX1_readClause_26 rfl ?_
      refine z_iconst (v := 0) dX1_readClause_27 rfl ?_
      refine zm_Vi (As := [.ref 2, .int 0, .int 0]) (rest := []) dX1_readClause_28 okX1_readLeast ioX1_readLeast mk_X1_78 (ci := 1) rfl (by decide) (lat1 hY ht) rfl rfl (Nat.le_of_ble_eq_true rfl) (by decide) hY (CM.monoi h fun r8 F8 A8 h => ?_)
      exact z_iretM dX1_readClause_31 rfl h
  · have h := h.2 hb
    refine z_aload_n dX1_readClause_9 0 rfl rfl ?_
    refine z_aload_n dX1_readClause_10 1 rfl rfl ?_
    refine zm_Vi (As := [.ref 2]) (rest := []) dX1_readClause_11 okX1_readBreeds ioX1_readBreeds mk_X1_75 (ci := 1) rfl (by decide) (lat1 hY ht) rfl rfl (Nat.le_of_ble_eq_true rfl) (by decide) hY (CM.monoi h fun r9 F9 A9 h => ?_)
    exact z_iretM dX1_readClause_14 rfl h
set_option maxHeartbeats 4000000 in
set_option maxRecDepth 100000 in
theorem vX3_readPairs_0 {l : Launch} {w : Nat → Nat} {nb : Nat} {Q : PM} {F A : MI} {c : Nat} (hc : c < 6) (h : ZM l mX3_readPairs 6 w nb Q 3 [(0, .ref 34), (1, .ref 2), (2, .ref (38 + 14 * c)), (3, .ref 4), (4, .int 0)] [] F A) : ZM l mX3_readPairs 6 w nb Q 0 [(0, .ref 34), (1, .ref 2), (2, .ref (38 + 14 * c)), (3, .ref 4)] [] F A := by
  intro T G B hY
  refine z_iconst (v := 0) dX3_readPairs_0 rfl ?_
  refine z_istore (lv' := [(0, .ref 34), (1, .ref 2), (2, .ref (38 + 14 * c)), (3, .ref 4), (4, .int 0)]) dX3_readPairs_1 (by decide) rfl ?_
  exact z_pick [0, 1, 2, 3, 4] rfl (h T G B hY)
set_option maxHeartbeats 4000000 in
set_option maxRecDepth 100000 in
theorem vX3_readPairs_3 {l : Launch} {w : Nat → Nat} {nb : Nat} {Q : PM} {x4 : Int32} {F A : MI} {c : Nat} (hc : c < 6) (h : ((80 ≤ x4 → CM l mX5_faultHere 2 w nb [.ref 2, .int 1] F A (qi fun r1 F1 A1 => Q (some (.int r1)) F1 A1)) ∧ (¬ 80 ≤ x4 → CM l mX3_readPair 5 w nb [.ref 34, .ref 2, .ref (38 + 14 * c), .ref 4] F A (qi fun r2 F2 A2 => ((r2 = 0 → CM l mX5_isAtEnd 1 w nb [.ref 2] F2 A2 (qi fun r3 F3 A3 => ((r3 = 0 → CM l mX5_skipIf 2 w nb [.ref 2, .int 59] F3 A3 (qi fun r4 F4 A4 => ((¬ r4 = 0 → ZM l mX3_readPairs 6 w nb Q 3 [(0, .ref 34), (1, .ref 2), (2, .ref (38 + 14 * c)), (3, .ref 4), (4, .int (x4 + 1))] [] F4 A4) ∧ (r4 = 0 → CM l mX5_faultHere 2 w nb [.ref 2, .int 1] F4 A4 (qi fun r5 F5 A5 => Q (some (.int r5)) F5 A5))))) ∧ (¬ r3 = 0 → Q (some (.int 0)) F3 A3)))) ∧ (¬ r2 = 0 → Q (some (.int r2)) F2 A2)))))) : ZM l mX3_readPairs 6 w nb Q 3 [(0, .ref 34), (1, .ref 2), (2, .ref (38 + 14 * c)), (3, .ref 4), (4, .int x4)] [] F A := by
  intro T G B hY
  refine z_iload dX3_readPairs_3 4 rfl ?_
  refine z_bipush (v := 80) dX3_readPairs_5 rfl ?_
  refine z_icmp_ge (tgt := 57) dX3_readPairs_7 (by decide) (fun hb => ?_) (fun hb => ?_)
  · have h := h.1 hb
    refine z_aload_n dX3_readPairs_57 1 rfl rfl ?_
    refine z_iconst (v := 1) dX3_readPairs_58 rfl ?_
    refine zm_Vi (As := [.int 1]) (rest := []) dX3_readPairs_59 okX5_faultHere ioX5_faultHere mk_X3_38 (ci := 5) rfl (by decide) (lat hY rfl) rfl rfl (Nat.le_of_ble_eq_true rfl) (by decide) hY (CM.monoi h fun r1 F1 A1 h => ?_)
    exact z_iretM dX3_readPairs_62 rfl h
  · have h := h.2 hb
    refine z_aload_n dX3_readPairs_10 0 rfl rfl ?_
    refine z_aload_n dX3_readPairs_11 1 rfl rfl ?_
    refine z_aload_n dX3_readPairs_12 2 rfl rfl ?_
    refine z_aload_n dX3_readPairs_13 3 rfl rfl ?_
    refine zm_Vi (As := [.ref 2, .ref (38 + 14 * c), .ref 4]) (rest := []) dX3_readPairs_14 okX3_readPair ioX3_readPair mk_X3_25 (ci := 3) rfl (by decide) (lat hY rfl) rfl rfl (Nat.le_of_ble_eq_true rfl) (by decide) hY (CM.monoi h fun r2 F2 A2 h => ?_)
    refine z_istore (lv' := [(0, .ref 34), (1, .ref 2), (2, .ref (38 + 14 * c)), (3, .ref 4), (4, .int x4), (5, .int r2)]) dX3_readPairs_17 (by decide) rfl ?_
    refine z_iload dX3_readPairs_19 5 rfl ?_
    refine z_if_eq (tgt := 27) dX3_readPairs_21 (by decide) (fun hb => ?_) (fun hb => ?_)
    · have h := h.1 hb
      refine z_aload_n dX3_readPairs_27 1 rfl rfl ?_
      refine zm_Vi (As := []) (rest := []) dX3_readPairs_28 okX5_isAtEnd ioX5_isAtEnd mk_X3_28 (ci := 5) rfl (by decide) (lat hY rfl) rfl rfl (Nat.le_of_ble_eq_true rfl) (by decide) hY (CM.monoi h fun r3 F3 A3 h => ?_)
      refine z_if_eq (tgt := 36) dX3_readPairs_31 (by decide) (fun hb => ?_) (fun hb => ?_)
      · have h := h.1 hb
        refine z_aload_n dX3_readPairs_36 1 rfl rfl ?_
        refine z_bipush (v := 59) dX3_readPairs_37 rfl ?_
        refine zm_Vi (As := [.int 59]) (rest := []) dX3_readPairs_39 okX5_skipIf ioX5_skipIf mk_X3_34 (ci := 5) rfl (by decide) (lat hY rfl) rfl rfl (Nat.le_of_ble_eq_true rfl) (by decide) hY (CM.monoi h fun r4 F4 A4 h => ?_)
        refine z_if_ne (tgt := 51) dX3_readPairs_42 (by decide) (fun hb => ?_) (fun hb => ?_)
        · have h := h.1 hb
          refine z_iinc (v := (x4 + 1)) (lv' := [(0, .ref 34), (1, .ref 2), (2, .ref (38 + 14 * c)), (3, .ref 4), (4, .int (x4 + 1)), (5, .int r2)]) dX3_readPairs_51 4 rfl rfl (by decide) rfl ?_
          refine z_goto (tgt := 3) dX3_readPairs_54 (by decide) ?_
          exact z_pick [0, 1, 2, 3, 4] rfl (h T G B hY)
        · have h := h.2 hb
          refine z_aload_n dX3_readPairs_45 1 rfl rfl ?_
          refine z_iconst (v := 1) dX3_readPairs_46 rfl ?_
          refine zm_Vi (As := [.int 1]) (rest := []) dX3_readPairs_47 okX5_faultHere ioX5_faultHere mk_X3_38 (ci := 5) rfl (by decide) (lat hY rfl) rfl rfl (Nat.le_of_ble_eq_true rfl) (by decide) hY (CM.monoi h fun r5 F5 A5 h => ?_)
          exact z_iretM dX3_readPairs_50 rfl h
      · have h := h.2 hb
        refine z_iconst (v := 0) dX3_readPairs_34 rfl ?_
        exact z_iretM dX3_readPairs_35 rfl h
    · have h := h.2 hb
      refine z_iload dX3_readPairs_24 5 rfl ?_
      exact z_iretM dX3_readPairs_26 rfl h
