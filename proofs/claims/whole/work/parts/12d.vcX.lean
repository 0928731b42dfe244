theorem kX7_protest {l : Launch} {w : Nat → Nat} {nb : Nat} {Q : PM} {x1 x2 : Int32} {F A : MI}  (h : CM l mX7_classAt 2 w nb [.ref 1, .int x1] F A (qc (fun F1 A1 => Q (some (.int 0)) F1 A1) (fun c1 F1 A1 => CM l mX7_beastAt 2 w nb [.ref 1, .int x2] F1 A1 (qb nb (fun F2 A2 => Q (some (.int 0)) F2 A2) (fun c2 F2 A2 => CM l mX4_holds 1 w nb [.ref (38 + 14 * c1), .int x2] F2 A2 (qi fun r3 F3 A3 => ((¬ r3 = 0 → CM l mX4_putOut 1 w nb [.ref (38 + 14 * c1), .int x2] F3 A3 (qv fun F4 A4 => CM l mX2_join 3 w nb [.ref 7, .ref (38 + 14 * c1)] F4 A4 (qv fun F5 A5 => Q (some (.int 1)) F5 A5))) ∧ (r3 = 0 → Q (some (.int 0)) F3 A3)))))))) : CM l mX7_protest 4 w nb [.ref 1, .int x1, .int x2] F A Q := CM.ofZ (by decide) (fun _ _ => rfl) (fun _ _ => Nat.le_of_ble_eq_true rfl) (vX7_protest_0  h)
set_option maxHeartbeats 4000000 in
set_option maxRecDepth 100000 in
theorem vX7_ring_0 {l : Launch} {w : Nat → Nat} {nb : Nat} {Q : PM} {x1 x2 : Int32} {F A : MI}  (h : CM l mX7_classAt 2 w nb [.ref 1, .int x1] F A (qc (fun F1 A1 => Q (some (.int (-1))) F1 A1) (fun c1 F1 A1 => CM l mX7_isBelow 1 w nb [.int x2, .int 3] F1 A1 (qi fun r2 F2 A2 => ((¬ r2 = 0 → CM l mX2_findInRing 3 w nb [.ref 7, .ref (38 + 14 * c1), .int x2] F2 A2 (qi fun r3 F3 A3 => Q (some (.int r3)) F3 A3)) ∧ (r2 = 0 → Q (some (.int (-1))) F2 A2)))))) : ZM l mX7_ring 4 w nb Q 0 [(0, .ref 1), (1, .int x1), (2, .int x2)] [] F A := by
  intro T G B hY
  refine z_aload_n dX7_ring_0 0 rfl rfl ?_
  refine z_iload_n dX7_ring_1 1 rfl rfl ?_
  refine zm_Vc (As := [.int x1]) (rest := []) dX7_ring_2 okX7_classAt ioX7_classAt mk_X7_80 (ci := 7) rfl (by decide) (lat hY rfl) rfl rfl (Nat.le_of_ble_eq_true rfl) (by decide) hY (CM.monoc h (fun F1 A1 h => ?_) (fun c1 F1 A1 hc1 h => ?_))
  · skip
    refine z_astore_nN (lv' := [(0, .ref 1), (1, .int x1), (2, .int x2), (3, .null)]) dX7_ring_5 rfl (by decide) rfl ?_
    refine z_aload_nN dX7_ring_6 3 rfl rfl ?_
    refine z_ifnullN (tgt := 18) dX7_ring_7 (by decide) ?_
    refine z_iconst (v := (-1)) dX7_ring_18 rfl ?_
    exact z_iretM dX7_ring_19 rfl h
  · skip
    refine z_astore_n (lv' := [(0, .ref 1), (1, .int x1), (2, .int x2), (3, .ref (38 + 14 * c1))]) dX7_ring_5 rfl (by decide) rfl ?_
    refine z_aload_n dX7_ring_6 3 rfl rfl ?_
    refine z_ifnull dX7_ring_7 ?_
    refine z_iload_n dX7_ring_10 2 rfl rfl ?_
    refine z_iconst (v := 3) dX7_ring_11 rfl ?_
    refine zm_Si (As := [.int x2, .int 3]) (rest := []) dX7_ring_12 okX7_isBelow smX7_isBelow mk_X7_102 rfl rfl (Nat.le_of_ble_eq_true rfl) (by decide) hY (CM.monoi h fun r2 F2 A2 h => ?_)
    refine z_if_ne (tgt := 20) dX7_ring_15 (by decide) (fun hb => ?_) (fun hb => ?_)
    · have h := h.1 hb
      refine z_aload_n dX7_ring_20 0 rfl rfl ?_
      refine z_getr (k := 4) (fc := 284) (r := 7) dX7_ring_21 ckX7 (by decide) fk_X7_35 rfl rfl (lat hY rfl) (lgg hY rfl) (by decide) ?_
      refine z_aload_n dX7_ring_24 3 rfl rfl ?_
      refine z_iload_n dX7_ring_25 2 rfl rfl ?_
      refine zm_Vi (As := [.ref (38 + 14 * c1), .int x2]) (rest := []) dX7_ring_26 okX2_findInRing ioX2_findInRing mk_X7_159 (ci := 2) rfl (by decide) (lat hY rfl) rfl rfl (Nat.le_of_ble_eq_true rfl) (by decide) hY (CM.monoi h fun r3 F3 A3 h => ?_)
      exact z_iretM dX7_ring_29 rfl h
    · have h := h.2 hb
      refine z_iconst (v := (-1)) dX7_ring_18 rfl ?_
      exact z_iretM dX7_ring_19 rfl h
theorem kX7_ring {l : Launch} {w : Nat → Nat} {nb : Nat} {Q : PM} {x1 x2 : Int32} {F A : MI}  (h : CM l mX7_classAt 2 w nb [.ref 1, .int x1] F A (qc (fun F1 A1 => Q (some (.int (-1))) F1 A1) (fun c1 F1 A1 => CM l mX7_isBelow 1 w nb [.int x2, .int 3] F1 A1 (qi fun r2 F2 A2 => ((¬ r2 = 0 → CM l mX2_findInRing 3 w nb [.ref 7, .ref (38 + 14 * c1), .int x2] F2 A2 (qi fun r3 F3 A3 => Q (some (.int r3)) F3 A3)) ∧ (r2 = 0 → Q (some (.int (-1))) F2 A2)))))) : CM l mX7_ring 4 w nb [.ref 1, .int x1, .int x2] F A Q := CM.ofZ (by decide) (fun _ _ => rfl) (fun _ _ => Nat.le_of_ble_eq_true rfl) (vX7_ring_0  h)
set_option maxHeartbeats 4000000 in
set_option maxRecDepth 100000 in
theorem vX1_readMeasure_0 {l : Launch} {w : Nat → Nat} {nb : Nat} {Q : PM} {F A : MI} {t : Nat} (ht : isTx t) (h : CM l mX5_isAtDigit 2 w nb [.ref 2] F A (qi fun r1 F1 A1 => ((¬ r1 = 0 → CM l mX5_peek 1 w nb [.ref 2] F1 A1 (qi fun r2 F2 A2 => (((r2 - 48) < 3 → CM l mX5_skip 1 w nb [.ref 2] F2 A2 (qv fun F3 A3 => CM l mX5_skipIf 2 w nb [.ref 2, .int 62] F3 A3 (qi fun r4 F4 A4 => ((r4 = 0 → CM l mX5_skipIf 2 w nb [.ref 2, .int 60] F4 A4 (qi fun r5 F5 A5 => ((r5 = 0 → CM l mX5_faultHere 2 w nb [.ref 2, .int 1] F5 A5 (qi fun r6 F6 A6 => Q (some (.int r6)) F6 A6)) ∧ (¬ r5 = 0 → CM l mX1_readMost 4 w nb [.ref t, .ref 2, .int (1 + (r2 - 48)), .int 1] F5 A5 (qi fun r7 F7 A7 => Q (some (.int r7)) F7 A7))))) ∧ (¬ r4 = 0 → CM l mX1_readLeast 4 w nb [.ref t, .ref 2, .int (1 + (r2 - 48)), .int 1] F4 A4 (qi fun r8 F8 A8 => Q (some (.int r8)) F8 A8)))))) ∧ (¬ (r2 - 48) < 3 → CM l mX5_faultHere 2 w nb [.ref 2, .int 2] F2 A2 (qi fun r9 F9 A9 => Q (some (.int r9)) F9 A9))))) ∧ (r1 = 0 → CM l mX5_faultHere 2 w nb [.ref 2, .int 1] F1 A1 (qi fun r10 F10 A10 => Q (some (.int r10)) F10 A10))))) : ZM l mX1_readMeasure 5 w nb Q 0 [(0, .ref t), (1, .ref 2)] [] F A := by
  intro T G B hY
  refine z_aload_n dX1_readMeasure_0 1 rfl rfl ?_
  refine zm_Vi (As := []) (rest := []) dX1_readMeasure_1 okX5_isAtDigit ioX5_isAtDigit mk_X1_85 (ci := 5) rfl (by decide) (lat hY rfl) rfl rfl (Nat.le_of_ble_eq_true rfl) (by decide) hY (CM.monoi h fun r1 F1 A1 h => ?_)
  refine z_if_ne (tgt := 13) dX1_readMeasure_4 (by decide) (fun hb => ?_) (fun hb => ?_)
  · have h := h.1 hb
    refine z_aload_n dX1_readMeasure_13 1 rfl rfl ?_
    refine zm_Vi (As := []) (rest := []) dX1_readMeasure_14 okX5_peek ioX5_peek mk_X1_58 (ci := 5) rfl (by decide) (lat hY rfl) rfl rfl (Nat.le_of_ble_eq_true rfl) (by decide) hY (CM.monoi h fun r2 F2 A2 h => ?_)
    refine z_bipush (v := 48) dX1_readMeasure_17 rfl ?_
    refine z_isub dX1_readMeasure_19 ?_
    refine z_istore_n (lv' := [(0, .ref t), (1, .ref 2), (2, .int (r2 - 48))]) dX1_readMeasure_20 rfl (by decide) rfl ?_
    refine z_iload_n dX1_readMeasure_21 2 rfl rfl ?_
    refine z_iconst (v := 3) dX1_readMeasure_22 rfl ?_
    refine z_icmp_lt (tgt := 32) dX1_readMeasure_23 (by decide) (fun hb => ?_) (fun hb => ?_)
    · have h := h.1 hb
      refine z_aload_n dX1_readMeasure_32 1 rfl rfl ?_
      refine zm_Vv (As := []) (rest := []) dX1_readMeasure_33 okX5_skip ioX5_skip mk_X1_88 (ci := 5) rfl (by decide) (lat hY rfl) rfl rfl (Nat.le_of_ble_eq_true rfl) (by decide) hY (CM.monov h fun F3 A3 h => ?_)
      refine z_aload_n dX1_readMeasure_36 1 rfl rfl ?_
      refine z_bipush (v := 62) dX1_readMeasure_37 rfl ?_
      refine zm_Vi (As := [.int 62]) (rest := []) dX1_readMeasure_39 okX5_skipIf ioX5_skipIf mk_X1_50 (ci := 5) rfl (by decide) (lat hY rfl) rfl rfl (Nat.le_of_ble_eq_true rfl) (by decide) hY (CM.monoi h fun r4 F4 A4 h => ?_)
      refine z_if_eq (tgt := 55) dX1_readMeasure_42 (by decide) (fun hb => ?_) (fun hb => ?_)
      · have h := h.1 hb
        refine z_aload_n dX1_readMeasure_55 1 rfl rfl ?_
        refine z_bipush (v := 60) dX1_readMeasure_56 rfl ?_
        refine zm_Vi (As := [.int 60]) (rest := []) dX1_readMeasure_58 okX5_skipIf ioX5_skipIf mk_X1_50 (ci := 5) rfl (by decide) (lat hY rfl) rfl rfl (Nat.le_of_ble_eq_true rfl) (by decide) hY (CM.monoi h fun r5 F5 A5 h => ?_)
        refine z_if_eq (tgt := 74) dX1_readMeasure_61 (by decide) (fun hb => ?_) (fun hb => ?_)
        · have h := h.1 hb
          refine z_aload_n dX1_readMeasure_74 1 rfl rfl ?_
          refine z_iconst (v := 1) dX1_readMeasure_75 rfl ?_
          refine zm_Vi (As := [.int 1]) (rest := []) dX1_readMeasure_76 okX5_faultHere ioX5_faultHere mk_X1_54 (ci := 5) rfl (by decide) (lat hY rfl) rfl rfl (Nat.le_of_ble_eq_true rfl) (by decide) hY (CM.monoi h fun r6 F6 A6 h => ?_)
          exact z_iretM dX1_readMeasure_79 rfl h
        · have h := h.2 hb
          refine z_aload_n dX1_readMeasure_64 0 rfl rfl ?_
          refine z_aload_n dX1_readMeasure_65 1 rfl rfl ?_
          refine z_iconst (v := 1) dX1_readMeasure_66 rfl ?_
          refine z_iload_n dX1_readMeasure_67 2 rfl rfl ?_
          refine z_iadd dX1_readMeasure_68 ?_
          refine z_iconst (v := 1) dX1_readMeasure_69 rfl ?_
          refine zm_Vi (As := [.ref 2, .int (1 + (r2 - 48)), .int 1]) (rest := []) dX1_readMeasure_70 okX1_readMost ioX1_readMost mk_X1_79 (ci := 1) rfl (by decide) (lat1 hY ht) rfl rfl (Nat.le_of_ble_eq_true rfl) (by decide) hY (CM.monoi h fun r7 F7 A7 h => ?_)
          exact z_iretM dX1_readMeasure_73 rfl h
      · have h := h.2 hb
        refine z_aload_n dX1_readMeasure_45 0 rfl rfl ?_
        refine z_aload_n dX1_readMeasure_46 1 rfl rfl ?_
        refine z_iconst (v := 1) dX1_readMeasure_47 rfl ?_
        refine z_iload_n dX1_readMeasure_48 2 rfl rfl ?_
        refine z_iadd dX1_readMeasure_49 ?_
        refine z_iconst (v := 1) dX1_readMeasure_50 rfl ?_
        refine zm_Vi (As := [.ref 2, .int (1 + (r2 - 48)), .int 1]) (rest := []) dX1_readMeasure_51 okX1_readLeast ioX1_readLeast mk_X1_75 (ci := 1) rfl (by decide) (lat1 hY ht) rfl rfl (Nat.le_of_ble_eq_true rfl) (by decide) hY (CM.monoi h fun r8 F8 A8 h => ?_)
        exact z_iretM dX1_readMeasure_54 rfl h
    · have h := h.2 hb
      refine z_aload_n dX1_readMeasure_26 1 rfl rfl ?_
      refine z_iconst (v := 2) dX1_readMeasure_27 rfl ?_
      refine zm_Vi (As := [.int 2]) (rest := []) dX1_readMeasure_28 okX5_faultHere ioX5_faultHere mk_X1_54 (ci := 5) rfl (by decide) (lat hY rfl) rfl rfl (Nat.le_of_ble_eq_true rfl) (by decide) hY (CM.monoi h fun r9 F9 A9 h => ?_)
      exact z_iretM dX1_readMeasure_31 rfl h
  · have h := h.2 hb
    refine z_aload_n dX1_readMeasure_7 1 rfl rfl ?_
    refine z_iconst (v := 1) dX1_readMeasure_8 rfl ?_
    refine zm_Vi (As := [.int 1]) (rest := []) dX1_readMeasure_9 okX5_faultHere ioX5_faultHere mk_X1_54 (ci := 5) rfl (by decide) (lat hY rfl) rfl rfl (Nat.le_of_ble_eq_true rfl) (by decide) hY (CM.monoi h fun r10 F10 A10 h => ?_)
    exact z_iretM dX1_readMeasure_12 rfl h
theorem kX1_readMeasure {l : Launch} {w : Nat → Nat} {nb : Nat} {Q : PM} {F A : MI} {t : Nat} (ht : isTx t) (h : CM l mX5_isAtDigit 2 w nb [.ref 2] F A (qi fun r1 F1 A1 => ((¬ r1 = 0 → CM l mX5_peek 1 w nb [.ref 2] F1 A1 (qi fun r2 F2 A2 => (((r2 - 48) < 3 → CM l mX5_skip 1 w nb [.ref 2] F2 A2 (qv fun F3 A3 => CM l mX5_skipIf 2 w nb [.ref 2, .int 62] F3 A3 (qi fun r4 F4 A4 => ((r4 = 0 → CM l mX5_skipIf 2 w nb [.ref 2, .int 60] F4 A4 (qi fun r5 F5 A5 => ((r5 = 0 → CM l mX5_faultHere 2 w nb [.ref 2, .int 1] F5 A5 (qi fun r6 F6 A6 => Q (some (.int r6)) F6 A6)) ∧ (¬ r5 = 0 → CM l mX1_readMost 4 w nb [.ref t, .ref 2, .int (1 + (r2 - 48)), .int 1] F5 A5 (qi fun r7 F7 A7 => Q (some (.int r7)) F7 A7))))) ∧ (¬ r4 = 0 → CM l mX1_readLeast 4 w nb [.ref t, .ref 2, .int (1 + (r2 - 48)), .int 1] F4 A4 (qi fun r8 F8 A8 => Q (some (.int r8)) F8 A8)))))) ∧ (¬ (r2 - 48) < 3 → CM l mX5_faultHere 2 w nb [.ref 2, .int 2] F2 A2 (qi fun r9 F9 A9 => Q (some (.int r9)) F9 A9))))) ∧ (r1 = 0 → CM l mX5_faultHere 2 w nb [.ref 2, .int 1] F1 A1 (qi fun r10 F10 A10 => Q (some (.int r10)) F10 A10))))) : CM l mX1_readMeasure 5 w nb [.ref t, .ref 2] F A Q := CM.ofZ (by decide) (fun _ _ => rfl) (fun _ _ => Nat.le_of_ble_eq_true rfl) (vX1_readMeasure_0 ht h)
set_option maxHeartbeats 4000000 in
set_option maxRecDepth 100000 in
theorem vX3_readPair_0 {l : Launch} {w : Nat → Nat} {nb : Nat} {Q : PM} {F A : MI} {c : Nat} (hc : c < 6) (h : CM l mX5_place 1 w nb [.ref 2] F A (qi fun r1 F1 A1 => CM l mX3_placeNamed 2 w nb [.ref 2] F1 A1 (qi fun r2 F2 A2 => CM l mX3_faultOfPlace 3 w nb [.ref 2, .int r2, .int (F2 161 (38 + 14 * c))] F2 A2 (qi fun r3 F3 A3 => ((r3 = 0 → CM l mX5_skip 1 w nb [.ref 2] F3 A3 (qv fun F4 A4 => CM l mX5_skipIf 2 w nb [.ref 2, .int 62] F4 A4 (qi fun r5 F5 A5 => ((¬ r5 = 0 → CM l mX3_placeNamed 2 w nb [.ref 2] F5 A5 (qi fun r6 F6 A6 => CM l mX3_faultOfPlace 3 w nb [.ref 2, .int r6, .int (F6 161 (38 + 14 * c))] F6 A6 (qi fun r7 F7 A7 => ((r7 = 0 → ((¬ r6 = r2 → CM l mX5_skip 1 w nb [.ref 2] F7 A7 (qv fun F8 A8 => ((r2 ≤ r6 → CM l mX5_skipIf 2 w nb [.ref 2, .int 58] F8 A8 (qi fun r9 F9 A9 => ((¬ r9 = 0 → (vp_in (r2 - 1) 8 ∧ (vp_in (A9 (38 + 14 * c + 12) (r2 - 1).toNatClampNeg) 20 ∧ (A9 (38 + 14 * c + 12) (r2 - 1).toNatClampNeg).toNatClampNeg < nb ∧ (vp_in (r6 - 1) 8 ∧ (vp_in (A9 (38 + 14 * c + 12) (r6 - 1).toNatClampNeg) 20 ∧ (A9 (38 + 14 * c + 12) (r6 - 1).toNatClampNeg).toNatClampNeg < nb ∧ CM l mX3_readTerms 4 w nb [.ref 34, .ref 2, .ref (147 + 2 * (A9 (38 + 14 * c + 12) (r2 - 1).toNatClampNeg).toNatClampNeg), .ref (147 + 2 * (A9 (38 + 14 * c + 12) (r6 - 1).toNatClampNeg).toNatClampNeg)] F9 A9 (qi fun r14 F14 A14 => Q (some (.int r14)) F14 A14)))))) ∧ (r9 = 0 → CM l mX5_faultHere 2 w nb [.ref 2, .int 1] F9 A9 (qi fun r15 F15 A15 => Q (some (.int r15)) F15 A15))))) ∧ (¬ r2 ≤ r6 → CM l mX5_faultAt 1 w nb [.ref 2, .int 3, .int r1] F8 A8 (qi fun r16 F16 A16 => Q (some (.int r16)) F16 A16))))) ∧ (r6 = r2 → CM l mX5_faultHere 2 w nb [.ref 2, .int 2] F7 A7 (qi fun r17 F17 A17 => Q (some (.int r17)) F17 A17)))) ∧ (¬ r7 = 0 → Q (some (.int r7)) F7 A7))))) ∧ (r5 = 0 → CM l mX5_faultHere 2 w nb [.ref 2, .int 1] F5 A5 (qi fun r18 F18 A18 => Q (some (.int r18)) F18 A18)))))) ∧ (¬ r3 = 0 → Q (some (.int r3)) F3 A3)))))) : ZM l mX3_readPair 5 w nb Q 0 [(0, .ref 34), (1, .ref 2), (2, .ref (38 + 14 * c)), (3, .ref 4)] [] F A := by
  intro T G B hY
  refine z_aload_n dX3_readPair_0 1 rfl rfl ?_
  refine zm_Vi (As := []) (rest := []) dX3_readPair_1 okX5_place ioX5_place mk_X3_42 (ci := 5) rfl (by decide) (lat hY rfl) rfl rfl (Nat.le_of_ble_eq_true rfl) (by decide) hY (CM.monoi h fun r1 F1 A1 h => ?_)
  refine z_istore (lv' := [(0, .ref 34), (1, .ref 2), (2, .ref (38 + 14 * c)), (3, .ref 4), (4, .int r1)]) dX3_readPair_4 (by decide) rfl ?_
  refine z_aload_n dX3_readPair_6 1 rfl rfl ?_
  refine zm_Si (As := [.ref 2]) (rest := []) dX3_readPair_7 okX3_placeNamed smX3_placeNamed mk_X3_46 rfl rfl (Nat.le_of_ble_eq_true rfl) (by decide) hY (CM.monoi h fun r2 F2 A2 h => ?_)
  refine z_istore (lv' := [(0, .ref 34), (1, .ref 2), (2, .ref (38 + 14 * c)), (3, .ref 4), (4, .int r1), (5, .int r2)]) dX3_readPair_10 (by decide) rfl ?_
  refine z_aload_n dX3_readPair_12 1 rfl rfl ?_
  refine z_iload dX3_readPair_13 5 rfl ?_
  refine z_aload_n dX3_readPair_15 2 rfl rfl ?_
  refine z_geti' (k := 1) (fc := 161) (x := (F2 161 (38 + 14 * c))) dX3_readPair_16 ckX4 (by decide) fk_X3_50 rfl rfl (lat4 hY hc) rfl ?_
  refine zm_Si (As := [.ref 2, .int r2, .int (F2 161 (38 + 14 * c))]) (rest := []) dX3_readPair_19 okX3_faultOfPlace smX3_faultOfPlace mk_X3_55 rfl rfl (Nat.le_of_ble_eq_true rfl) (by decide) hY (CM.monoi h fun r3 F3 A3 h => ?_)
  refine z_istore (lv' := [(0, .ref 34), (1, .ref 2), (2, .ref (38 + 14 * c)), (3, .ref 4), (4, .int r1), (5, .int r2), (6, .int r3)]) dX3_readPair_22 (by decide) rfl ?_
  refine z_iload dX3_readPair_24 6 rfl ?_
  refine z_if_eq (tgt := 32) dX3_readPair_26 (by decide) (fun hb => ?_) (fun hb => ?_)
  · have h := h.1 hb
    refine z_aload_n dX3_readPair_32 1 rfl rfl ?_
    refine zm_Vv (As := []) (rest := []) dX3_readPair_33 okX5_skip ioX5_skip mk_X3_59 (ci := 5) rfl (by decide) (lat hY rfl) rfl rfl (Nat.le_of_ble_eq_true rfl) (by decide) hY (CM.monov h fun F4 A4 h => ?_)
    refine z_aload_n dX3_readPair_36 1 rfl rfl ?_
    refine z_bipush (v := 62) dX3_readPair_37 rfl ?_
    refine zm_Vi (As := [.int 62]) (rest := []) dX3_readPair_39 okX5_skipIf ioX5_skipIf mk_X3_34 (ci := 5) rfl (by decide) (lat hY rfl) rfl rfl (Nat.le_of_ble_eq_true rfl) (by decide) hY (CM.monoi h fun r5 F5 A5 h => ?_)
    refine z_if_ne (tgt := 51) dX3_readPair_42 (by decide) (fun hb => ?_) (fun hb => ?_)
    · have h := h.1 hb
      refine z_aload_n dX3_readPair_51 1 rfl rfl ?_
      refine zm_Si (As := [.ref 2]) (rest := []) dX3_readPair_52 okX3_placeNamed smX3_placeNamed mk_X3_46 rfl rfl (Nat.le_of_ble_eq_true rfl) (by decide) hY (CM.monoi h fun r6 F6 A6 h => ?_)
      refine z_istore (lv' := [(0, .ref 34), (1, .ref 2), (2, .ref (38 + 14 * c)), (3, .ref 4), (4, .int r1), (5, .int r2), (6, .int r3), (7, .int r6)]) dX3_readPair_55 (by decide) rfl ?_
      refine z_aload_n dX3_readPair_57 1 rfl rfl ?_
      refine z_iload dX3_readPair_58 7 rfl ?_
      refine z_aload_n dX3_readPair_60 2 rfl rfl ?_
      refine z_geti' (k := 1) (fc := 161) (x := (F6 161 (38 + 14 * c))) dX3_readPair_61 ckX4 (by decide) fk_X3_50 rfl rfl (lat4 hY hc) rfl ?_
      refine zm_Si (As := [.ref 2, .int r6, .int (F6 161 (38 + 14 * c))]) (rest := []) dX3_readPair_64 okX3_faultOfPlace smX3_faultOfPlace mk_X3_55 rfl rfl (Nat.le_of_ble_eq_true rfl) (by decide) hY (CM.monoi h fun r7 F7 A7 h => ?_)
      refine z_istore (lv' := [(0, .ref 34), (1, .ref 2), (2, .ref (38 + 14 * c)), (3, .ref 4), (4, .int r1), (5, .int r2), (6, .int r7), (7, .int r6)]) dX3_readPair_67 (by decide) rfl ?_
      refine z_iload dX3_readPair_69 6 rfl ?_
      refine z_if_eq (tgt := 77) dX3_readPair_71 (by decide) (fun hb => ?_) (fun hb => ?_)
      · have h := h.1 hb
        refine z_iload dX3_readPair_77 7 rfl ?_
        refine z_iload dX3_readPair_79 5 rfl ?_
        refine z_icmp_ne (tgt := 90) dX3_readPair_81 (by decide) (fun hb => ?_) (fun hb => ?_)
        · have h := h.1 hb
          refine z_aload_n dX3_readPair_90 1 rfl rfl ?_
          refine zm_Vv (As := []) (rest := []) dX3_readPair_91 okX5_skip ioX5_skip mk_X3_59 (ci := 5) rfl (by decide) (lat hY rfl) rfl rfl (Nat.le_of_ble_eq_true rfl) (by decide) hY (CM.monov h fun F8 A8 h => ?_)
          refine z_iload dX3_readPair_94 5 rfl ?_
          refine z_iload dX3_readPair_96 7 rfl ?_
          refine z_icmp_le (tgt := 109) dX3_readPair_98 (by decide) (fun hb => ?_) (fun hb => ?_)
          · have h := h.1 hb
            refine z_aload_n dX3_readPair_109 1 rfl rfl ?_
            refine z_bipush (v := 58) dX3_readPair_110 rfl ?_
            refine zm_Vi (As := [.int 58]) (rest := []) dX3_readPair_112 okX5_skipIf ioX5_skipIf mk_X3_34 (ci := 5) rfl (by decide) (lat hY rfl) rfl rfl (Nat.le_of_ble_eq_true rfl) (by decide) hY (CM.monoi h fun r9 F9 A9 h => ?_)
            refine z_if_ne (tgt := 124) dX3_readPair_115 (by decide) (fun hb => ?_) (fun hb => ?_)
            · have h := h.1 hb
              refine z_aload_n dX3_readPair_124 0 rfl rfl ?_
              refine z_aload_n dX3_readPair_125 1 rfl rfl ?_
              refine z_aload_n dX3_readPair_126 3 rfl rfl ?_
              refine z_aload_n dX3_readPair_127 2 rfl rfl ?_
              refine z_getr (k := 6) (fc := 166) (r := (38 + 14 * c + 12)) dX3_readPair_128 ckX4 (by decide) fk_X3_65 rfl rfl (lat4 hY hc) (lggc hY 166 12 hc (by decide)) (by omega) ?_
              refine z_iload dX3_readPair_131 5 rfl ?_
              refine z_iconst (v := 1) dX3_readPair_133 rfl ?_
              refine z_isub dX3_readPair_134 ?_
              have hin10 := h.1
              have h := h.2
              refine z_iald' (n := 8) (x := (A9 (38 + 14 * c + 12) (r2 - 1).toNatClampNeg)) dX3_readPair_135 (latc hY hc 12 (by decide)) (llnc hY hc 12 (by decide)) hin10 rfl ?_
              have hin11 := h.1
              have h := h.2
              have hi11 := h.1
              have h := h.2
              refine z_aald' (ci := 11) (n := 20) (r := (147 + 2 * (A9 (38 + 14 * c + 12) (r2 - 1).toNatClampNeg).toNatClampNeg)) dX3_readPair_136 (lat hY rfl) (by decide) (lln hY rfl) hin11 (lbb0 hY hi11) (by omega) ?_
              refine z_aload_n dX3_readPair_137 3 rfl rfl ?_
              refine z_aload_n dX3_readPair_138 2 rfl rfl ?_
              refine z_getr (k := 6) (fc := 166) (r := (38 + 14 * c + 12)) dX3_readPair_139 ckX4 (by decide) fk_X3_65 rfl rfl (lat4 hY hc) (lggc hY 166 12 hc (by decide)) (by omega) ?_
              refine z_iload dX3_readPair_142 7 rfl ?_
              refine z_iconst (v := 1) dX3_readPair_144 rfl ?_
              refine z_isub dX3_readPair_145 ?_
              have hin12 := h.1
              have h := h.2
              refine z_iald' (n := 8) (x := (A9 (38 + 14 * c + 12) (r6 - 1).toNatClampNeg)) dX3_readPair_146 (latc hY hc 12 (by decide)) (llnc hY hc 12 (by decide)) hin12 rfl ?_
              have hin13 := h.1
              have h := h.2
              have hi13 := h.1
              have h := h.2
              refine z_aald' (ci := 11) (n := 20) (r := (147 + 2 * (A9 (38 + 14 * c + 12) (r6 - 1).toNatClampNeg).toNatClampNeg)) dX3_readPair_147 (lat hY rfl) (by decide) (lln hY rfl) hin13 (lbb0 hY hi13) (by omega) ?_
              refine zm_Vi (As := [.ref 2, .ref (147 + 2 * (A9 (38 + 14 * c + 12) (r2 - 1).toNatClampNeg).toNatClampNeg), .ref (147 + 2 * (A9 (38 + 14 * c + 12) (r6 - 1).toNatClampNeg).toNatClampNeg)]) (rest := []) dX3_readPair_148 okX3_readTerms ioX3_readTerms mk_X3_69 (ci := 3) rfl (by decide) (lat hY rfl) rfl rfl (Nat.le_of_ble_eq_true rfl) (by decide) hY (CM.monoi h fun r14 F14 A14 h => ?_)
              exact z_iretM dX3_readPair_151 rfl h
            · have h := h.2 hb
              refine z_aload_n dX3_readPair_118 1 rfl rfl ?_
              refine z_iconst (v := 1) dX3_readPair_119 rfl ?_
              refine zm_Vi (As := [.int 1]) (rest := []) dX3_readPair_120 okX5_faultHere ioX5_faultHere mk_X3_38 (ci := 5) rfl (by decide) (lat hY rfl) rfl rfl (Nat.le_of_ble_eq_true rfl) (by decide) hY (CM.monoi h fun r15 F15 A15 h => ?_)
              exact z_iretM dX3_readPair_123 rfl h
          · have h := h.2 hb
            refine z_aload_n dX3_readPair_101 1 rfl rfl ?_
            refine z_iconst (v := 3) dX3_readPair_102 rfl ?_
            refine z_iload dX3_readPair_103 4 rfl ?_
            refine zm_Vi (As := [.int 3, .int r1]) (rest := []) dX3_readPair_105 okX5_faultAt ioX5_faultAt mk_X3_62 (ci := 5) rfl (by decide) (lat hY rfl) rfl rfl (Nat.le_of_ble_eq_true rfl) (by decide) hY (CM.monoi h fun r16 F16 A16 h => ?_)
            exact z_iretM dX3_readPair_108 rfl h
        · have h := h.2 hb
          refine z_aload_n dX3_readPair_84 1 rfl rfl ?_
          refine z_iconst (v := 2) dX3_readPair_85 rfl ?_
          refine zm_Vi (As := [.int 2]) (rest := []) dX3_readPair_86 okX5_faultHere ioX5_faultHere mk_X3_38 (ci := 5) rfl (by decide) (lat hY rfl) rfl rfl (Nat.le_of_ble_eq_true rfl) (by decide) hY (CM.monoi h fun r17 F17 A17 h => ?_)
          exact z_iretM dX3_readPair_89 rfl h
      · have h := h.2 hb
        refine z_iload dX3_readPair_74 6 rfl ?_
        exact z_iretM dX3_readPair_76 rfl h
    · have h := h.2 hb
      refine z_aload_n dX3_readPair_45 1 rfl rfl ?_
      refine z_iconst (v := 1) dX3_readPair_46 rfl ?_
      refine zm_Vi (As := [.int 1]) (rest := []) dX3_readPair_47 okX5_faultHere ioX5_faultHere mk_X3_38 (ci := 5) rfl (by decide) (lat hY rfl) rfl rfl (Nat.le_of_ble_eq_true rfl) (by decide) hY (CM.monoi h fun r18 F18 A18 h => ?_)
      exact z_iretM dX3_readPair_50 rfl h
  · have h := h.2 hb
    refine z_iload dX3_readPair_29 6 rfl ?_
    exact z_iretM dX3_readPair_31 rfl h
theorem kX3_readPair {l : Launch} {w : Nat → Nat} {nb : Nat} {Q : PM} {F A : MI} {c : Nat} (hc : c < 6) (h : CM l mX5_place 1 w nb [.ref 2] F A (qi fun r1 F1 A1 => CM l mX3_placeNamed 2 w nb [.ref 2] F1 A1 (qi fun r2 F2 A2 => CM l mX3_faultOfPlace 3 w nb [.ref 2, .int r2, .int (F2 161 (38 + 14 * c))] F2 A2 (qi fun r3 F3 A3 => ((r3 = 0 → CM l mX5_skip 1 w nb [.ref 2] F3 A3 (qv fun F4 A4 => CM l mX5_skipIf 2 w nb [.ref 2, .int 62] F4 A4 (qi fun r5 F5 A5 => ((¬ r5 = 0 → CM l mX3_placeNamed 2 w nb [.ref 2] F5 A5 (qi fun r6 F6 A6 => CM l mX3_faultOfPlace 3 w nb [.ref 2, .int r6, .int (F6 161 (38 + 14 * c))] F6 A6 (qi fun r7 F7 A7 => ((r7 = 0 → ((¬ r6 = r2 → CM l mX5_skip 1 w nb [.ref 2] F7 A7 (qv fun F8 A8 => ((r2 ≤ r6 → CM l mX5_skipIf 2 w nb [.ref 2, .int 58] F8 A8 (qi fun r9 F9 A9 => ((¬ r9 = 0 → (vp_in (r2 - 1) 8 ∧ (vp_in (A9 (38 + 14 * c + 12) (r2 - 1).toNatClampNeg) 20 ∧ (A9 (38 + 14 * c + 12) (r2 - 1).toNatClampNeg).toNatClampNeg < nb ∧ (vp_in (r6 - 1) 8 ∧ (vp_in (A9 (38 + 14 * c + 12) (r6 - 1).toNatClampNeg) 20 ∧ (A9 (38 + 14 * c + 12) (r6 - 1).toNatClampNeg).toNatClampNeg < nb ∧ CM l mX3_readTerms 4 w nb [.ref 34, .ref 2, .ref (147 + 2 * (A9 (38 + 14 * c + 12) (r2 - 1).toNatClampNeg).toNatClampNeg), .ref (147 + 2 * (A9 (38 + 14 * c + 12) (r6 - 1).toNatClampNeg).toNatClampNeg)] F9 A9 (qi fun r14 F14 A14 => Q (some (.int r14)) F14 A14)))))) ∧ (r9 = 0 → CM l mX5_faultHere 2 w nb [.ref 2, .int 1] F9 A9 (qi fun r15 F15 A15 => Q (some (.int r15)) F15 A15))))) ∧ (¬ r2 ≤ r6 → CM l mX5_faultAt 1 w nb [.ref 2, .int 3, .int r1] F8 A8 (qi fun r16 F16 A16 => Q (some (.int r16)) F16 A16))))) ∧ (r6 = r2 → CM l mX5_faultHere 2 w nb [.ref 2, .int 2] F7 A7 (qi fun r17 F17 A17 => Q (some (.int r17)) F17 A17)))) ∧ (¬ r7 = 0 → Q (some (.int r7)) F7 A7))))) ∧ (r5 = 0 → CM l mX5_faultHere 2 w nb [.ref 2, .int 1] F5 A5 (qi fun r18 F18 A18 => Q (some (.int r18)) F18 A18)))))) ∧ (¬ r3 = 0 → Q (some (.int r3)) F3 A3)))))) : CM l mX3_readPair 5 w nb [.ref 34, .ref 2, .ref (38 + 14 * c), .ref 4] F A Q := CM.ofZ (by decide) (fun _ _ => rfl) (fun _ _ => Nat.le_of_ble_eq_true rfl) (vX3_readPair_0 hc h)
set_option maxHeartbeats 4000000 in
set_option maxRecDepth 100000 in
theorem vX7_enter_0 {l : Launch} {w : Nat → Nat} {nb : Nat} {Q : PM} {x1 x2 : Int32} {F A : MI}  (h : CM l mX7_lets 4 w nb [.ref 1, .int x1, .int x2] F A (qi fun r1 F1 A1 => ((r1 = 1 → (vp_in x1 6 ∧ CM l mX4_canTake 1 w nb [.ref (38 + 14 * x1.toNatClampNeg), .int x2] F1 A1 (qi fun r3 F3 A3 => ((¬ r3 = 0 → CM l mX4_take 2 w nb [.ref (38 + 14 * x1.toNatClampNeg), .int x2] F3 A3 (qv fun F4 A4 => CM l mX2_join 3 w nb [.ref 7, .ref (38 + 14 * x1.toNatClampNeg)] F4 A4 (qv fun F5 A5 => Q (some (.int 1)) F5 A5))) ∧ (r3 = 0 → Q (some (.int 0)) F3 A3))))) ∧ (¬ r1 = 1 → Q (some (.int 0)) F1 A1)))) : ZM l mX7_enter 5 w nb Q 0 [(0, .ref 1), (1, .int x1), (2, .int x2)] [] F A := by
  intro T G B hY
  refine z_aload_n dX7_enter_0 0 rfl rfl ?_
  refine z_iload_n dX7_enter_1 1 rfl rfl ?_
  refine z_iload_n dX7_enter_2 2 rfl rfl ?_
  refine zm_Vi (As := [.int x1, .int x2]) (rest := []) dX7_enter_3 okX7_lets ioX7_lets mk_X7_120 (ci := 7) rfl (by decide) (lat hY rfl) rfl rfl (Nat.le_of_ble_eq_true rfl) (by decide) hY (CM.monoi h fun r1 F1 A1 h => ?_)
  refine z_iconst (v := 1) dX7_enter_6 rfl ?_
  refine z_icmp_eq (tgt := 12) dX7_enter_7 (by decide) (fun hb => ?_) (fun hb => ?_)
  · have h := h.1 hb
    refine z_aload_n dX7_enter_12 0 rfl rfl ?_
    refine z_getr (k := 2) (fc := 282) (r := 5) dX7_enter_13 ckX7 (by decide) fk_X7_24 rfl rfl (lat hY rfl) (lgg hY rfl) (by decide) ?_
    refine z_iload_n dX7_enter_16 1 rfl rfl ?_
    have hin2 := h.1
    have h := h.2
    refine z_aald' (ci := 12) (n := 6) (r := (38 + 14 * x1.toNatClampNeg)) dX7_enter_17 (lat hY rfl) (by decide) (lln hY rfl) hin2 (lbb5 hY (vin hin2)) (by omega) ?_
    refine z_astore_n (lv' := [(0, .ref 1), (1, .int x1), (2, .int x2), (3, .ref (38 + 14 * x1.toNatClampNeg))]) dX7_enter_18 rfl (by decide) rfl ?_
    refine z_aload_n dX7_enter_19 3 rfl rfl ?_
    refine z_iload_n dX7_enter_20 2 rfl rfl ?_
    refine zm_Vi (As := [.int x2]) (rest := []) dX7_enter_21 okX4_canTake ioX4_canTake mk_X7_124 (ci := 4) rfl (by decide) (lat4 hY (vin hin2)) rfl rfl (Nat.le_of_ble_eq_true rfl) (by decide) hY (CM.monoi h fun r3 F3 A3 h => ?_)
    refine z_if_ne (tgt := 29) dX7_enter_24 (by decide) (fun hb => ?_) (fun hb => ?_)
    · have h := h.1 hb
      refine z_aload_n dX7_enter_29 3 rfl rfl ?_
      refine z_iload_n dX7_enter_30 2 rfl rfl ?_
      refine zm_Vv (As := [.int x2]) (rest := []) dX7_enter_31 okX4_take ioX4_take mk_X7_127 (ci := 4) rfl (by decide) (lat4 hY (vin hin2)) rfl rfl (Nat.le_of_ble_eq_true rfl) (by decide) hY (CM.monov h fun F4 A4 h => ?_)
      refine z_aload_n dX7_enter_34 0 rfl rfl ?_
      refine z_getr (k := 4) (fc := 284) (r := 7) dX7_enter_35 ckX7 (by decide) fk_X7_35 rfl rfl (lat hY rfl) (lgg hY rfl) (by decide) ?_
      refine z_aload_n dX7_enter_38 3 rfl rfl ?_
      refine zm_Vv (As := [.ref (38 + 14 * x1.toNatClampNeg)]) (rest := []) dX7_enter_39 okX2_join ioX2_join mk_X7_130 (ci := 2) rfl (by decide) (lat hY rfl) rfl rfl (Nat.le_of_ble_eq_true rfl) (by decide) hY (CM.monov h fun F5 A5 h => ?_)
      refine z_iconst (v := 1) dX7_enter_42 rfl ?_
      exact z_zretM dX7_enter_43 rfl (by decide) h
    · have h := h.2 hb
      refine z_iconst (v := 0) dX7_enter_27 rfl ?_
      exact z_zretM dX7_enter_28 rfl (by decide) h
  · have h := h.2 hb
    refine z_iconst (v := 0) dX7_enter_10 rfl ?_
    exact z_zretM dX7_enter_11 rfl (by decide) h
theorem kX7_enter {l : Launch} {w : Nat → Nat} {nb : Nat} {Q : PM} {x1 x2 : Int32} {F A : MI}  (h : CM l mX7_lets 4 w nb [.ref 1, .int x1, .int x2] F A (qi fun r1 F1 A1 => ((r1 = 1 → (vp_in x1 6 ∧ CM l mX4_canTake 1 w nb [.ref (38 + 14 * x1.toNatClampNeg), .int x2] F1 A1 (qi fun r3 F3 A3 => ((¬ r3 = 0 → CM l mX4_take 2 w nb [.ref (38 + 14 * x1.toNatClampNeg), .int x2] F3 A3 (qv fun F4 A4 => CM l mX2_join 3 w nb [.ref 7, .ref (38 + 14 * x1.toNatClampNeg)] F4 A4 (qv fun F5 A5 => Q (some (.int 1)) F5 A5))) ∧ (r3 = 0 → Q (some (.int 0)) F3 A3))))) ∧ (¬ r1 = 1 → Q (some (.int 0)) F1 A1)))) : CM l mX7_enter 5 w nb [.ref 1, .int x1, .int x2] F A Q := CM.ofZ (by decide) (fun _ _ => rfl) (fun _ _ => Nat.le_of_ble_eq_true rfl) (vX7_enter_0  h)
set_option maxHeartbeats 4000000 in
set_option maxRecDepth 100000 in
theorem vX1_readClause_0 {l : Launch} {w : Nat → Nat} {nb : Nat} {Q : PM} {F A : MI} {t : Nat} (ht : isTx t) (h : CM l mX5_skipIf 2 w nb [.ref 2, .int 98] F A (qi fun r1 F1 A1 => ((r1 = 0 → CM l mX5_skipIf 2 w nb [.ref 2, .int 102] F1 A1 (qi fun r2 F2 A2 => ((r2 = 0 → CM l mX5_skipIf 2 w nb [.ref 2, .int 116] F2 A2 (qi fun r3 F3 A3 => ((r3 = 0 → CM l mX5_skipIf 2 w nb [.ref 2, .int 109] F3 A3 (qi fun r4 F4 A4 => ((r4 = 0 → CM l mX5_faultHere 2 w nb [.ref 2, .int 1] F4 A4 (qi fun r5 F5 A5 => Q (some (.int r5)) F5 A5)) ∧ (¬ r4 = 0 → CM l mX1_readMeasure 5 w nb [.ref t, .ref 2] F4 A4 (qi fun r6 F6 A6 => Q (some (.int r6)) F6 A6))))) ∧ (¬ r3 = 0 → CM l mX1_readMost 4 w nb [.ref t, .ref 2, .int 0, .int 0] F3 A3 (qi fun r7 F7 A7 => Q (some (.int r7)) F7 A7))))) ∧ (¬ r2 = 0 → CM l mX1_readLeast 4 w nb [.ref t, .ref 2, .int 0, .int 0] F2 A2 (qi fun r8 F8 A8 => Q (some (.int r8)) F8 A8))))) ∧ (¬ r1 = 0 → CM l mX1_readBreeds 3 w nb [.ref t, .ref 2] F1 A1 (qi fun r9 F9 A9 => Q (some (.int r9)) F9 A9))))) : ZM l mX1_readClause 6 w nb Q 0 [(0, .ref t), (1, .ref 2)] [] F A := by
  intro T G B hY
  refine z_aload_n dX1_readClause_0 1 rfl rfl ?_
  refine z_bipush (v := 98) dX1_readClause_1 rfl ?_
  refine zm_Vi (As := [.int 98]) (rest := []) dX1_readClause_3 okX5_skipIf ioX5_skipIf mk_X1_50 (ci := 5) rfl (by decide) (lat hY rfl) rfl rfl (Nat.le_of_ble_eq_true rfl) (by decide) hY (CM.monoi h fun r1 F1 A1 h => ?_)
  refine z_if_eq (tgt := 15) dX1_readClause_6 (by decide) (fun hb => ?_) (fun hb => ?_)
  · have h := h.1 hb
    refine z_aload_n dX1_readClause_15 1 rfl rfl ?_
    refine z_bipush (v := 102) dX1_readClause_16 rfl ?_
    refine zm_Vi (As := [.int 102]) (rest := []) dX1_readClause_18 okX5_skipIf ioX5_skipIf mk_X1_50 (ci := 5) rfl (by decide) (lat hY rfl) rfl rfl (Nat.le_of_ble_eq_true rfl) (by decide) hY (CM.monoi h fun r2 F2 A2 h => ?_)
    refine z_if_eq (tgt := 32) dX1_readClause_21 (by decide) (fun hb => ?_) (fun hb => ?_)
    · have h := h.1 hb
      refine z_aload_n dX1_readClause_32 1 rfl rfl ?_
      refine z_bipush (v := 116) dX1_readClause_33 rfl ?_
      refine zm_Vi (As := [.int 116]) (rest := []) dX1_readClause_35 okX5_skipIf ioX5_skipIf mk_X1_50 (ci := 5) rfl (by decide) (lat hY rfl) rfl rfl (Nat.le_of_ble_eq_true rfl) (by decide) hY (CM.monoi h fun r3 F3 A3 h => ?_)
      refine z_if_eq (tgt := 49) dX1_readClause_38 (by decide) (fun hb => ?_) (fun hb => ?_)
      · have h := h.1 hb
        refine z_aload_n dX1_readClause_49 1 rfl rfl ?_
        refine z_bipush (v := 109) dX1_readClause_50 rfl ?_
        refine zm_Vi (As := [.int 109]) (rest := []) dX1_readClause_52 okX5_skipIf ioX5_skipIf mk_X1_50 (ci := 5) rfl (by decide) (lat hY rfl) rfl rfl (Nat.le_of_ble_eq_true rfl) (by decide) hY (CM.monoi h fun r4 F4 A4 h => ?_)
        refine z_if_eq (tgt := 64) dX1_readClause_55 (by decide) (fun hb => ?_) (fun hb => ?_)
        · have h := h.1 hb
          refine z_aload_n dX1_readClause_64 1 rfl rfl ?_
          refine z_iconst (v := 1) dX1_readClause_65 rfl ?_
          refine zm_Vi (As := [.int 1]) (rest := []) dX1_readClause_66 okX5_faultHere ioX5_faultHere mk_X1_54 (ci := 5) rfl (by decide) (lat hY rfl) rfl rfl (Nat.le_of_ble_eq_true rfl) (by decide) hY (CM.monoi h fun r5 F5 A5 h => ?_)
          exact z_iretM dX1_readClause_69 rfl h
        · have h := h.2 hb
          refine z_aload_n dX1_readClause_58 0 rfl rfl ?_
          refine z_aload_n dX1_readClause_59 1 rfl rfl ?_
          refine zm_Vi (As := [.ref 2]) (rest := []) dX1_readClause_60 okX1_readMeasure ioX1_readMeasure mk_X1_82 (ci := 1) rfl (by decide) (lat1 hY ht) rfl rfl (Nat.le_of_ble_eq_true rfl) (by decide) hY (CM.monoi h fun r6 F6 A6 h => ?_)
          exact z_iretM dX1_readClause_63 rfl h
      · have h := h.2 hb
        refine z_aload_n dX1_readClause_41 0 rfl rfl ?_
        refine z_aload_n dX1_readClause_42 1 rfl rfl ?_
        refine z_iconst (v := 0) dX1_readClause_43 rfl ?_
        refine z_iconst (v := 0) dX1_readClause_44 rfl ?_
        refine zm_Vi (As := [.ref 2, .int 0, .int 0]) (rest := []) dX1_readClause_45 okX1_readMost ioX1_readMost mk_X1_79 (ci := 1) rfl (by decide) (lat1 hY ht) rfl rfl (Nat.le_of_ble_eq_true rfl) (by decide) hY (CM.monoi h fun r7 F7 A7 h => ?_)
        exact z_iretM dX1_readClause_48 rfl h
    · have h := h.2 hb
      refine z_aload_n dX1_readClause_24 0 rfl rfl ?_
      refine z_aload_n dX1_readClause_25 1 rfl rfl ?_
      refine z_iconst (v := 0) dX1_readClause_26 rfl ?_
      refine z_iconst (v := 0) dX1_readClause_27 rfl ?_
      refine zm_Vi (As := [.ref 2, .int 0, .int 0]) (rest := []) dX1_readClause_28 okX1_readLeast ioX1_readLeast mk_X1_75 (ci := 1) rfl (by decide) (lat1 hY ht) rfl rfl (Nat.le_of_ble_eq_true rfl) (by decide) hY (CM.monoi h fun r8 F8 A8 h => ?_)
      exact z_iretM dX1_readClause_31 rfl h
  · have h := h.2 hb
    refine z_aload_n dX1_readClause_9 0 rfl rfl ?_
    refine z_aload_n dX1_readClause_10 1 rfl rfl ?_
    refine zm_Vi (As := [.ref 2]) (rest := []) dX1_readClause_11 okX1_readBreeds ioX1_readBreeds mk_X1_72 (ci := 1) rfl (by decide) (lat1 hY ht) rfl rfl (Nat.le_of_ble_eq_true rfl) (by decide) hY (CM.monoi h fun r9 F9 A9 h => ?_)
    exact z_iretM dX1_readClause_14 rfl h
theorem kX1_readClause {l : Launch} {w : Nat → Nat} {nb : Nat} {Q : PM} {F A : MI} {t : Nat} (ht : isTx t) (h : CM l mX5_skipIf 2 w nb [.ref 2, .int 98] F A (qi fun r1 F1 A1 => ((r1 = 0 → CM l mX5_skipIf 2 w nb [.ref 2, .int 102] F1 A1 (qi fun r2 F2 A2 => ((r2 = 0 → CM l mX5_skipIf 2 w nb [.ref 2, .int 116] F2 A2 (qi fun r3 F3 A3 => ((r3 = 0 → CM l mX5_skipIf 2 w nb [.ref 2, .int 109] F3 A3 (qi fun r4 F4 A4 => ((r4 = 0 → CM l mX5_faultHere 2 w nb [.ref 2, .int 1] F4 A4 (qi fun r5 F5 A5 => Q (some (.int r5)) F5 A5)) ∧ (¬ r4 = 0 → CM l mX1_readMeasure 5 w nb [.ref t, .ref 2] F4 A4 (qi fun r6 F6 A6 => Q (some (.int r6)) F6 A6))))) ∧ (¬ r3 = 0 → CM l mX1_readMost 4 w nb [.ref t, .ref 2, .int 0, .int 0] F3 A3 (qi fun r7 F7 A7 => Q (some (.int r7)) F7 A7))))) ∧ (¬ r2 = 0 → CM l mX1_readLeast 4 w nb [.ref t, .ref 2, .int 0, .int 0] F2 A2 (qi fun r8 F8 A8 => Q (some (.int r8)) F8 A8))))) ∧ (¬ r1 = 0 → CM l mX1_readBreeds 3 w nb [.ref t, .ref 2] F1 A1 (qi fun r9 F9 A9 => Q (some (.int r9)) F9 A9))))) : CM l mX1_readClause 6 w nb [.ref t, .ref 2] F A Q := CM.ofZ (by decide) (fun _ _ => rfl) (fun _ _ => Nat.le_of_ble_eq_true rfl) (vX1_readClause_0 ht h)
set_option maxHeartbeats 4000000 in
set_option maxRecDepth 100000 in
theorem vX3_readPairs_0 {l : Launch} {w : Nat → Nat} {nb : Nat} {Q : PM} {F A : MI} {c : Nat} (hc : c < 6) (h : ZM l mX3_readPairs 6 w nb Q 3 [(0, .ref 34), (1, .ref 2), (2, .ref (38 + 14 * c)), (3, .ref 4), (4, .int 0)] [] F A) : ZM l mX3_readPairs 6 w nb Q 0 [(0, .ref 34), (1, .ref 2), (2, .ref (38 + 14 * c)), (3, .ref 4)] [] F A := by
  intro T G B hY
  refine z_iconst (v := 0) dX3_readPairs_0 rfl ?_
  refine z_istore (lv' := [(0, .ref 34), (1, .ref 2), (2, .ref (38 + 14 * c)), (3, .ref 4), (4, .int 0)]) dX3_readPairs_1 (by decide) rfl ?_
  exact z_pick [0, 1, 2, 3, 4] rfl (h T G B hY)
theorem kX3_readPairs {l : Launch} {w : Nat → Nat} {nb : Nat} {Q : PM} {F A : MI} {c : Nat} (hc : c < 6) (h : ZM l mX3_readPairs 6 w nb Q 3 [(0, .ref 34), (1, .ref 2), (2, .ref (38 + 14 * c)), (3, .ref 4), (4, .int 0)] [] F A) : CM l mX3_readPairs 6 w nb [.ref 34, .ref 2, .ref (38 + 14 * c), .ref 4] F A Q := CM.ofZ (by decide) (fun _ _ => rfl) (fun _ _ => Nat.le_of_ble_eq_true rfl) (vX3_readPairs_0 hc h)
set_option maxHeartbeats 4000000 in
set_option maxRecDepth 100000 in
theorem vX3_readPairs_3 {l : Launch} {w : Nat → Nat} {nb : Nat} {Q : PM} {x4 : Int32} {F A : MI} {c : Nat} (hc : c < 6) (h : ((80 ≤ x4 → CM l mX5_faultHere 2 w nb [.ref 2, .int 1] F A (qi fun r1 F1 A1 => Q (some (.int r1)) F1 A1)) ∧ (¬ 80 ≤ x4 → CM l mX3_readPair 5 w nb [.ref 34, .ref 2, .ref (38 + 14 * c), .ref 4] F A (qi fun r2 F2 A2 => ((r2 = 0 → CM l mX5_isAtEnd 1 w nb [.ref 2] F2 A2 (qi fun r3 F3 A3 => ((r3 = 0 → CM l mX5_skipIf 2 w nb [.ref 2, .int 59] F3 A3 (qi fun r4 F4 A4 => ((¬ r4 = 0 → ZM l mX3_readPairs 6 w nb Q 3 [(0, .ref 34), (1, .ref 2), (2, .ref (38 + 14 * c)), (3, .ref 4), (4, .int (x4 + 1))] [] F4 A4) ∧ (r4 = 0 → CM l mX5_faultHere 2 w nb [.ref 2, .int 1] F4 A4 (qi fun r5 F5 A5 => Q (some (.int r5)) F5 A5))))) ∧ (¬ r3 = 0 → Q (some (.int 0)) F3 A3)))) ∧ (¬ r2 = 0 → Q (some (.int r2)) F2 A2)))))) : ZM l mX3_readPairs 6 w nb Q 3 [(0, .ref 34), (1, .ref 2), (2, .ref (38 + 14 * c)), (3, .ref 4), (4, .int x4)] [] F A := by
  intro T G B hY
  refine z_iload dX3_readPairs_3 4 rfl ?_
  refine z_bipush (v := 80) dX3_readPairs_5 rfl ?_
  refine z_icmp_ge (tgt := 57) dX3_readPairs_7 (by decide) (fun hb => ?_) (fun hb => ?_)
  · have h := h.1 hb
    refine z_aload_n dX3_readPairs_57 1 rfl rfl ?_
    refine z_iconst (v := 1) dX3_readPairs_58 rfl ?_
    refine zm_Vi (As := [.int 1]) (rest := []) dX3_readPairs_59 okX5_faultHere ioX5_faultHere mk_X3_38 (ci := 5) rfl (by decide) (lat hY rfl) rfl rfl (Nat.le_of_ble_eq_true rfl) (by decide) hY (CM.monoi h fun r1 F1 A1 h => ?_)
    exact z_iretM dX3_readPairs_62 rfl h
  · have h := h.2 hb
    refine z_aload_n dX3_readPairs_10 0 rfl rfl ?_
    refine z_aload_n dX3_readPairs_11 1 rfl rfl ?_
    refine z_aload_n dX3_readPairs_12 2 rfl rfl ?_
    refine z_aload_n dX3_readPairs_13 3 rfl rfl ?_
    refine zm_Vi (As := [.ref 2, .ref (38 + 14 * c), .ref 4]) (rest := []) dX3_readPairs_14 okX3_readPair ioX3_readPair mk_X3_25 (ci := 3) rfl (by decide) (lat hY rfl) rfl rfl (Nat.le_of_ble_eq_true rfl) (by decide) hY (CM.monoi h fun r2 F2 A2 h => ?_)
    refine z_istore (lv' := [(0, .ref 34), (1, .ref 2), (2, .ref (38 + 14 * c)), (3, .ref 4), (4, .int x4), (5, .int r2)]) dX3_readPairs_17 (by decide) rfl ?_
    refine z_iload dX3_readPairs_19 5 rfl ?_
    refine z_if_eq (tgt := 27) dX3_readPairs_21 (by decide) (fun hb => ?_) (fun hb => ?_)
    · have h := h.1 hb
      refine z_aload_n dX3_readPairs_27 1 rfl rfl ?_
      refine zm_Vi (As := []) (rest := []) dX3_readPairs_28 okX5_isAtEnd ioX5_isAtEnd mk_X3_28 (ci := 5) rfl (by decide) (lat hY rfl) rfl rfl (Nat.le_of_ble_eq_true rfl) (by decide) hY (CM.monoi h fun r3 F3 A3 h => ?_)
      refine z_if_eq (tgt := 36) dX3_readPairs_31 (by decide) (fun hb => ?_) (fun hb => ?_)
      · have h := h.1 hb
        refine z_aload_n dX3_readPairs_36 1 rfl rfl ?_
        refine z_bipush (v := 59) dX3_readPairs_37 rfl ?_
        refine zm_Vi (As := [.int 59]) (rest := []) dX3_readPairs_39 okX5_skipIf ioX5_skipIf mk_X3_34 (ci := 5) rfl (by decide) (lat hY rfl) rfl rfl (Nat.le_of_ble_eq_true rfl) (by decide) hY (CM.monoi h fun r4 F4 A4 h => ?_)
        refine z_if_ne (tgt := 51) dX3_readPairs_42 (by decide) (fun hb => ?_) (fun hb => ?_)
        · have h := h.1 hb
          refine z_iinc (v := (x4 + 1)) (lv' := [(0, .ref 34), (1, .ref 2), (2, .ref (38 + 14 * c)), (3, .ref 4), (4, .int (x4 + 1)), (5, .int r2)]) dX3_readPairs_51 4 rfl rfl (by decide) rfl ?_
          refine z_goto (tgt := 3) dX3_readPairs_54 (by decide) ?_
          exact z_pick [0, 1, 2, 3, 4] rfl (h T G B hY)
        · have h := h.2 hb
          refine z_aload_n dX3_readPairs_45 1 rfl rfl ?_
          refine z_iconst (v := 1) dX3_readPairs_46 rfl ?_
          refine zm_Vi (As := [.int 1]) (rest := []) dX3_readPairs_47 okX5_faultHere ioX5_faultHere mk_X3_38 (ci := 5) rfl (by decide) (lat hY rfl) rfl rfl (Nat.le_of_ble_eq_true rfl) (by decide) hY (CM.monoi h fun r5 F5 A5 h => ?_)
          exact z_iretM dX3_readPairs_50 rfl h
      · have h := h.2 hb
        refine z_iconst (v := 0) dX3_readPairs_34 rfl ?_
        exact z_iretM dX3_readPairs_35 rfl h
    · have h := h.2 hb
      refine z_iload dX3_readPairs_24 5 rfl ?_
      exact z_iretM dX3_readPairs_26 rfl h
set_option maxHeartbeats 4000000 in
set_option maxRecDepth 100000 in
theorem vX1_readFrom_0 {l : Launch} {w : Nat → Nat} {nb : Nat} {Q : PM} {F A : MI} {t : Nat} (ht : isTx t) (h : CM l mX1_letAll 2 w nb [.ref t] F A (qv fun F1 A1 => CM l mX5_isAtEnd 1 w nb [.ref 2] F1 A1 (qi fun r2 F2 A2 => ((r2 = 0 → ZM l mX1_readFrom 7 w nb Q 15 [(0, .ref t), (1, .ref 2), (2, .int 0)] [] F2 A2) ∧ (¬ r2 = 0 → Q (some (.int 0)) F2 A2))))) : ZM l mX1_readFrom 7 w nb Q 0 [(0, .ref t), (1, .ref 2)] [] F A := by
  intro T G B hY
  refine z_aload_n dX1_readFrom_0 0 rfl rfl ?_
  refine zm_Vv (As := []) (rest := []) dX1_readFrom_1 okX1_letAll ioX1_letAll mk_X1_22 (ci := 1) rfl (by decide) (lat1 hY ht) rfl rfl (Nat.le_of_ble_eq_true rfl) (by decide) hY (CM.monov h fun F1 A1 h => ?_)
  refine z_aload_n dX1_readFrom_4 1 rfl rfl ?_
  refine zm_Vi (As := []) (rest := []) dX1_readFrom_5 okX5_isAtEnd ioX5_isAtEnd mk_X1_40 (ci := 5) rfl (by decide) (lat hY rfl) rfl rfl (Nat.le_of_ble_eq_true rfl) (by decide) hY (CM.monoi h fun r2 F2 A2 h => ?_)
  refine z_if_eq (tgt := 13) dX1_readFrom_8 (by decide) (fun hb => ?_) (fun hb => ?_)
  · have h := h.1 hb
    refine z_iconst (v := 0) dX1_readFrom_13 rfl ?_
    refine z_istore_n (lv' := [(0, .ref t), (1, .ref 2), (2, .int 0)]) dX1_readFrom_14 rfl (by decide) rfl ?_
    exact z_pick [0, 1, 2] rfl (h T G B hY)
  · have h := h.2 hb
    refine z_iconst (v := 0) dX1_readFrom_11 rfl ?_
    exact z_iretM dX1_readFrom_12 rfl h
theorem kX1_readFrom {l : Launch} {w : Nat → Nat} {nb : Nat} {Q : PM} {F A : MI} {t : Nat} (ht : isTx t) (h : CM l mX1_letAll 2 w nb [.ref t] F A (qv fun F1 A1 => CM l mX5_isAtEnd 1 w nb [.ref 2] F1 A1 (qi fun r2 F2 A2 => ((r2 = 0 → ZM l mX1_readFrom 7 w nb Q 15 [(0, .ref t), (1, .ref 2), (2, .int 0)] [] F2 A2) ∧ (¬ r2 = 0 → Q (some (.int 0)) F2 A2))))) : CM l mX1_readFrom 7 w nb [.ref t, .ref 2] F A Q := CM.ofZ (by decide) (fun _ _ => rfl) (fun _ _ => Nat.le_of_ble_eq_true rfl) (vX1_readFrom_0 ht h)
set_option maxHeartbeats 4000000 in
set_option maxRecDepth 100000 in
theorem vX1_readFrom_15 {l : Launch} {w : Nat → Nat} {nb : Nat} {Q : PM} {x2 : Int32} {F A : MI} {t : Nat} (ht : isTx t) (h : ((8 ≤ x2 → CM l mX5_peek 1 w nb [.ref 2] F A (qi fun r1 F1 A1 => CM l mX1_isClauseLetter 1 w nb [.int r1] F1 A1 (qi fun r2 F2 A2 => ((r2 = 0 → ZM l mX1_readFrom 7 w nb Q 79 [] [.int 1, .ref 2] F2 A2) ∧ (¬ r2 = 0 → ZM l mX1_readFrom 7 w nb Q 79 [] [.int 3, .ref 2] F2 A2))))) ∧ (¬ 8 ≤ x2 → CM l mX1_readClause 6 w nb [.ref t, .ref 2] F A (qi fun r3 F3 A3 => ((r3 = 0 → CM l mX5_isAtEnd 1 w nb [.ref 2] F3 A3 (qi fun r4 F4 A4 => ((r4 = 0 → CM l mX5_skipIf 2 w nb [.ref 2, .int 59] F4 A4 (qi fun r5 F5 A5 => ((¬ r5 = 0 → ZM l mX1_readFrom 7 w nb Q 15 [(0, .ref t), (1, .ref 2), (2, .int (x2 + 1))] [] F5 A5) ∧ (r5 = 0 → CM l mX5_faultHere 2 w nb [.ref 2, .int 1] F5 A5 (qi fun r6 F6 A6 => Q (some (.int r6)) F6 A6))))) ∧ (¬ r4 = 0 → Q (some (.int 0)) F4 A4)))) ∧ (¬ r3 = 0 → Q (some (.int r3)) F3 A3)))))) : ZM l mX1_readFrom 7 w nb Q 15 [(0, .ref t), (1, .ref 2), (2, .int x2)] [] F A := by
  intro T G B hY
  refine z_iload_n dX1_readFrom_15 2 rfl rfl ?_
  refine z_bipush (v := 8) dX1_readFrom_16 rfl ?_
  refine z_icmp_ge (tgt := 63) dX1_readFrom_18 (by decide) (fun hb => ?_) (fun hb => ?_)
  · have h := h.1 hb
    refine z_aload_n dX1_readFrom_63 1 rfl rfl ?_
    refine z_aload_n dX1_readFrom_64 1 rfl rfl ?_
    refine zm_Vi (As := []) (rest := [.ref 2]) dX1_readFrom_65 okX5_peek ioX5_peek mk_X1_58 (ci := 5) rfl (by decide) (lat hY rfl) rfl rfl (Nat.le_of_ble_eq_true rfl) (by decide) hY (CM.monoi h fun r1 F1 A1 h => ?_)
    refine zm_Si (As := [.int r1]) (rest := [.ref 2]) dX1_readFrom_68 okX1_isClauseLetter smX1_isClauseLetter mk_X1_62 rfl rfl (Nat.le_of_ble_eq_true rfl) (by decide) hY (CM.monoi h fun r2 F2 A2 h => ?_)
    refine z_if_eq (tgt := 78) dX1_readFrom_71 (by decide) (fun hb => ?_) (fun hb => ?_)
    · have h := h.1 hb
      refine z_iconst (v := 1) dX1_readFrom_78 rfl ?_
      exact z_pick [] rfl (h T G B hY)
    · have h := h.2 hb
      refine z_iconst (v := 3) dX1_readFrom_74 rfl ?_
      refine z_goto (tgt := 79) dX1_readFrom_75 (by decide) ?_
      exact z_pick [] rfl (h T G B hY)
  · have h := h.2 hb
    refine z_aload_n dX1_readFrom_21 0 rfl rfl ?_
    refine z_aload_n dX1_readFrom_22 1 rfl rfl ?_
    refine zm_Vi (As := [.ref 2]) (rest := []) dX1_readFrom_23 okX1_readClause ioX1_readClause mk_X1_46 (ci := 1) rfl (by decide) (lat1 hY ht) rfl rfl (Nat.le_of_ble_eq_true rfl) (by decide) hY (CM.monoi h fun r3 F3 A3 h => ?_)
    refine z_istore_n (lv' := [(0, .ref t), (1, .ref 2), (2, .int x2), (3, .int r3)]) dX1_readFrom_26 rfl (by decide) rfl ?_
    refine z_iload_n dX1_readFrom_27 3 rfl rfl ?_
    refine z_if_eq (tgt := 33) dX1_readFrom_28 (by decide) (fun hb => ?_) (fun hb => ?_)
    · have h := h.1 hb
      refine z_aload_n dX1_readFrom_33 1 rfl rfl ?_
      refine zm_Vi (As := []) (rest := []) dX1_readFrom_34 okX5_isAtEnd ioX5_isAtEnd mk_X1_40 (ci := 5) rfl (by decide) (lat hY rfl) rfl rfl (Nat.le_of_ble_eq_true rfl) (by decide) hY (CM.monoi h fun r4 F4 A4 h => ?_)
      refine z_if_eq (tgt := 42) dX1_readFrom_37 (by decide) (fun hb => ?_) (fun hb => ?_)
      · have h := h.1 hb
        refine z_aload_n dX1_readFrom_42 1 rfl rfl ?_
        refine z_bipush (v := 59) dX1_readFrom_43 rfl ?_
        refine zm_Vi (As := [.int 59]) (rest := []) dX1_readFrom_45 okX5_skipIf ioX5_skipIf mk_X1_50 (ci := 5) rfl (by decide) (lat hY rfl) rfl rfl (Nat.le_of_ble_eq_true rfl) (by decide) hY (CM.monoi h fun r5 F5 A5 h => ?_)
        refine z_if_ne (tgt := 57) dX1_readFrom_48 (by decide) (fun hb => ?_) (fun hb => ?_)
        · have h := h.1 hb
          refine z_iinc (v := (x2 + 1)) (lv' := [(0, .ref t), (1, .ref 2), (2, .int (x2 + 1)), (3, .int r3)]) dX1_readFrom_57 2 rfl rfl (by decide) rfl ?_
          refine z_goto (tgt := 15) dX1_readFrom_60 (by decide) ?_
          exact z_pick [0, 1, 2] rfl (h T G B hY)
        · have h := h.2 hb
          refine z_aload_n dX1_readFrom_51 1 rfl rfl ?_
          refine z_iconst (v := 1) dX1_readFrom_52 rfl ?_
          refine zm_Vi (As := [.int 1]) (rest := []) dX1_readFrom_53 okX5_faultHere ioX5_faultHere mk_X1_54 (ci := 5) rfl (by decide) (lat hY rfl) rfl rfl (Nat.le_of_ble_eq_true rfl) (by decide) hY (CM.monoi h fun r6 F6 A6 h => ?_)
          exact z_iretM dX1_readFrom_56 rfl h
      · have h := h.2 hb
        refine z_iconst (v := 0) dX1_readFrom_40 rfl ?_
        exact z_iretM dX1_readFrom_41 rfl h
    · have h := h.2 hb
      refine z_iload_n dX1_readFrom_31 3 rfl rfl ?_
      exact z_iretM dX1_readFrom_32 rfl h
set_option maxHeartbeats 4000000 in
set_option maxRecDepth 100000 in
theorem vX1_readFrom_79 {l : Launch} {w : Nat → Nat} {nb : Nat} {Q : PM} {s0 : Int32} {F A : MI} {t : Nat} (ht : isTx t) (h : CM l mX5_faultHere 2 w nb [.ref 2, .int s0] F A (qi fun r1 F1 A1 => Q (some (.int r1)) F1 A1)) : ZM l mX1_readFrom 7 w nb Q 79 [] [.int s0, .ref 2] F A := by
  intro T G B hY
  refine zm_Vi (As := [.int s0]) (rest := []) dX1_readFrom_79 okX5_faultHere ioX5_faultHere mk_X1_54 (ci := 5) rfl (by decide) (lat hY rfl) rfl rfl (Nat.le_of_ble_eq_true rfl) (by decide) hY (CM.monoi h fun r1 F1 A1 h => ?_)
  exact z_iretM dX1_readFrom_82 rfl h
set_option maxHeartbeats 4000000 in
set_option maxRecDepth 100000 in
theorem vX3_score_0 {l : Launch} {w : Nat → Nat} {nb : Nat} {Q : PM} {F A : MI} {c : Nat} (hc : c < 6) (h : CM l mX3_readPairs 6 w nb [.ref 34, .ref 2, .ref (38 + 14 * c), .ref 4] (u2 F 120 34 0) A (qi fun r1 F1 A1 => ((r1 = 0 → Q (some (.int (if (F1 120 34) < 0 then 0 else (F1 120 34)))) F1 A1) ∧ (¬ r1 = 0 → Q (some (.int (-r1))) F1 A1)))) : ZM l mX3_score 7 w nb Q 0 [(0, .ref 34), (1, .ref 2), (2, .ref (38 + 14 * c)), (3, .ref 4)] [] F A := by
  intro T G B hY
  refine z_aload_n dX3_score_0 0 rfl rfl ?_
  refine z_iconst (v := 0) dX3_score_1 rfl ?_
  refine z_puti (k := 0) (fc := 120) dX3_score_2 ckX3 (by decide) fk_X3_9 rfl rfl rfl (lat hY rfl) ?_
  refine z_aload_n dX3_score_5 0 rfl rfl ?_
  refine z_aload_n dX3_score_6 1 rfl rfl ?_
  refine z_aload_n dX3_score_7 2 rfl rfl ?_
  refine z_aload_n dX3_score_8 3 rfl rfl ?_
  refine zm_Vi (As := [.ref 2, .ref (38 + 14 * c), .ref 4]) (rest := []) dX3_score_9 okX3_readPairs ioX3_readPairs mk_X3_15 (ci := 3) rfl (by decide) (lat hY rfl) rfl rfl (Nat.le_of_ble_eq_true rfl) (by decide) hY (CM.monoi h fun r1 F1 A1 h => ?_)
  refine z_istore (lv' := [(0, .ref 34), (1, .ref 2), (2, .ref (38 + 14 * c)), (3, .ref 4), (4, .int r1)]) dX3_score_12 (by decide) rfl ?_
  refine z_iload dX3_score_14 4 rfl ?_
  refine z_if_eq (tgt := 25) dX3_score_16 (by decide) (fun hb => ?_) (fun hb => ?_)
  · have h := h.1 hb
    refine z_aload_n dX3_score_25 0 rfl rfl ?_
    refine z_geti' (k := 0) (fc := 120) (x := (F1 120 34)) dX3_score_26 ckX3 (by decide) fk_X3_9 rfl rfl (lat hY rfl) rfl ?_
    refine z_iconst (v := 0) dX3_score_29 rfl ?_
    refine z_mmax dX3_score_30 mk_X3_19 (by decide) (Nat.le_of_ble_eq_true rfl) ?_
    exact z_iretM dX3_score_33 rfl h
  · have h := h.2 hb
    refine z_iload dX3_score_19 4 rfl ?_
    refine z_ineg dX3_score_21 ?_
    refine z_goto (tgt := 33) dX3_score_22 (by decide) ?_
    exact z_iretM dX3_score_33 rfl h
theorem kX3_score {l : Launch} {w : Nat → Nat} {nb : Nat} {Q : PM} {F A : MI} {c : Nat} (hc : c < 6) (h : CM l mX3_readPairs 6 w nb [.ref 34, .ref 2, .ref (38 + 14 * c), .ref 4] (u2 F 120 34 0) A (qi fun r1 F1 A1 => ((r1 = 0 → Q (some (.int (if (F1 120 34) < 0 then 0 else (F1 120 34)))) F1 A1) ∧ (¬ r1 = 0 → Q (some (.int (-r1))) F1 A1)))) : CM l mX3_score 7 w nb [.ref 34, .ref 2, .ref (38 + 14 * c), .ref 4] F A Q := CM.ofZ (by decide) (fun _ _ => rfl) (fun _ _ => Nat.le_of_ble_eq_true rfl) (vX3_score_0 hc h)
set_option maxHeartbeats 4000000 in
set_option maxRecDepth 100000 in
theorem vX7_reasons_0 {l : Launch} {w : Nat → Nat} {nb : Nat} {Q : PM} {x1 x2 : Int32} {F A : MI}  (h : CM l mX7_classAt 2 w nb [.ref 1, .int x1] F A (qc (fun F1 A1 => Q (some (.int (-1))) F1 A1) (fun c1 F1 A1 => CM l mX5_has 1 w nb [.ref 2, .int x2] F1 A1 (qi fun r2 F2 A2 => ((¬ r2 = 0 → CM l mX5_startReading 2 w nb [.ref 2, .int x2] F2 A2 (qv fun F3 A3 => CM l mX3_score 7 w nb [.ref 34, .ref 2, .ref (38 + 14 * c1), .ref 4] F3 A3 (qi fun r4 F4 A4 => CM l mX5_clear 3 w nb [.ref 2] F4 A4 (qv fun F5 A5 => Q (some (.int r4)) F5 A5)))) ∧ (r2 = 0 → Q (some (.int (-1))) F2 A2)))))) : ZM l mX7_reasons 8 w nb Q 0 [(0, .ref 1), (1, .int x1), (2, .int x2)] [] F A := by
  intro T G B hY
  refine z_aload_n dX7_reasons_0 0 rfl rfl ?_
  refine z_iload_n dX7_reasons_1 1 rfl rfl ?_
  refine zm_Vc (As := [.int x1]) (rest := []) dX7_reasons_2 okX7_classAt ioX7_classAt mk_X7_80 (ci := 7) rfl (by decide) (lat hY rfl) rfl rfl (Nat.le_of_ble_eq_true rfl) (by decide) hY (CM.monoc h (fun F1 A1 h => ?_) (fun c1 F1 A1 hc1 h => ?_))
  · skip
    refine z_astore_nN (lv' := [(0, .ref 1), (1, .int x1), (2, .int x2), (3, .null)]) dX7_reasons_5 rfl (by decide) rfl ?_
    refine z_aload_nN dX7_reasons_6 3 rfl rfl ?_
    refine z_ifnullN (tgt := 21) dX7_reasons_7 (by decide) ?_
    refine z_iconst (v := (-1)) dX7_reasons_21 rfl ?_
    exact z_iretM dX7_reasons_22 rfl h
  · skip
    refine z_astore_n (lv' := [(0, .ref 1), (1, .int x1), (2, .int x2), (3, .ref (38 + 14 * c1))]) dX7_reasons_5 rfl (by decide) rfl ?_
    refine z_aload_n dX7_reasons_6 3 rfl rfl ?_
    refine z_ifnull dX7_reasons_7 ?_
    refine z_aload_n dX7_reasons_10 0 rfl rfl ?_
    refine z_getr (k := 0) (fc := 280) (r := 2) dX7_reasons_11 ckX7 (by decide) fk_X7_10 rfl rfl (lat hY rfl) (lgg hY rfl) (by decide) ?_
    refine z_iload_n dX7_reasons_14 2 rfl rfl ?_
    refine zm_Vi (As := [.int x2]) (rest := []) dX7_reasons_15 okX5_has ioX5_has mk_X7_84 (ci := 5) rfl (by decide) (lat hY rfl) rfl rfl (Nat.le_of_ble_eq_true rfl) (by decide) hY (CM.monoi h fun r2 F2 A2 h => ?_)
    refine z_if_ne (tgt := 23) dX7_reasons_18 (by decide) (fun hb => ?_) (fun hb => ?_)
    · have h := h.1 hb
      refine z_aload_n dX7_reasons_23 0 rfl rfl ?_
      refine z_getr (k := 0) (fc := 280) (r := 2) dX7_reasons_24 ckX7 (by decide) fk_X7_10 rfl rfl (lat hY rfl) (lgg hY rfl) (by decide) ?_
      refine z_iload_n dX7_reasons_27 2 rfl rfl ?_
      refine zm_Vv (As := [.int x2]) (rest := []) dX7_reasons_28 okX5_startReading ioX5_startReading mk_X7_88 (ci := 5) rfl (by decide) (lat hY rfl) rfl rfl (Nat.le_of_ble_eq_true rfl) (by decide) hY (CM.monov h fun F3 A3 h => ?_)
      refine z_aload_n dX7_reasons_31 0 rfl rfl ?_
      refine z_getr (k := 6) (fc := 286) (r := 34) dX7_reasons_32 ckX7 (by decide) fk_X7_49 rfl rfl (lat hY rfl) (lgg hY rfl) (by decide) ?_
      refine z_aload_n dX7_reasons_35 0 rfl rfl ?_
      refine z_getr (k := 0) (fc := 280) (r := 2) dX7_reasons_36 ckX7 (by decide) fk_X7_10 rfl rfl (lat hY rfl) (lgg hY rfl) (by decide) ?_
      refine z_aload_n dX7_reasons_39 3 rfl rfl ?_
      refine z_aload_n dX7_reasons_40 0 rfl rfl ?_
      refine z_getr (k := 1) (fc := 281) (r := 4) dX7_reasons_41 ckX7 (by decide) fk_X7_18 rfl rfl (lat hY rfl) (lgg hY rfl) (by decide) ?_
      refine zm_Vi (As := [.ref 2, .ref (38 + 14 * c1), .ref 4]) (rest := []) dX7_reasons_44 okX3_score ioX3_score mk_X7_175 (ci := 3) rfl (by decide) (lat hY rfl) rfl rfl (Nat.le_of_ble_eq_true rfl) (by decide) hY (CM.monoi h fun r4 F4 A4 h => ?_)
      refine z_istore (lv' := [(0, .ref 1), (1, .int x1), (2, .int x2), (3, .ref (38 + 14 * c1)), (4, .int r4)]) dX7_reasons_47 (by decide) rfl ?_
      refine z_aload_n dX7_reasons_49 0 rfl rfl ?_
      refine z_getr (k := 0) (fc := 280) (r := 2) dX7_reasons_50 ckX7 (by decide) fk_X7_10 rfl rfl (lat hY rfl) (lgg hY rfl) (by decide) ?_
      refine zm_Vv (As := []) (rest := []) dX7_reasons_53 okX5_clear ioX5_clear mk_X7_95 (ci := 5) rfl (by decide) (lat hY rfl) rfl rfl (Nat.le_of_ble_eq_true rfl) (by decide) hY (CM.monov h fun F5 A5 h => ?_)
      refine z_iload dX7_reasons_56 4 rfl ?_
      exact z_iretM dX7_reasons_58 rfl h
    · have h := h.2 hb
      refine z_iconst (v := (-1)) dX7_reasons_21 rfl ?_
      exact z_iretM dX7_reasons_22 rfl h
theorem kX7_reasons {l : Launch} {w : Nat → Nat} {nb : Nat} {Q : PM} {x1 x2 : Int32} {F A : MI}  (h : CM l mX7_classAt 2 w nb [.ref 1, .int x1] F A (qc (fun F1 A1 => Q (some (.int (-1))) F1 A1) (fun c1 F1 A1 => CM l mX5_has 1 w nb [.ref 2, .int x2] F1 A1 (qi fun r2 F2 A2 => ((¬ r2 = 0 → CM l mX5_startReading 2 w nb [.ref 2, .int x2] F2 A2 (qv fun F3 A3 => CM l mX3_score 7 w nb [.ref 34, .ref 2, .ref (38 + 14 * c1), .ref 4] F3 A3 (qi fun r4 F4 A4 => CM l mX5_clear 3 w nb [.ref 2] F4 A4 (qv fun F5 A5 => Q (some (.int r4)) F5 A5)))) ∧ (r2 = 0 → Q (some (.int (-1))) F2 A2)))))) : CM l mX7_reasons 8 w nb [.ref 1, .int x1, .int x2] F A Q := CM.ofZ (by decide) (fun _ _ => rfl) (fun _ _ => Nat.le_of_ble_eq_true rfl) (vX7_reasons_0  h)
set_option maxHeartbeats 4000000 in
set_option maxRecDepth 100000 in
theorem vX6_fitFrom_0 {l : Launch} {w : Nat → Nat} {nb : Nat} {Q : PM} {x1 x2 x3 : Int32} {F A : MI} {L L' : Nat} (hLL : L' + 1 ≤ L) (h : ((x1 < 6 → (vp_in x1 6 ∧ ((¬ (A 30 x1.toNatClampNeg) = 0 → ZM l mX6_fitFrom L w nb Q 34 [(0, .ref 29), (1, .int x1), (2, .int x2), (3, .int x3), (4, .int (A 30 x1.toNatClampNeg)), (5, .int 0)] [] F A) ∧ ((A 30 x1.toNatClampNeg) = 0 → CM l mX6_fitFrom L' w nb [.ref 29, .int (x1 + 1), .int x2, .int x3] F A (qi fun r2 F2 A2 => ((r2 = 0 ∨ r2 = 1) ∧ Q (some (.int r2)) F2 A2)))))) ∧ (¬ x1 < 6 → Q (some (.int 1)) F A))) : ZM l mX6_fitFrom L w nb Q 0 [(0, .ref 29), (1, .int x1), (2, .int x2), (3, .int x3)] [] F A := by
  intro T G B hY
  refine z_iload_n dX6_fitFrom_0 1 rfl rfl ?_
  refine z_bipush (v := 6) dX6_fitFrom_1 rfl ?_
  refine z_icmp_lt (tgt := 8) dX6_fitFrom_3 (by decide) (fun hb => ?_) (fun hb => ?_)
  · have h := h.1 hb
    refine z_aload_n dX6_fitFrom_8 0 rfl rfl ?_
    refine z_getr (k := 0) (fc := 240) (r := 30) dX6_fitFrom_9 ckX6 (by decide) fk_X6_9 rfl rfl (lat hY rfl) (lgg hY rfl) (by decide) ?_
    refine z_iload_n dX6_fitFrom_12 1 rfl rfl ?_
    have hin1 := h.1
    have h := h.2
    refine z_iald' (n := 6) (x := (A 30 x1.toNatClampNeg)) dX6_fitFrom_13 (lat hY rfl) (lln hY rfl) hin1 rfl ?_
    refine z_istore (lv' := [(0, .ref 29), (1, .int x1), (2, .int x2), (3, .int x3), (4, .int (A 30 x1.toNatClampNeg))]) dX6_fitFrom_14 (by decide) rfl ?_
    refine z_iload dX6_fitFrom_16 4 rfl ?_
    refine z_if_ne (tgt := 31) dX6_fitFrom_18 (by decide) (fun hb => ?_) (fun hb => ?_)
    · have h := h.1 hb
      refine z_iconst (v := 0) dX6_fitFrom_31 rfl ?_
      refine z_istore (lv' := [(0, .ref 29), (1, .int x1), (2, .int x2), (3, .int x3), (4, .int (A 30 x1.toNatClampNeg)), (5, .int 0)]) dX6_fitFrom_32 (by decide) rfl ?_
      exact z_pick [0, 1, 2, 3, 4, 5] rfl (h T G B hY)
    · have h := h.2 hb
      refine z_aload_n dX6_fitFrom_21 0 rfl rfl ?_
      refine z_iload_n dX6_fitFrom_22 1 rfl rfl ?_
      refine z_iconst (v := 1) dX6_fitFrom_23 rfl ?_
      refine z_iadd dX6_fitFrom_24 ?_
      refine z_iload_n dX6_fitFrom_25 2 rfl rfl ?_
      refine z_iload_n dX6_fitFrom_26 3 rfl rfl ?_
      refine zm_Si (As := [.ref 29, .int (x1 + 1), .int x2, .int x3]) (rest := []) dX6_fitFrom_27 okX6_fitFrom smX6_fitFrom mk_X6_28 rfl rfl (Nat.le_of_ble_eq_true rfl) hLL hY (CM.monoi h fun r2 F2 A2 h => ?_)
      exact z_zretM dX6_fitFrom_30 rfl h.1 h.2
  · have h := h.2 hb
    refine z_iconst (v := 1) dX6_fitFrom_6 rfl ?_
    exact z_zretM dX6_fitFrom_7 rfl (by decide) h
theorem kX6_fitFrom {l : Launch} {w : Nat → Nat} {nb : Nat} {Q : PM} {x1 x2 x3 : Int32} {F A : MI} {L L' : Nat} (hLL : L' + 1 ≤ L) (h : ((x1 < 6 → (vp_in x1 6 ∧ ((¬ (A 30 x1.toNatClampNeg) = 0 → ZM l mX6_fitFrom L w nb Q 34 [(0, .ref 29), (1, .int x1), (2, .int x2), (3, .int x3), (4, .int (A 30 x1.toNatClampNeg)), (5, .int 0)] [] F A) ∧ ((A 30 x1.toNatClampNeg) = 0 → CM l mX6_fitFrom L' w nb [.ref 29, .int (x1 + 1), .int x2, .int x3] F A (qi fun r2 F2 A2 => ((r2 = 0 ∨ r2 = 1) ∧ Q (some (.int r2)) F2 A2)))))) ∧ (¬ x1 < 6 → Q (some (.int 1)) F A))) : CM l mX6_fitFrom L w nb [.ref 29, .int x1, .int x2, .int x3] F A Q := CM.ofZ (by decide) (fun _ _ => rfl) (fun _ _ => Nat.le_of_ble_eq_true rfl) (vX6_fitFrom_0 hLL h)
set_option maxHeartbeats 4000000 in
set_option maxRecDepth 100000 in
theorem vX6_fitFrom_34 {l : Launch} {w : Nat → Nat} {nb : Nat} {Q : PM} {x1 x2 x3 x4 x5 : Int32} {F A : MI} {L L' : Nat} (hLL : L' + 1 ≤ L) (h : ((x2 < x5 → Q (some (.int 0)) F A) ∧ (¬ x2 < x5 → (vp_in x5 6 ∧ ((x3 ≤ (A 33 x5.toNatClampNeg) → ZM l mX6_fitFrom L w nb Q 134 [(0, .ref 29), (1, .int x1), (2, .int x2), (3, .int x3), (4, .int x4), (5, .int x5)] [] F A) ∧ (¬ x3 ≤ (A 33 x5.toNatClampNeg) → (vp_in x5 6 ∧ ((¬ ((A 32 x5.toNatClampNeg) &&& x4) = 0 → ZM l mX6_fitFrom L w nb Q 134 [(0, .ref 29), (1, .int x1), (2, .int x2), (3, .int x3), (4, .int x4), (5, .int x5)] [] F A) ∧ (((A 32 x5.toNatClampNeg) &&& x4) = 0 → (vp_in x1 6 ∧ (vp_in x5 6 ∧ (vp_in x5 6 ∧ (vp_in x5 6 ∧ (vp_in x5 6 ∧ CM l mX6_fitFrom L' w nb [.ref 29, .int (x1 + 1), .int x2, .int x3] F (u2 (u2 (u2 A 31 x1.toNatClampNeg x5) 33 x5.toNatClampNeg ((A 33 x5.toNatClampNeg) + 1)) 32 x5.toNatClampNeg ((A 32 x5.toNatClampNeg) ||| x4)) (qi fun r8 F8 A8 => ((r8 = 0 → (vp_in x5 6 ∧ (vp_in x5 6 ∧ (vp_in x5 6 ∧ (vp_in x5 6 ∧ ZM l mX6_fitFrom L w nb Q 134 [(0, .ref 29), (1, .int x1), (2, .int x2), (3, .int x3), (4, .int x4), (5, .int x5)] [] F8 (u2 (u2 A8 33 x5.toNatClampNeg ((A8 33 x5.toNatClampNeg) - 1)) 32 x5.toNatClampNeg ((A8 32 x5.toNatClampNeg) &&& (x4 ^^^ (-1))))))))) ∧ (¬ r8 = 0 → Q (some (.int 1)) F8 A8))))))))))))))))) : ZM l mX6_fitFrom L w nb Q 34 [(0, .ref 29), (1, .int x1), (2, .int x2), (3, .int x3), (4, .int x4), (5, .int x5)] [] F A := by
  intro T G B hY
  refine z_iload dX6_fitFrom_34 5 rfl ?_
  refine z_iload_n dX6_fitFrom_36 2 rfl rfl ?_
  refine z_icmp_gt (tgt := 140) dX6_fitFrom_37 (by decide) (fun hb => ?_) (fun hb => ?_)
  · have h := h.1 hb
    refine z_iconst (v := 0) dX6_fitFrom_140 rfl ?_
    exact z_zretM dX6_fitFrom_141 rfl (by decide) h
  · have h := h.2 hb
    refine z_aload_n dX6_fitFrom_40 0 rfl rfl ?_
    refine z_getr (k := 3) (fc := 243) (r := 33) dX6_fitFrom_41 ckX6 (by decide) fk_X6_21 rfl rfl (lat hY rfl) (lgg hY rfl) (by decide) ?_
    refine z_iload dX6_fitFrom_44 5 rfl ?_
    have hin1 := h.1
    have h := h.2
    refine z_iald' (n := 6) (x := (A 33 x5.toNatClampNeg)) dX6_fitFrom_46 (lat hY rfl) (lln hY rfl) hin1 rfl ?_
    refine z_iload_n dX6_fitFrom_47 3 rfl rfl ?_
    refine z_icmp_ge (tgt := 134) dX6_fitFrom_48 (by decide) (fun hb => ?_) (fun hb => ?_)
    · have h := h.1 hb
      exact z_pick [0, 1, 2, 3, 4, 5] rfl (h T G B hY)
    · have h := h.2 hb
      refine z_aload_n dX6_fitFrom_51 0 rfl rfl ?_
      refine z_getr (k := 2) (fc := 242) (r := 32) dX6_fitFrom_52 ckX6 (by decide) fk_X6_18 rfl rfl (lat hY rfl) (lgg hY rfl) (by decide) ?_
      refine z_iload dX6_fitFrom_55 5 rfl ?_
      have hin2 := h.1
      have h := h.2
      refine z_iald' (n := 6) (x := (A 32 x5.toNatClampNeg)) dX6_fitFrom_57 (lat hY rfl) (lln hY rfl) hin2 rfl ?_
      refine z_iload dX6_fitFrom_58 4 rfl ?_
      refine z_iand dX6_fitFrom_60 ?_
      refine z_if_ne (tgt := 134) dX6_fitFrom_61 (by decide) (fun hb => ?_) (fun hb => ?_)
      · have h := h.1 hb
        exact z_pick [0, 1, 2, 3, 4, 5] rfl (h T G B hY)
      · have h := h.2 hb
        refine z_aload_n dX6_fitFrom_64 0 rfl rfl ?_
        refine z_getr (k := 1) (fc := 241) (r := 31) dX6_fitFrom_65 ckX6 (by decide) fk_X6_15 rfl rfl (lat hY rfl) (lgg hY rfl) (by decide) ?_
        refine z_iload_n dX6_fitFrom_68 1 rfl rfl ?_
        refine z_iload dX6_fitFrom_69 5 rfl ?_
        have hin3 := h.1
        have h := h.2
        refine z_iast' (n := 6) dX6_fitFrom_71 (lat hY rfl) (lln hY rfl) hin3 ?_
        refine z_aload_n dX6_fitFrom_72 0 rfl rfl ?_
        refine z_getr (k := 3) (fc := 243) (r := 33) dX6_fitFrom_73 ckX6 (by decide) fk_X6_21 rfl rfl (lat hY rfl) (lgg hY rfl) (by decide) ?_
        refine z_iload dX6_fitFrom_76 5 rfl ?_
        refine z_dup2 dX6_fitFrom_78 ?_
        have hin4 := h.1
        have h := h.2
        refine z_iald' (n := 6) (x := (A 33 x5.toNatClampNeg)) dX6_fitFrom_79 (lat hY rfl) (lln hY rfl) hin4 ((u2_n1 (by omega)).trans rfl) ?_
        refine z_iconst (v := 1) dX6_fitFrom_80 rfl ?_
        refine z_iadd dX6_fitFrom_81 ?_
        have hin5 := h.1
        have h := h.2
        refine z_iast' (n := 6) dX6_fitFrom_82 (lat hY rfl) (lln hY rfl) hin5 ?_
        refine z_aload_n dX6_fitFrom_83 0 rfl rfl ?_
        refine z_getr (k := 2) (fc := 242) (r := 32) dX6_fitFrom_84 ckX6 (by decide) fk_X6_18 rfl rfl (lat hY rfl) (lgg hY rfl) (by decide) ?_
        refine z_iload dX6_fitFrom_87 5 rfl ?_
        refine z_dup2 dX6_fitFrom_89 ?_
        have hin6 := h.1
        have h := h.2
        refine z_iald' (n := 6) (x := (A 32 x5.toNatClampNeg)) dX6_fitFrom_90 (lat hY rfl) (lln hY rfl) hin6 ((u2_n1 (by omega)).trans ((u2_n1 (by omega)).trans rfl)) ?_
        refine z_iload dX6_fitFrom_91 4 rfl ?_
        refine z_ior dX6_fitFrom_93 ?_
        have hin7 := h.1
        have h := h.2
        refine z_iast' (n := 6) dX6_fitFrom_94 (lat hY rfl) (lln hY rfl) hin7 ?_
        refine z_aload_n dX6_fitFrom_95 0 rfl rfl ?_
        refine z_iload_n dX6_fitFrom_96 1 rfl rfl ?_
        refine z_iconst (v := 1) dX6_fitFrom_97 rfl ?_
        refine z_iadd dX6_fitFrom_98 ?_
        refine z_iload_n dX6_fitFrom_99 2 rfl rfl ?_
        refine z_iload_n dX6_fitFrom_100 3 rfl rfl ?_
        refine zm_Si (As := [.ref 29, .int (x1 + 1), .int x2, .int x3]) (rest := []) dX6_fitFrom_101 okX6_fitFrom smX6_fitFrom mk_X6_28 rfl rfl (Nat.le_of_ble_eq_true rfl) hLL hY (CM.monoi h fun r8 F8 A8 h => ?_)
        refine z_if_eq (tgt := 109) dX6_fitFrom_104 (by decide) (fun hb => ?_) (fun hb => ?_)
        · have h := h.1 hb
          refine z_aload_n dX6_fitFrom_109 0 rfl rfl ?_
          refine z_getr (k := 3) (fc := 243) (r := 33) dX6_fitFrom_110 ckX6 (by decide) fk_X6_21 rfl rfl (lat hY rfl) (lgg hY rfl) (by decide) ?_
          refine z_iload dX6_fitFrom_113 5 rfl ?_
          refine z_dup2 dX6_fitFrom_115 ?_
          have hin9 := h.1
          have h := h.2
          refine z_iald' (n := 6) (x := (A8 33 x5.toNatClampNeg)) dX6_fitFrom_116 (lat hY rfl) (lln hY rfl) hin9 rfl ?_
          refine z_iconst (v := 1) dX6_fitFrom_117 rfl ?_
          refine z_isub dX6_fitFrom_118 ?_
          have hin10 := h.1
          have h := h.2
          refine z_iast' (n := 6) dX6_fitFrom_119 (lat hY rfl) (lln hY rfl) hin10 ?_
          refine z_aload_n dX6_fitFrom_120 0 rfl rfl ?_
          refine z_getr (k := 2) (fc := 242) (r := 32) dX6_fitFrom_121 ckX6 (by decide) fk_X6_18 rfl rfl (lat hY rfl) (lgg hY rfl) (by decide) ?_
          refine z_iload dX6_fitFrom_124 5 rfl ?_
          refine z_dup2 dX6_fitFrom_126 ?_
          have hin11 := h.1
          have h := h.2
          refine z_iald' (n := 6) (x := (A8 32 x5.toNatClampNeg)) dX6_fitFrom_127 (lat hY rfl) (lln hY rfl) hin11 ((u2_n1 (by omega)).trans rfl) ?_
          refine z_iload dX6_fitFrom_128 4 rfl ?_
          refine z_iconst (v := (-1)) dX6_fitFrom_130 rfl ?_
          refine z_ixor dX6_fitFrom_131 ?_
          refine z_iand dX6_fitFrom_132 ?_
          have hin12 := h.1
          have h := h.2
          refine z_iast' (n := 6) dX6_fitFrom_133 (lat hY rfl) (lln hY rfl) hin12 ?_
          exact z_pick [0, 1, 2, 3, 4, 5] rfl (h T G B hY)
        · have h := h.2 hb
          refine z_iconst (v := 1) dX6_fitFrom_107 rfl ?_
          exact z_zretM dX6_fitFrom_108 rfl (by decide) h
set_option maxHeartbeats 4000000 in
set_option maxRecDepth 100000 in
theorem vX6_fitFrom_134 {l : Launch} {w : Nat → Nat} {nb : Nat} {Q : PM} {x1 x2 x3 x4 x5 : Int32} {F A : MI} {L L' : Nat} (hLL : L' + 1 ≤ L) (h : ZM l mX6_fitFrom L w nb Q 34 [(0, .ref 29), (1, .int x1), (2, .int x2), (3, .int x3), (4, .int x4), (5, .int (x5 + 1))] [] F A) : ZM l mX6_fitFrom L w nb Q 134 [(0, .ref 29), (1, .int x1), (2, .int x2), (3, .int x3), (4, .int x4), (5, .int x5)] [] F A := by
  intro T G B hY
  refine z_iinc (v := (x5 + 1)) (lv' := [(0, .ref 29), (1, .int x1), (2, .int x2), (3, .int x3), (4, .int x4), (5, .int (x5 + 1))]) dX6_fitFrom_134 5 rfl rfl (by decide) rfl ?_
  refine z_goto (tgt := 34) dX6_fitFrom_137 (by decide) ?_
  exact z_pick [0, 1, 2, 3, 4, 5] rfl (h T G B hY)
set_option maxHeartbeats 4000000 in
set_option maxRecDepth 100000 in
theorem vX6_plan_0 {l : Launch} {w : Nat → Nat} {nb : Nat} {Q : PM} {x3 : Int32} {F A : MI}  (h : ZM l mX6_plan 10 w nb Q 3 [(0, .ref 29), (1, .ref 5), (2, .ref 4), (3, .int x3), (4, .int 0)] [] F A) : ZM l mX6_plan 10 w nb Q 0 [(0, .ref 29), (1, .ref 5), (2, .ref 4), (3, .int x3)] [] F A := by
  intro T G B hY
  refine z_iconst (v := 0) dX6_plan_0 rfl ?_
  refine z_istore (lv' := [(0, .ref 29), (1, .ref 5), (2, .ref 4), (3, .int x3), (4, .int 0)]) dX6_plan_1 (by decide) rfl ?_
  exact z_pick [0, 1, 2, 3, 4] rfl (h T G B hY)
theorem kX6_plan {l : Launch} {w : Nat → Nat} {nb : Nat} {Q : PM} {x3 : Int32} {F A : MI}  (h : ZM l mX6_plan 10 w nb Q 3 [(0, .ref 29), (1, .ref 5), (2, .ref 4), (3, .int x3), (4, .int 0)] [] F A) : CM l mX6_plan 10 w nb [.ref 29, .ref 5, .ref 4, .int x3] F A Q := CM.ofZ (by decide) (fun _ _ => rfl) (fun _ _ => Nat.le_of_ble_eq_true rfl) (vX6_plan_0  h)
set_option maxHeartbeats 4000000 in
set_option maxRecDepth 100000 in
theorem vX6_plan_3 {l : Launch} {w : Nat → Nat} {nb : Nat} {Q : PM} {x3 x4 : Int32} {F A : MI}  (h : ((6 ≤ x4 → ZM l mX6_plan 10 w nb Q 61 [(0, .ref 29), (3, .int x3), (4, .int 0), (5, .int 0)] [] F A) ∧ (¬ 6 ≤ x4 → (vp_in x4 6 ∧ CM l mX6_handlersOf 1 w nb [.ref (38 + 14 * x4.toNatClampNeg), .ref 4] F A (qi fun r2 F2 A2 => (vp_in x4 6 ∧ (vp_in x4 6 ∧ (vp_in x4 6 ∧ (vp_in x4 6 ∧ ZM l mX6_plan 10 w nb Q 3 [(0, .ref 29), (1, .ref 5), (2, .ref 4), (3, .int x3), (4, .int (x4 + 1))] [] F2 (u2 (u2 (u2 (u2 A2 30 x4.toNatClampNeg r2) 31 x4.toNatClampNeg (-1)) 32 x4.toNatClampNeg 0) 33 x4.toNatClampNeg 0)))))))))) : ZM l mX6_plan 10 w nb Q 3 [(0, .ref 29), (1, .ref 5), (2, .ref 4), (3, .int x3), (4, .int x4)] [] F A := by
  intro T G B hY
  refine z_iload dX6_plan_3 4 rfl ?_
  refine z_bipush (v := 6) dX6_plan_5 rfl ?_
  refine z_icmp_ge (tgt := 55) dX6_plan_7 (by decide) (fun hb => ?_) (fun hb => ?_)
  · have h := h.1 hb
    refine z_iconst (v := 0) dX6_plan_55 rfl ?_
    refine z_istore (lv' := [(0, .ref 29), (1, .ref 5), (2, .ref 4), (3, .int x3), (4, .int 0)]) dX6_plan_56 (by decide) rfl ?_
    refine z_iconst (v := 0) dX6_plan_58 rfl ?_
    refine z_istore (lv' := [(0, .ref 29), (1, .ref 5), (2, .ref 4), (3, .int x3), (4, .int 0), (5, .int 0)]) dX6_plan_59 (by decide) rfl ?_
    exact z_pick [0, 3, 4, 5] rfl (h T G B hY)
  · have h := h.2 hb
    refine z_aload_n dX6_plan_10 0 rfl rfl ?_
    refine z_getr (k := 0) (fc := 240) (r := 30) dX6_plan_11 ckX6 (by decide) fk_X6_9 rfl rfl (lat hY rfl) (lgg hY rfl) (by decide) ?_
    refine z_iload dX6_plan_14 4 rfl ?_
    refine z_aload_n dX6_plan_16 1 rfl rfl ?_
    refine z_iload dX6_plan_17 4 rfl ?_
    have hin1 := h.1
    have h := h.2
    refine z_aald' (ci := 12) (n := 6) (r := (38 + 14 * x4.toNatClampNeg)) dX6_plan_19 (lat hY rfl) (by decide) (lln hY rfl) hin1 (lbb5 hY (vin hin1)) (by omega) ?_
    refine z_aload_n dX6_plan_20 2 rfl rfl ?_
    refine zm_Si (As := [.ref (38 + 14 * x4.toNatClampNeg), .ref 4]) (rest := [.int x4, .ref 30]) dX6_plan_21 okX6_handlersOf smX6_handlersOf mk_X6_24 rfl rfl (Nat.le_of_ble_eq_true rfl) (by decide) hY (CM.monoi h fun r2 F2 A2 h => ?_)
    have hin3 := h.1
    have h := h.2
    refine z_iast' (n := 6) dX6_plan_24 (lat hY rfl) (lln hY rfl) hin3 ?_
    refine z_aload_n dX6_plan_25 0 rfl rfl ?_
    refine z_getr (k := 1) (fc := 241) (r := 31) dX6_plan_26 ckX6 (by decide) fk_X6_15 rfl rfl (lat hY rfl) (lgg hY rfl) (by decide) ?_
    refine z_iload dX6_plan_29 4 rfl ?_
    refine z_iconst (v := (-1)) dX6_plan_31 rfl ?_
    have hin4 := h.1
    have h := h.2
    refine z_iast' (n := 6) dX6_plan_32 (lat hY rfl) (lln hY rfl) hin4 ?_
    refine z_aload_n dX6_plan_33 0 rfl rfl ?_
    refine z_getr (k := 2) (fc := 242) (r := 32) dX6_plan_34 ckX6 (by decide) fk_X6_18 rfl rfl (lat hY rfl) (lgg hY rfl) (by decide) ?_
    refine z_iload dX6_plan_37 4 rfl ?_
    refine z_iconst (v := 0) dX6_plan_39 rfl ?_
    have hin5 := h.1
    have h := h.2
    refine z_iast' (n := 6) dX6_plan_40 (lat hY rfl) (lln hY rfl) hin5 ?_
    refine z_aload_n dX6_plan_41 0 rfl rfl ?_
    refine z_getr (k := 3) (fc := 243) (r := 33) dX6_plan_42 ckX6 (by decide) fk_X6_21 rfl rfl (lat hY rfl) (lgg hY rfl) (by decide) ?_
    refine z_iload dX6_plan_45 4 rfl ?_
    refine z_iconst (v := 0) dX6_plan_47 rfl ?_
    have hin6 := h.1
    have h := h.2
    refine z_iast' (n := 6) dX6_plan_48 (lat hY rfl) (lln hY rfl) hin6 ?_
    refine z_iinc (v := (x4 + 1)) (lv' := [(0, .ref 29), (1, .ref 5), (2, .ref 4), (3, .int x3), (4, .int (x4 + 1))]) dX6_plan_49 4 rfl rfl (by decide) rfl ?_
    refine z_goto (tgt := 3) dX6_plan_52 (by decide) ?_
    exact z_pick [0, 1, 2, 3, 4] rfl (h T G B hY)
set_option maxHeartbeats 4000000 in
set_option maxRecDepth 100000 in
theorem vX6_plan_61 {l : Launch} {w : Nat → Nat} {nb : Nat} {Q : PM} {x3 x4 x5 : Int32} {F A : MI}  (h : ((6 ≤ x5 → Q none F A) ∧ (¬ 6 ≤ x5 → ((¬ x4 = 0 → Q none F A) ∧ (x4 = 0 → CM l mX6_fitFrom 9 w nb [.ref 29, .int 0, .int x5, .int x3] F A (qi fun r1 F1 A1 => ZM l mX6_plan 10 w nb Q 61 [(0, .ref 29), (3, .int x3), (4, .int r1), (5, .int (x5 + 1))] [] F1 A1)))))) : ZM l mX6_plan 10 w nb Q 61 [(0, .ref 29), (3, .int x3), (4, .int x4), (5, .int x5)] [] F A := by
  intro T G B hY
  refine z_iload dX6_plan_61 3 rfl ?_
  refine z_bipush (v := 6) dX6_plan_63 rfl ?_
  refine z_icmp_ge (tgt := 89) dX6_plan_65 (by decide) (fun hb => ?_) (fun hb => ?_)
  · have h := h.1 hb
    exact z_vretM dX6_plan_89 rfl h
  · have h := h.2 hb
    refine z_iload dX6_plan_68 2 rfl ?_
    refine z_if_ne (tgt := 89) dX6_plan_70 (by decide) (fun hb => ?_) (fun hb => ?_)
    · have h := h.1 hb
      exact z_vretM dX6_plan_89 rfl h
    · have h := h.2 hb
      refine z_aload_n dX6_plan_73 0 rfl rfl ?_
      refine z_iconst (v := 0) dX6_plan_74 rfl ?_
      refine z_iload dX6_plan_75 3 rfl ?_
      refine z_iload_n dX6_plan_77 1 rfl rfl ?_
      refine zm_Si (As := [.ref 29, .int 0, .int x5, .int x3]) (rest := []) dX6_plan_78 okX6_fitFrom smX6_fitFrom mk_X6_28 rfl rfl (Nat.le_of_ble_eq_true rfl) (by decide) hY (CM.monoi h fun r1 F1 A1 h => ?_)
      refine z_istore (lv' := [(0, .ref 29), (3, .int x3), (4, .int r1), (5, .int x5)]) dX6_plan_81 (by decide) rfl ?_
      refine z_iinc (v := (x5 + 1)) (lv' := [(0, .ref 29), (3, .int x3), (4, .int r1), (5, .int (x5 + 1))]) dX6_plan_83 3 rfl rfl (by decide) rfl ?_
      refine z_goto (tgt := 61) dX6_plan_86 (by decide) ?_
      exact z_pick [0, 1, 2, 3] rfl (h T G B hY)
set_option maxHeartbeats 4000000 in
set_option maxRecDepth 100000 in
theorem vX7_count_0 {l : Launch} {w : Nat → Nat} {nb : Nat} {Q : PM} {x1 : Int32} {F A : MI}  (h : ((x1 < 10 → ZM l mX7_count 11 w nb Q 25 [(0, .ref 1), (1, .int x1)] [] F A) ∧ (¬ x1 < 10 → ((16 ≤ x1 → ZM l mX7_count 11 w nb Q 25 [(0, .ref 1), (1, .int x1)] [] F A) ∧ (¬ 16 ≤ x1 → (vp_in (x1 - 10) 6 ∧ Q (some (.int (F 161 (38 + 14 * (x1 - 10).toNatClampNeg)))) F A)))))) : ZM l mX7_count 11 w nb Q 0 [(0, .ref 1), (1, .int x1)] [] F A := by
  intro T G B hY
  refine z_iload_n dX7_count_0 1 rfl rfl ?_
  refine z_bipush (v := 10) dX7_count_1 rfl ?_
  refine z_icmp_lt (tgt := 25) dX7_count_3 (by decide) (fun hb => ?_) (fun hb => ?_)
  · have h := h.1 hb
    exact z_pick [0, 1] rfl (h T G B hY)
  · have h := h.2 hb
    refine z_iload_n dX7_count_6 1 rfl rfl ?_
    refine z_bipush (v := 16) dX7_count_7 rfl ?_
    refine z_icmp_ge (tgt := 25) dX7_count_9 (by decide) (fun hb => ?_) (fun hb => ?_)
    · have h := h.1 hb
      exact z_pick [0, 1] rfl (h T G B hY)
    · have h := h.2 hb
      refine z_aload_n dX7_count_12 0 rfl rfl ?_
      refine z_getr (k := 2) (fc := 282) (r := 5) dX7_count_13 ckX7 (by decide) fk_X7_24 rfl rfl (lat hY rfl) (lgg hY rfl) (by decide) ?_
      refine z_iload_n dX7_count_16 1 rfl rfl ?_
      refine z_bipush (v := 10) dX7_count_17 rfl ?_
      refine z_isub dX7_count_19 ?_
      have hin1 := h.1
      have h := h.2
      refine z_aald' (ci := 12) (n := 6) (r := (38 + 14 * (x1 - 10).toNatClampNeg)) dX7_count_20 (lat hY rfl) (by decide) (lln hY rfl) hin1 (lbb5 hY (vin hin1)) (by omega) ?_
      refine z_geti' (k := 1) (fc := 161) (x := (F 161 (38 + 14 * (x1 - 10).toNatClampNeg))) dX7_count_21 ckX4 (by decide) fk_X7_140 rfl rfl (lat4 hY (vin hin1)) rfl ?_
      exact z_iretM dX7_count_24 rfl h
theorem kX7_count {l : Launch} {w : Nat → Nat} {nb : Nat} {Q : PM} {x1 : Int32} {F A : MI}  (h : ((x1 < 10 → ZM l mX7_count 11 w nb Q 25 [(0, .ref 1), (1, .int x1)] [] F A) ∧ (¬ x1 < 10 → ((16 ≤ x1 → ZM l mX7_count 11 w nb Q 25 [(0, .ref 1), (1, .int x1)] [] F A) ∧ (¬ 16 ≤ x1 → (vp_in (x1 - 10) 6 ∧ Q (some (.int (F 161 (38 + 14 * (x1 - 10).toNatClampNeg)))) F A)))))) : CM l mX7_count 11 w nb [.ref 1, .int x1] F A Q := CM.ofZ (by decide) (fun _ _ => rfl) (fun _ _ => Nat.le_of_ble_eq_true rfl) (vX7_count_0  h)
set_option maxHeartbeats 4000000 in
set_option maxRecDepth 100000 in
theorem vX7_count_25 {l : Launch} {w : Nat → Nat} {nb : Nat} {Q : PM} {x1 : Int32} {F A : MI}  (h : ((x1 < 20 → ZM l mX7_count 11 w nb Q 50 [(0, .ref 1), (1, .int x1)] [] F A) ∧ (¬ x1 < 20 → ((26 ≤ x1 → ZM l mX7_count 11 w nb Q 50 [(0, .ref 1), (1, .int x1)] [] F A) ∧ (¬ 26 ≤ x1 → (vp_in (x1 - 20) 6 ∧ CM l mX4_countOrders 1 w nb [.ref (38 + 14 * (x1 - 20).toNatClampNeg)] F A (qi fun r2 F2 A2 => Q (some (.int r2)) F2 A2))))))) : ZM l mX7_count 11 w nb Q 25 [(0, .ref 1), (1, .int x1)] [] F A := by
  intro T G B hY
  refine z_iload_n dX7_count_25 1 rfl rfl ?_
  refine z_bipush (v := 20) dX7_count_26 rfl ?_
  refine z_icmp_lt (tgt := 50) dX7_count_28 (by decide) (fun hb => ?_) (fun hb => ?_)
  · have h := h.1 hb
    exact z_pick [0, 1] rfl (h T G B hY)
  · have h := h.2 hb
    refine z_iload_n dX7_count_31 1 rfl rfl ?_
    refine z_bipush (v := 26) dX7_count_32 rfl ?_
    refine z_icmp_ge (tgt := 50) dX7_count_34 (by decide) (fun hb => ?_) (fun hb => ?_)
    · have h := h.1 hb
      exact z_pick [0, 1] rfl (h T G B hY)
    · have h := h.2 hb
      refine z_aload_n dX7_count_37 0 rfl rfl ?_
      refine z_getr (k := 2) (fc := 282) (r := 5) dX7_count_38 ckX7 (by decide) fk_X7_24 rfl rfl (lat hY rfl) (lgg hY rfl) (by decide) ?_
      refine z_iload_n dX7_count_41 1 rfl rfl ?_
      refine z_bipush (v := 20) dX7_count_42 rfl ?_
      refine z_isub dX7_count_44 ?_
      have hin1 := h.1
      have h := h.2
      refine z_aald' (ci := 12) (n := 6) (r := (38 + 14 * (x1 - 20).toNatClampNeg)) dX7_count_45 (lat hY rfl) (by decide) (lln hY rfl) hin1 (lbb5 hY (vin hin1)) (by omega) ?_
      refine zm_Vi (As := []) (rest := []) dX7_count_46 okX4_countOrders ioX4_countOrders mk_X7_208 (ci := 4) rfl (by decide) (lat4 hY (vin hin1)) rfl rfl (Nat.le_of_ble_eq_true rfl) (by decide) hY (CM.monoi h fun r2 F2 A2 h => ?_)
      exact z_iretM dX7_count_49 rfl h
set_option maxHeartbeats 4000000 in
set_option maxRecDepth 100000 in
theorem vX7_count_50 {l : Launch} {w : Nat → Nat} {nb : Nat} {Q : PM} {x1 : Int32} {F A : MI}  (h : ((x1 = 0 → Q (some (.int (F 288 1))) F A) ∧ (x1 = 1 → Q (some (.int (F 289 1))) F A) ∧ (x1 = 2 → CM l mX5_length 1 w nb [.ref 2] F A (qi fun r1 F1 A1 => Q (some (.int r1)) F1 A1)) ∧ (x1 = 3 → CM l mX6_plan 10 w nb [.ref 29, .ref 5, .ref 4, .int (F 289 1)] F A (qv fun F2 A2 => CM l mX6_lastHour 2 w nb [.ref 29] F2 A2 (qi fun r3 F3 A3 => Q (some (.int r3)) F3 A3))) ∧ (¬ x1 = 0 → ¬ x1 = 1 → ¬ x1 = 2 → ¬ x1 = 3 → Q (some (.int (-1))) F A))) : ZM l mX7_count 11 w nb Q 50 [(0, .ref 1), (1, .int x1)] [] F A := by
  intro T G B hY
  refine z_iload_n dX7_count_50 1 rfl rfl ?_
  by_cases hb0 : x1 = 0
  · have h := h.1 hb0
    refine z_tableIn (off := 29) (tgt := 80) dX7_count_51 (by rw [hb0]; decide) (by rw [hb0]; decide) (by rw [hb0]; rfl) (by decide) ?_
    refine z_aload_n dX7_count_80 0 rfl rfl ?_
    refine z_geti' (k := 8) (fc := 288) (x := (F 288 1)) dX7_count_81 ckX7 (by decide) fk_X7_60 rfl rfl (lat hY rfl) rfl ?_
    exact z_iretM dX7_count_84 rfl h
  have h := h.2
  by_cases hb1 : x1 = 1
  · have h := h.1 hb1
    refine z_tableIn (off := 34) (tgt := 85) dX7_count_51 (by rw [hb1]; decide) (by rw [hb1]; decide) (by rw [hb1]; rfl) (by decide) ?_
    refine z_aload_n dX7_count_85 0 rfl rfl ?_
    refine z_geti' (k := 9) (fc := 289) (x := (F 289 1)) dX7_count_86 ckX7 (by decide) fk_X7_64 rfl rfl (lat hY rfl) rfl ?_
    exact z_iretM dX7_count_89 rfl h
  have h := h.2
  by_cases hb2 : x1 = 2
  · have h := h.1 hb2
    refine z_tableIn (off := 39) (tgt := 90) dX7_count_51 (by rw [hb2]; decide) (by rw [hb2]; decide) (by rw [hb2]; rfl) (by decide) ?_
    refine z_aload_n dX7_count_90 0 rfl rfl ?_
    refine z_getr (k := 0) (fc := 280) (r := 2) dX7_count_91 ckX7 (by decide) fk_X7_10 rfl rfl (lat hY rfl) (lgg hY rfl) (by decide) ?_
    refine zm_Vi (As := []) (rest := []) dX7_count_94 okX5_length ioX5_length mk_X7_76 (ci := 5) rfl (by decide) (lat hY rfl) rfl rfl (Nat.le_of_ble_eq_true rfl) (by decide) hY (CM.monoi h fun r1 F1 A1 h => ?_)
    exact z_iretM dX7_count_97 rfl h
  have h := h.2
  by_cases hb3 : x1 = 3
  · have h := h.1 hb3
    refine z_tableIn (off := 47) (tgt := 98) dX7_count_51 (by rw [hb3]; decide) (by rw [hb3]; decide) (by rw [hb3]; rfl) (by decide) ?_
    refine z_aload_n dX7_count_98 0 rfl rfl ?_
    refine z_getr (k := 5) (fc := 285) (r := 29) dX7_count_99 ckX7 (by decide) fk_X7_42 rfl rfl (lat hY rfl) (lgg hY rfl) (by decide) ?_
    refine z_aload_n dX7_count_102 0 rfl rfl ?_
    refine z_getr (k := 2) (fc := 282) (r := 5) dX7_count_103 ckX7 (by decide) fk_X7_24 rfl rfl (lat hY rfl) (lgg hY rfl) (by decide) ?_
    refine z_aload_n dX7_count_106 0 rfl rfl ?_
    refine z_getr (k := 1) (fc := 281) (r := 4) dX7_count_107 ckX7 (by decide) fk_X7_18 rfl rfl (lat hY rfl) (lgg hY rfl) (by decide) ?_
    refine z_aload_n dX7_count_110 0 rfl rfl ?_
    refine z_geti' (k := 9) (fc := 289) (x := (F 289 1)) dX7_count_111 ckX7 (by decide) fk_X7_64 rfl rfl (lat hY rfl) rfl ?_
    refine zm_Vv (As := [.ref 5, .ref 4, .int (F 289 1)]) (rest := []) dX7_count_114 okX6_plan ioX6_plan mk_X7_179 (ci := 6) rfl (by decide) (lat hY rfl) rfl rfl (Nat.le_of_ble_eq_true rfl) (by decide) hY (CM.monov h fun F2 A2 h => ?_)
    refine z_aload_n dX7_count_117 0 rfl rfl ?_
    refine z_getr (k := 5) (fc := 285) (r := 29) dX7_count_118 ckX7 (by decide) fk_X7_42 rfl rfl (lat hY rfl) (lgg hY rfl) (by decide) ?_
    refine zm_Vi (As := []) (rest := []) dX7_count_121 okX6_lastHour ioX6_lastHour mk_X7_211 (ci := 6) rfl (by decide) (lat hY rfl) rfl rfl (Nat.le_of_ble_eq_true rfl) (by decide) hY (CM.monoi h fun r3 F3 A3 h => ?_)
    exact z_iretM dX7_count_124 rfl h
  have h := h.2
  refine z_tableOut (tgt := 125) dX7_count_51 (by have := i_ne (n := 0) hb0 (by decide); have := i_ne (n := 1) hb1 (by decide); have := i_ne (n := 2) hb2 (by decide); have := i_ne (n := 3) hb3 (by decide); omega) (by decide) ?_
  have h := h hb0 hb1 hb2 hb3
  refine z_iconst (v := (-1)) dX7_count_125 rfl ?_
  exact z_iretM dX7_count_126 rfl h
set_option maxHeartbeats 4000000 in
set_option maxRecDepth 100000 in
theorem vX7_hour_0 {l : Launch} {w : Nat → Nat} {nb : Nat} {Q : PM} {x1 : Int32} {F A : MI}  (h : CM l mX7_isBelow 1 w nb [.int x1, .int 6] F A (qi fun r1 F1 A1 => ((¬ r1 = 0 → CM l mX6_plan 10 w nb [.ref 29, .ref 5, .ref 4, .int (F1 289 1)] F1 A1 (qv fun F2 A2 => (vp_in x1 6 ∧ Q (some (.int (A2 31 x1.toNatClampNeg))) F2 A2))) ∧ (r1 = 0 → Q (some (.int (-1))) F1 A1)))) : ZM l mX7_hour 11 w nb Q 0 [(0, .ref 1), (1, .int x1)] [] F A := by
  intro T G B hY
  refine z_iload_n dX7_hour_0 1 rfl rfl ?_
  refine z_bipush (v := 6) dX7_hour_1 rfl ?_
  refine zm_Si (As := [.int x1, .int 6]) (rest := []) dX7_hour_3 okX7_isBelow smX7_isBelow mk_X7_102 rfl rfl (Nat.le_of_ble_eq_true rfl) (by decide) hY (CM.monoi h fun r1 F1 A1 h => ?_)
  refine z_if_ne (tgt := 11) dX7_hour_6 (by decide) (fun hb => ?_) (fun hb => ?_)
  · have h := h.1 hb
    refine z_aload_n dX7_hour_11 0 rfl rfl ?_
    refine z_getr (k := 5) (fc := 285) (r := 29) dX7_hour_12 ckX7 (by decide) fk_X7_42 rfl rfl (lat hY rfl) (lgg hY rfl) (by decide) ?_
    refine z_aload_n dX7_hour_15 0 rfl rfl ?_
    refine z_getr (k := 2) (fc := 282) (r := 5) dX7_hour_16 ckX7 (by decide) fk_X7_24 rfl rfl (lat hY rfl) (lgg hY rfl) (by decide) ?_
    refine z_aload_n dX7_hour_19 0 rfl rfl ?_
    refine z_getr (k := 1) (fc := 281) (r := 4) dX7_hour_20 ckX7 (by decide) fk_X7_18 rfl rfl (lat hY rfl) (lgg hY rfl) (by decide) ?_
    refine z_aload_n dX7_hour_23 0 rfl rfl ?_
    refine z_geti' (k := 9) (fc := 289) (x := (F1 289 1)) dX7_hour_24 ckX7 (by decide) fk_X7_64 rfl rfl (lat hY rfl) rfl ?_
    refine zm_Vv (As := [.ref 5, .ref 4, .int (F1 289 1)]) (rest := []) dX7_hour_27 okX6_plan ioX6_plan mk_X7_179 (ci := 6) rfl (by decide) (lat hY rfl) rfl rfl (Nat.le_of_ble_eq_true rfl) (by decide) hY (CM.monov h fun F2 A2 h => ?_)
    refine z_aload_n dX7_hour_30 0 rfl rfl ?_
    refine z_getr (k := 5) (fc := 285) (r := 29) dX7_hour_31 ckX7 (by decide) fk_X7_42 rfl rfl (lat hY rfl) (lgg hY rfl) (by decide) ?_
    refine z_getr (k := 1) (fc := 241) (r := 31) dX7_hour_34 ckX6 (by decide) fk_X7_183 rfl rfl (lat hY rfl) (lgg hY rfl) (by decide) ?_
    refine z_iload_n dX7_hour_37 1 rfl rfl ?_
    have hin3 := h.1
    have h := h.2
    refine z_iald' (n := 6) (x := (A2 31 x1.toNatClampNeg)) dX7_hour_38 (lat hY rfl) (lln hY rfl) hin3 rfl ?_
    exact z_iretM dX7_hour_39 rfl h
  · have h := h.2 hb
    refine z_iconst (v := (-1)) dX7_hour_9 rfl ?_
    exact z_iretM dX7_hour_10 rfl h
theorem kX7_hour {l : Launch} {w : Nat → Nat} {nb : Nat} {Q : PM} {x1 : Int32} {F A : MI}  (h : CM l mX7_isBelow 1 w nb [.int x1, .int 6] F A (qi fun r1 F1 A1 => ((¬ r1 = 0 → CM l mX6_plan 10 w nb [.ref 29, .ref 5, .ref 4, .int (F1 289 1)] F1 A1 (qv fun F2 A2 => (vp_in x1 6 ∧ Q (some (.int (A2 31 x1.toNatClampNeg))) F2 A2))) ∧ (r1 = 0 → Q (some (.int (-1))) F1 A1)))) : CM l mX7_hour 11 w nb [.ref 1, .int x1] F A Q := CM.ofZ (by decide) (fun _ _ => rfl) (fun _ _ => Nat.le_of_ble_eq_true rfl) (vX7_hour_0  h)
