set_option maxHeartbeats 4000000 in
set_option maxRecDepth 100000 in
theorem vX8_lays_123 {l : Launch} {w : Nat → Nat} {nb : Nat} {Q : PM} {x1 x2 x3 : Int32} {F A : MI}  (h : ((x3 = 0 → ZM l mX8_lays 2 w nb Q 90 [(0, .ref 122), (1, .int x1), (2, .int (x2 + 1))] [] F A) ∧ (¬ x3 = 0 → CM l mX8_isGood 1 w nb [.ref 122] F A (qi fun r1 F1 A1 => ((r1 = 0 → CM l mX8_isNext 1 w nb [.ref 122, .int x2] F1 A1 (qi fun r2 F2 A2 => ZM l mX8_lays 2 w nb Q 123 [(0, .ref 122), (1, .int x1), (2, .int x2), (3, .int r2)] [] F2 A2)) ∧ (¬ r1 = 0 → Q (some (.int x2)) F1 A1)))))) : ZM l mX8_lays 2 w nb Q 123 [(0, .ref 122), (1, .int x1), (2, .int x2), (3, .int x3)] [] F A := by
  intro T G B hY
  refine z_iload_n dX8_lays_123 3 rfl rfl ?_
  refine z_if_eq (tgt := 145) dX8_lays_124 (by decide) (fun hb => ?_) (fun hb => ?_)
  · have h := h.1 hb
    refine z_iinc (v := (x2 + 1)) (lv' := [(0, .ref 122), (1, .int x1), (2, .int (x2 + 1)), (3, .int x3)]) dX8_lays_145 2 rfl rfl (by decide) rfl ?_
    refine z_goto (tgt := 90) dX8_lays_148 (by decide) ?_
    exact z_pick [0, 1, 2] rfl (h T G B hY)
  · have h := h.2 hb
    refine z_aload_n dX8_lays_127 0 rfl rfl ?_
    refine zm_Vi (As := []) (rest := []) dX8_lays_128 okX8_isGood ioX8_isGood mk_X8_207 (ci := 8) rfl (by decide) (lat hY rfl) rfl rfl (Nat.le_of_ble_eq_true rfl) (by decide) hY (CM.monoi h fun r1 F1 A1 h => ?_)
    refine z_if_eq (tgt := 136) dX8_lays_131 (by decide) (fun hb => ?_) (fun hb => ?_)
    · have h := h.1 hb
      refine z_aload_n dX8_lays_136 0 rfl rfl ?_
      refine z_iload_n dX8_lays_137 2 rfl rfl ?_
      refine zm_Vi (As := [.int x2]) (rest := []) dX8_lays_138 okX8_isNext ioX8_isNext mk_X8_210 (ci := 8) rfl (by decide) (lat hY rfl) rfl rfl (Nat.le_of_ble_eq_true rfl) (by decide) hY (CM.monoi h fun r2 F2 A2 h => ?_)
      refine z_istore_n (lv' := [(0, .ref 122), (1, .int x1), (2, .int x2), (3, .int r2)]) dX8_lays_141 rfl (by decide) rfl ?_
      refine z_goto (tgt := 123) dX8_lays_142 (by decide) ?_
      exact z_pick [0, 1, 2, 3] rfl (h T G B hY)
    · have h := h.2 hb
      refine z_iload_n dX8_lays_134 2 rfl rfl ?_
      exact z_iretM dX8_lays_135 rfl h
set_option maxHeartbeats 4000000 in
set_option maxRecDepth 100000 in
theorem vX8_lays_76 {l : Launch} {w : Nat → Nat} {nb : Nat} {Q : PM} {x1 x2 x3 : Int32} {F A : MI}  (h : ZM l mX8_lays 2 w nb Q 38 [(0, .ref 122), (1, .int x1), (2, .int x2), (3, .int (x3 + 1))] [] F A) : ZM l mX8_lays 2 w nb Q 76 [(0, .ref 122), (1, .int x1), (2, .int x2), (3, .int x3)] [] F A := by
  intro T G B hY
  refine z_iinc (v := (x3 + 1)) (lv' := [(0, .ref 122), (1, .int x1), (2, .int x2), (3, .int (x3 + 1))]) dX8_lays_76 3 rfl rfl (by decide) rfl ?_
  refine z_goto (tgt := 38) dX8_lays_79 (by decide) ?_
  exact z_pick [0, 1, 2, 3] rfl (h T G B hY)
set_option maxHeartbeats 4000000 in
set_option maxRecDepth 100000 in
theorem vX8_must_0 {l : Launch} {w : Nat → Nat} {nb : Nat} {Q : PM} {x1 : Int32} {F A : MI}  (h : CM l mX8_here 1 w nb [.ref 122] F A (qi fun r1 F1 A1 => ((r1 = x1 → Q none (u2 F1 341 122 ((F1 341 122) + 1)) A1) ∧ (¬ r1 = x1 → CM l mX8_fails 1 w nb [.ref 122, .int 1, .int (F1 341 122)] F1 A1 (qv fun F2 A2 => Q none (u2 F2 341 122 ((F2 341 122) + 1)) A2))))) : ZM l mX8_must 2 w nb Q 0 [(0, .ref 122), (1, .int x1)] [] F A := by
  intro T G B hY
  refine z_aload_n dX8_must_0 0 rfl rfl ?_
  refine zm_Vi (As := []) (rest := []) dX8_must_1 okX8_here ioX8_here mk_X8_113 (ci := 8) rfl (by decide) (lat hY rfl) rfl rfl (Nat.le_of_ble_eq_true rfl) (by decide) hY (CM.monoi h fun r1 F1 A1 h => ?_)
  refine z_iload_n dX8_must_4 1 rfl rfl ?_
  refine z_icmp_eq (tgt := 17) dX8_must_5 (by decide) (fun hb => ?_) (fun hb => ?_)
  · have h := h.1 hb
    refine z_aload_n dX8_must_17 0 rfl rfl ?_
    refine z_dup dX8_must_18 ?_
    refine z_geti' (k := 21) (fc := 341) (x := (F1 341 122)) dX8_must_19 ckX8 (by decide) fk_X8_101 rfl rfl (lat hY rfl) rfl ?_
    refine z_iconst (v := 1) dX8_must_22 rfl ?_
    refine z_iadd dX8_must_23 ?_
    refine z_puti (k := 21) (fc := 341) dX8_must_24 ckX8 (by decide) fk_X8_101 rfl rfl rfl (lat hY rfl) ?_
    exact z_vretM dX8_must_27 rfl h
  · have h := h.2 hb
    refine z_aload_n dX8_must_8 0 rfl rfl ?_
    refine z_iconst (v := 1) dX8_must_9 rfl ?_
    refine z_aload_n dX8_must_10 0 rfl rfl ?_
    refine z_geti' (k := 21) (fc := 341) (x := (F1 341 122)) dX8_must_11 ckX8 (by decide) fk_X8_101 rfl rfl (lat hY rfl) rfl ?_
    refine zm_Vv (As := [.int 1, .int (F1 341 122)]) (rest := []) dX8_must_14 okX8_fails ioX8_fails mk_X8_121 (ci := 8) rfl (by decide) (lat hY rfl) rfl rfl (Nat.le_of_ble_eq_true rfl) (by decide) hY (CM.monov h fun F2 A2 h => ?_)
    refine z_aload_n dX8_must_17 0 rfl rfl ?_
    refine z_dup dX8_must_18 ?_
    refine z_geti' (k := 21) (fc := 341) (x := (F2 341 122)) dX8_must_19 ckX8 (by decide) fk_X8_101 rfl rfl (lat hY rfl) rfl ?_
    refine z_iconst (v := 1) dX8_must_22 rfl ?_
    refine z_iadd dX8_must_23 ?_
    refine z_puti (k := 21) (fc := 341) dX8_must_24 ckX8 (by decide) fk_X8_101 rfl rfl rfl (lat hY rfl) ?_
    exact z_vretM dX8_must_27 rfl h
theorem kX8_must {l : Launch} {w : Nat → Nat} {nb : Nat} {Q : PM} {x1 : Int32} {F A : MI}  (h : CM l mX8_here 1 w nb [.ref 122] F A (qi fun r1 F1 A1 => ((r1 = x1 → Q none (u2 F1 341 122 ((F1 341 122) + 1)) A1) ∧ (¬ r1 = x1 → CM l mX8_fails 1 w nb [.ref 122, .int 1, .int (F1 341 122)] F1 A1 (qv fun F2 A2 => Q none (u2 F2 341 122 ((F2 341 122) + 1)) A2))))) : CM l mX8_must 2 w nb [.ref 122, .int x1] F A Q := CM.ofZ (by decide) (fun _ _ => rfl) (fun _ _ => Nat.le_of_ble_eq_true rfl) (vX8_must_0  h)
set_option maxHeartbeats 4000000 in
set_option maxRecDepth 100000 in
theorem vX8_place_0 {l : Launch} {w : Nat → Nat} {nb : Nat} {Q : PM} {x1 : Int32} {F A : MI}  (h : CM l mX8_here 1 w nb [.ref 122] F A (qi fun r1 F1 A1 => CM l mX8_lies 1 w nb [.int ((r1 - 97) + 1), .int 1, .int 8] F1 A1 (qi fun r2 F2 A2 => ((¬ r2 = 0 → (((F2 345 122) < ((r1 - 97) + 1) → ZM l mX8_place 2 w nb Q 45 [(0, .ref 122), (2, .int ((r1 - 97) + 1))] [] F2 A2) ∧ (¬ (F2 345 122) < ((r1 - 97) + 1) → ((¬ ((r1 - 97) + 1) = x1 → Q (some (.int ((r1 - 97) + 1))) (u2 F2 341 122 ((F2 341 122) + 1)) A2) ∧ (((r1 - 97) + 1) = x1 → ZM l mX8_place 2 w nb Q 45 [(0, .ref 122), (2, .int ((r1 - 97) + 1))] [] F2 A2))))) ∧ (r2 = 0 → CM l mX8_fails 1 w nb [.ref 122, .int 1, .int (F2 341 122)] F2 A2 (qv fun F3 A3 => Q (some (.int ((r1 - 97) + 1))) (u2 F3 341 122 ((F3 341 122) + 1)) A3)))))) : ZM l mX8_place 2 w nb Q 0 [(0, .ref 122), (1, .int x1)] [] F A := by
  intro T G B hY
  refine z_aload_n dX8_place_0 0 rfl rfl ?_
  refine zm_Vi (As := []) (rest := []) dX8_place_1 okX8_here ioX8_here mk_X8_113 (ci := 8) rfl (by decide) (lat hY rfl) rfl rfl (Nat.le_of_ble_eq_true rfl) (by decide) hY (CM.monoi h fun r1 F1 A1 h => ?_)
  refine z_bipush (v := 97) dX8_place_4 rfl ?_
  refine z_isub dX8_place_6 ?_
  refine z_iconst (v := 1) dX8_place_7 rfl ?_
  refine z_iadd dX8_place_8 ?_
  refine z_istore_n (lv' := [(0, .ref 122), (1, .int x1), (2, .int ((r1 - 97) + 1))]) dX8_place_9 rfl (by decide) rfl ?_
  refine z_iload_n dX8_place_10 2 rfl rfl ?_
  refine z_iconst (v := 1) dX8_place_11 rfl ?_
  refine z_bipush (v := 8) dX8_place_12 rfl ?_
  refine zm_Si (As := [.int ((r1 - 97) + 1), .int 1, .int 8]) (rest := []) dX8_place_14 okX8_lies smX8_lies mk_X8_87 rfl rfl (Nat.le_of_ble_eq_true rfl) (by decide) hY (CM.monoi h fun r2 F2 A2 h => ?_)
  refine z_if_ne (tgt := 32) dX8_place_17 (by decide) (fun hb => ?_) (fun hb => ?_)
  · have h := h.1 hb
    refine z_iload_n dX8_place_32 2 rfl rfl ?_
    refine z_aload_n dX8_place_33 0 rfl rfl ?_
    refine z_geti' (k := 25) (fc := 345) (x := (F2 345 122)) dX8_place_34 ckX8 (by decide) fk_X8_176 rfl rfl (lat hY rfl) rfl ?_
    refine z_icmp_gt (tgt := 45) dX8_place_37 (by decide) (fun hb => ?_) (fun hb => ?_)
    · have h := h.1 hb
      exact z_pick [0, 2] rfl (h T G B hY)
    · have h := h.2 hb
      refine z_iload_n dX8_place_40 2 rfl rfl ?_
      refine z_iload_n dX8_place_41 1 rfl rfl ?_
      refine z_icmp_ne (tgt := 54) dX8_place_42 (by decide) (fun hb => ?_) (fun hb => ?_)
      · have h := h.1 hb
        refine z_aload_n dX8_place_54 0 rfl rfl ?_
        refine z_dup dX8_place_55 ?_
        refine z_geti' (k := 21) (fc := 341) (x := (F2 341 122)) dX8_place_56 ckX8 (by decide) fk_X8_101 rfl rfl (lat hY rfl) rfl ?_
        refine z_iconst (v := 1) dX8_place_59 rfl ?_
        refine z_iadd dX8_place_60 ?_
        refine z_puti (k := 21) (fc := 341) dX8_place_61 ckX8 (by decide) fk_X8_101 rfl rfl rfl (lat hY rfl) ?_
        refine z_iload_n dX8_place_64 2 rfl rfl ?_
        exact z_iretM dX8_place_65 rfl h
      · have h := h.2 hb
        exact z_pick [0, 2] rfl (h T G B hY)
  · have h := h.2 hb
    refine z_aload_n dX8_place_20 0 rfl rfl ?_
    refine z_iconst (v := 1) dX8_place_21 rfl ?_
    refine z_aload_n dX8_place_22 0 rfl rfl ?_
    refine z_geti' (k := 21) (fc := 341) (x := (F2 341 122)) dX8_place_23 ckX8 (by decide) fk_X8_101 rfl rfl (lat hY rfl) rfl ?_
    refine zm_Vv (As := [.int 1, .int (F2 341 122)]) (rest := []) dX8_place_26 okX8_fails ioX8_fails mk_X8_121 (ci := 8) rfl (by decide) (lat hY rfl) rfl rfl (Nat.le_of_ble_eq_true rfl) (by decide) hY (CM.monov h fun F3 A3 h => ?_)
    refine z_goto (tgt := 54) dX8_place_29 (by decide) ?_
    refine z_aload_n dX8_place_54 0 rfl rfl ?_
    refine z_dup dX8_place_55 ?_
    refine z_geti' (k := 21) (fc := 341) (x := (F3 341 122)) dX8_place_56 ckX8 (by decide) fk_X8_101 rfl rfl (lat hY rfl) rfl ?_
    refine z_iconst (v := 1) dX8_place_59 rfl ?_
    refine z_iadd dX8_place_60 ?_
    refine z_puti (k := 21) (fc := 341) dX8_place_61 ckX8 (by decide) fk_X8_101 rfl rfl rfl (lat hY rfl) ?_
    refine z_iload_n dX8_place_64 2 rfl rfl ?_
    exact z_iretM dX8_place_65 rfl h
theorem kX8_place {l : Launch} {w : Nat → Nat} {nb : Nat} {Q : PM} {x1 : Int32} {F A : MI}  (h : CM l mX8_here 1 w nb [.ref 122] F A (qi fun r1 F1 A1 => CM l mX8_lies 1 w nb [.int ((r1 - 97) + 1), .int 1, .int 8] F1 A1 (qi fun r2 F2 A2 => ((¬ r2 = 0 → (((F2 345 122) < ((r1 - 97) + 1) → ZM l mX8_place 2 w nb Q 45 [(0, .ref 122), (2, .int ((r1 - 97) + 1))] [] F2 A2) ∧ (¬ (F2 345 122) < ((r1 - 97) + 1) → ((¬ ((r1 - 97) + 1) = x1 → Q (some (.int ((r1 - 97) + 1))) (u2 F2 341 122 ((F2 341 122) + 1)) A2) ∧ (((r1 - 97) + 1) = x1 → ZM l mX8_place 2 w nb Q 45 [(0, .ref 122), (2, .int ((r1 - 97) + 1))] [] F2 A2))))) ∧ (r2 = 0 → CM l mX8_fails 1 w nb [.ref 122, .int 1, .int (F2 341 122)] F2 A2 (qv fun F3 A3 => Q (some (.int ((r1 - 97) + 1))) (u2 F3 341 122 ((F3 341 122) + 1)) A3)))))) : CM l mX8_place 2 w nb [.ref 122, .int x1] F A Q := CM.ofZ (by decide) (fun _ _ => rfl) (fun _ _ => Nat.le_of_ble_eq_true rfl) (vX8_place_0  h)
set_option maxHeartbeats 4000000 in
set_option maxRecDepth 100000 in
theorem vX8_place_45 {l : Launch} {w : Nat → Nat} {nb : Nat} {Q : PM} {x2 : Int32} {F A : MI}  (h : CM l mX8_fails 1 w nb [.ref 122, .int 2, .int (F 341 122)] F A (qv fun F1 A1 => Q (some (.int x2)) (u2 F1 341 122 ((F1 341 122) + 1)) A1)) : ZM l mX8_place 2 w nb Q 45 [(0, .ref 122), (2, .int x2)] [] F A := by
  intro T G B hY
  refine z_aload_n dX8_place_45 0 rfl rfl ?_
  refine z_iconst (v := 2) dX8_place_46 rfl ?_
  refine z_aload_n dX8_place_47 0 rfl rfl ?_
  refine z_geti' (k := 21) (fc := 341) (x := (F 341 122)) dX8_place_48 ckX8 (by decide) fk_X8_101 rfl rfl (lat hY rfl) rfl ?_
  refine zm_Vv (As := [.int 2, .int (F 341 122)]) (rest := []) dX8_place_51 okX8_fails ioX8_fails mk_X8_121 (ci := 8) rfl (by decide) (lat hY rfl) rfl rfl (Nat.le_of_ble_eq_true rfl) (by decide) hY (CM.monov h fun F1 A1 h => ?_)
  refine z_aload_n dX8_place_54 0 rfl rfl ?_
  refine z_dup dX8_place_55 ?_
  refine z_geti' (k := 21) (fc := 341) (x := (F1 341 122)) dX8_place_56 ckX8 (by decide) fk_X8_101 rfl rfl (lat hY rfl) rfl ?_
  refine z_iconst (v := 1) dX8_place_59 rfl ?_
  refine z_iadd dX8_place_60 ?_
  refine z_puti (k := 21) (fc := 341) dX8_place_61 ckX8 (by decide) fk_X8_101 rfl rfl rfl (lat hY rfl) ?_
  refine z_iload_n dX8_place_64 1 rfl rfl ?_
  exact z_iretM dX8_place_65 rfl h
set_option maxHeartbeats 4000000 in
set_option maxRecDepth 100000 in
theorem vX8_sand_0 {l : Launch} {w : Nat → Nat} {nb : Nat} {Q : PM} {x1 : Int32} {F A : MI}  (h : CM l mX8_lies 1 w nb [.int x1, .int 1, .int 3] F A (qi fun r1 F1 A1 => ((¬ r1 = 0 → Q (some (.int 1)) (u2 F1 323 122 x1) A1) ∧ (r1 = 0 → Q (some (.int 0)) F1 A1)))) : ZM l mX8_sand 2 w nb Q 0 [(0, .ref 122), (1, .int x1)] [] F A := by
  intro T G B hY
  refine z_iload_n dX8_sand_0 1 rfl rfl ?_
  refine z_iconst (v := 1) dX8_sand_1 rfl ?_
  refine z_iconst (v := 3) dX8_sand_2 rfl ?_
  refine zm_Si (As := [.int x1, .int 1, .int 3]) (rest := []) dX8_sand_3 okX8_lies smX8_lies mk_X8_87 rfl rfl (Nat.le_of_ble_eq_true rfl) (by decide) hY (CM.monoi h fun r1 F1 A1 h => ?_)
  refine z_if_ne (tgt := 11) dX8_sand_6 (by decide) (fun hb => ?_) (fun hb => ?_)
  · have h := h.1 hb
    refine z_aload_n dX8_sand_11 0 rfl rfl ?_
    refine z_iload_n dX8_sand_12 1 rfl rfl ?_
    refine z_puti (k := 3) (fc := 323) dX8_sand_13 ckX8 (by decide) fk_X8_13 rfl rfl rfl (lat hY rfl) ?_
    refine z_iconst (v := 1) dX8_sand_16 rfl ?_
    exact z_zretM dX8_sand_17 rfl (by decide) h
  · have h := h.2 hb
    refine z_iconst (v := 0) dX8_sand_9 rfl ?_
    exact z_zretM dX8_sand_10 rfl (by decide) h
theorem kX8_sand {l : Launch} {w : Nat → Nat} {nb : Nat} {Q : PM} {x1 : Int32} {F A : MI}  (h : CM l mX8_lies 1 w nb [.int x1, .int 1, .int 3] F A (qi fun r1 F1 A1 => ((¬ r1 = 0 → Q (some (.int 1)) (u2 F1 323 122 x1) A1) ∧ (r1 = 0 → Q (some (.int 0)) F1 A1)))) : CM l mX8_sand 2 w nb [.ref 122, .int x1] F A Q := CM.ofZ (by decide) (fun _ _ => rfl) (fun _ _ => Nat.le_of_ble_eq_true rfl) (vX8_sand_0  h)
set_option maxHeartbeats 4000000 in
set_option maxRecDepth 100000 in
theorem vX8_seesDigit_0 {l : Launch} {w : Nat → Nat} {nb : Nat} {Q : PM} {F A : MI}  (h : CM l mX8_here 1 w nb [.ref 122] F A (qi fun r1 F1 A1 => CM l mX8_lies 1 w nb [.int r1, .int 48, .int 57] F1 A1 (qi fun r2 F2 A2 => ((r2 = 0 ∨ r2 = 1) ∧ Q (some (.int r2)) F2 A2)))) : ZM l mX8_seesDigit 2 w nb Q 0 [(0, .ref 122)] [] F A := by
  intro T G B hY
  refine z_aload_n dX8_seesDigit_0 0 rfl rfl ?_
  refine zm_Vi (As := []) (rest := []) dX8_seesDigit_1 okX8_here ioX8_here mk_X8_113 (ci := 8) rfl (by decide) (lat hY rfl) rfl rfl (Nat.le_of_ble_eq_true rfl) (by decide) hY (CM.monoi h fun r1 F1 A1 h => ?_)
  refine z_bipush (v := 48) dX8_seesDigit_4 rfl ?_
  refine z_bipush (v := 57) dX8_seesDigit_6 rfl ?_
  refine zm_Si (As := [.int r1, .int 48, .int 57]) (rest := []) dX8_seesDigit_8 okX8_lies smX8_lies mk_X8_87 rfl rfl (Nat.le_of_ble_eq_true rfl) (by decide) hY (CM.monoi h fun r2 F2 A2 h => ?_)
  exact z_zretM dX8_seesDigit_11 rfl h.1 h.2
theorem kX8_seesDigit {l : Launch} {w : Nat → Nat} {nb : Nat} {Q : PM} {F A : MI}  (h : CM l mX8_here 1 w nb [.ref 122] F A (qi fun r1 F1 A1 => CM l mX8_lies 1 w nb [.int r1, .int 48, .int 57] F1 A1 (qi fun r2 F2 A2 => ((r2 = 0 ∨ r2 = 1) ∧ Q (some (.int r2)) F2 A2)))) : CM l mX8_seesDigit 2 w nb [.ref 122] F A Q := CM.ofZ (by decide) (fun _ _ => rfl) (fun _ _ => Nat.le_of_ble_eq_true rfl) (vX8_seesDigit_0  h)
set_option maxHeartbeats 4000000 in
set_option maxRecDepth 100000 in
theorem vX8_bar_0 {l : Launch} {w : Nat → Nat} {nb : Nat} {Q : PM} {x1 x2 : Int32} {F A : MI}  (h : CM l mX8_lies 1 w nb [.int x1, .int 0, .int 5] F A (qi fun r1 F1 A1 => ((r1 = 0 → Q (some (.int 0)) F1 A1) ∧ (¬ r1 = 0 → CM l mX8_isBeast 2 w nb [.ref 122, .int x2] F1 A1 (qi fun r2 F2 A2 => ((r2 = 0 → Q (some (.int 0)) F2 A2) ∧ (¬ r2 = 0 → (vp_in x1 6 ∧ CM l mX8_has 1 w nb [.int (A2 136 x1.toNatClampNeg), .int x2] F2 A2 (qi fun r4 F4 A4 => ((r4 = 0 → (vp_in x1 6 ∧ (vp_in x1 6 ∧ Q (some (.int 1)) F4 (u2 A4 136 x1.toNatClampNeg ((A4 136 x1.toNatClampNeg) ||| (1 <<< (x2 &&& 31))))))) ∧ (¬ r4 = 0 → Q (some (.int 0)) F4 A4))))))))))) : ZM l mX8_bar 3 w nb Q 0 [(0, .ref 122), (1, .int x1), (2, .int x2)] [] F A := by
  intro T G B hY
  refine z_iload_n dX8_bar_0 1 rfl rfl ?_
  refine z_iconst (v := 0) dX8_bar_1 rfl ?_
  refine z_iconst (v := 5) dX8_bar_2 rfl ?_
  refine zm_Si (As := [.int x1, .int 0, .int 5]) (rest := []) dX8_bar_3 okX8_lies smX8_lies mk_X8_87 rfl rfl (Nat.le_of_ble_eq_true rfl) (by decide) hY (CM.monoi h fun r1 F1 A1 h => ?_)
  refine z_if_eq (tgt := 30) dX8_bar_6 (by decide) (fun hb => ?_) (fun hb => ?_)
  · have h := h.1 hb
    refine z_iconst (v := 0) dX8_bar_30 rfl ?_
    exact z_zretM dX8_bar_31 rfl (by decide) h
  · have h := h.2 hb
    refine z_aload_n dX8_bar_9 0 rfl rfl ?_
    refine z_iload_n dX8_bar_10 2 rfl rfl ?_
    refine zm_Vi (As := [.int x2]) (rest := []) dX8_bar_11 okX8_isBeast ioX8_isBeast mk_X8_149 (ci := 8) rfl (by decide) (lat hY rfl) rfl rfl (Nat.le_of_ble_eq_true rfl) (by decide) hY (CM.monoi h fun r2 F2 A2 h => ?_)
    refine z_if_eq (tgt := 30) dX8_bar_14 (by decide) (fun hb => ?_) (fun hb => ?_)
    · have h := h.1 hb
      refine z_iconst (v := 0) dX8_bar_30 rfl ?_
      exact z_zretM dX8_bar_31 rfl (by decide) h
    · have h := h.2 hb
      refine z_aload_n dX8_bar_17 0 rfl rfl ?_
      refine z_getr (k := 17) (fc := 337) (r := 136) dX8_bar_18 ckX8 (by decide) fk_X8_54 rfl rfl (lat hY rfl) (lgg hY rfl) (by decide) ?_
      refine z_iload_n dX8_bar_21 1 rfl rfl ?_
      have hin3 := h.1
      have h := h.2
      refine z_iald' (n := 6) (x := (A2 136 x1.toNatClampNeg)) dX8_bar_22 (lat hY rfl) (lln hY rfl) hin3 rfl ?_
      refine z_iload_n dX8_bar_23 2 rfl rfl ?_
      refine zm_Si (As := [.int (A2 136 x1.toNatClampNeg), .int x2]) (rest := []) dX8_bar_24 okX8_has smX8_has mk_X8_152 rfl rfl (Nat.le_of_ble_eq_true rfl) (by decide) hY (CM.monoi h fun r4 F4 A4 h => ?_)
      refine z_if_eq (tgt := 32) dX8_bar_27 (by decide) (fun hb => ?_) (fun hb => ?_)
      · have h := h.1 hb
        refine z_aload_n dX8_bar_32 0 rfl rfl ?_
        refine z_getr (k := 17) (fc := 337) (r := 136) dX8_bar_33 ckX8 (by decide) fk_X8_54 rfl rfl (lat hY rfl) (lgg hY rfl) (by decide) ?_
        refine z_iload_n dX8_bar_36 1 rfl rfl ?_
        refine z_dup2 dX8_bar_37 ?_
        have hin5 := h.1
        have h := h.2
        refine z_iald' (n := 6) (x := (A4 136 x1.toNatClampNeg)) dX8_bar_38 (lat hY rfl) (lln hY rfl) hin5 rfl ?_
        refine z_iconst (v := 1) dX8_bar_39 rfl ?_
        refine z_iload_n dX8_bar_40 2 rfl rfl ?_
        refine z_ishl dX8_bar_41 ?_
        refine z_ior dX8_bar_42 ?_
        have hin6 := h.1
        have h := h.2
        refine z_iast' (n := 6) dX8_bar_43 (lat hY rfl) (lln hY rfl) hin6 ?_
        refine z_iconst (v := 1) dX8_bar_44 rfl ?_
        exact z_zretM dX8_bar_45 rfl (by decide) h
      · have h := h.2 hb
        refine z_iconst (v := 0) dX8_bar_30 rfl ?_
        exact z_zretM dX8_bar_31 rfl (by decide) h
theorem kX8_bar {l : Launch} {w : Nat → Nat} {nb : Nat} {Q : PM} {x1 x2 : Int32} {F A : MI}  (h : CM l mX8_lies 1 w nb [.int x1, .int 0, .int 5] F A (qi fun r1 F1 A1 => ((r1 = 0 → Q (some (.int 0)) F1 A1) ∧ (¬ r1 = 0 → CM l mX8_isBeast 2 w nb [.ref 122, .int x2] F1 A1 (qi fun r2 F2 A2 => ((r2 = 0 → Q (some (.int 0)) F2 A2) ∧ (¬ r2 = 0 → (vp_in x1 6 ∧ CM l mX8_has 1 w nb [.int (A2 136 x1.toNatClampNeg), .int x2] F2 A2 (qi fun r4 F4 A4 => ((r4 = 0 → (vp_in x1 6 ∧ (vp_in x1 6 ∧ Q (some (.int 1)) F4 (u2 A4 136 x1.toNatClampNeg ((A4 136 x1.toNatClampNeg) ||| (1 <<< (x2 &&& 31))))))) ∧ (¬ r4 = 0 → Q (some (.int 0)) F4 A4))))))))))) : CM l mX8_bar 3 w nb [.ref 122, .int x1, .int x2] F A Q := CM.ofZ (by decide) (fun _ _ => rfl) (fun _ _ => Nat.le_of_ble_eq_true rfl) (vX8_bar_0  h)
set_option maxHeartbeats 4000000 in
set_option maxRecDepth 100000 in
theorem vX8_breeds_0 {l : Launch} {w : Nat → Nat} {nb : Nat} {Q : PM} {F A : MI}  (h : CM l mX8_seesDigit 2 w nb [.ref 122] F A (qi fun r1 F1 A1 => ((¬ r1 = 0 → ZM l mX8_breeds 3 w nb Q 23 [(0, .ref 122), (1, .int (F 341 122)), (2, .int 0)] [] F1 A1) ∧ (r1 = 0 → CM l mX8_fails 1 w nb [.ref 122, .int 1, .int (F1 341 122)] F1 A1 (qv fun F2 A2 => ZM l mX8_breeds 3 w nb Q 23 [(0, .ref 122), (1, .int (F 341 122)), (2, .int 0)] [] F2 A2))))) : ZM l mX8_breeds 3 w nb Q 0 [(0, .ref 122)] [] F A := by
  intro T G B hY
  refine z_aload_n dX8_breeds_0 0 rfl rfl ?_
  refine z_geti' (k := 21) (fc := 341) (x := (F 341 122)) dX8_breeds_1 ckX8 (by decide) fk_X8_101 rfl rfl (lat hY rfl) rfl ?_
  refine z_istore_n (lv' := [(0, .ref 122), (1, .int (F 341 122))]) dX8_breeds_4 rfl (by decide) rfl ?_
  refine z_iconst (v := 0) dX8_breeds_5 rfl ?_
  refine z_istore_n (lv' := [(0, .ref 122), (1, .int (F 341 122)), (2, .int 0)]) dX8_breeds_6 rfl (by decide) rfl ?_
  refine z_aload_n dX8_breeds_7 0 rfl rfl ?_
  refine zm_Vi (As := []) (rest := []) dX8_breeds_8 okX8_seesDigit ioX8_seesDigit mk_X8_117 (ci := 8) rfl (by decide) (lat hY rfl) rfl rfl (Nat.le_of_ble_eq_true rfl) (by decide) hY (CM.monoi h fun r1 F1 A1 h => ?_)
  refine z_if_ne (tgt := 23) dX8_breeds_11 (by decide) (fun hb => ?_) (fun hb => ?_)
  · have h := h.1 hb
    exact z_pick [0, 1, 2] rfl (h T G B hY)
  · have h := h.2 hb
    refine z_aload_n dX8_breeds_14 0 rfl rfl ?_
    refine z_iconst (v := 1) dX8_breeds_15 rfl ?_
    refine z_aload_n dX8_breeds_16 0 rfl rfl ?_
    refine z_geti' (k := 21) (fc := 341) (x := (F1 341 122)) dX8_breeds_17 ckX8 (by decide) fk_X8_101 rfl rfl (lat hY rfl) rfl ?_
    refine zm_Vv (As := [.int 1, .int (F1 341 122)]) (rest := []) dX8_breeds_20 okX8_fails ioX8_fails mk_X8_121 (ci := 8) rfl (by decide) (lat hY rfl) rfl rfl (Nat.le_of_ble_eq_true rfl) (by decide) hY (CM.monov h fun F2 A2 h => ?_)
    exact z_pick [0, 1, 2] rfl (h T G B hY)
theorem kX8_breeds {l : Launch} {w : Nat → Nat} {nb : Nat} {Q : PM} {F A : MI}  (h : CM l mX8_seesDigit 2 w nb [.ref 122] F A (qi fun r1 F1 A1 => ((¬ r1 = 0 → ZM l mX8_breeds 3 w nb Q 23 [(0, .ref 122), (1, .int (F 341 122)), (2, .int 0)] [] F1 A1) ∧ (r1 = 0 → CM l mX8_fails 1 w nb [.ref 122, .int 1, .int (F1 341 122)] F1 A1 (qv fun F2 A2 => ZM l mX8_breeds 3 w nb Q 23 [(0, .ref 122), (1, .int (F 341 122)), (2, .int 0)] [] F2 A2))))) : CM l mX8_breeds 3 w nb [.ref 122] F A Q := CM.ofZ (by decide) (fun _ _ => rfl) (fun _ _ => Nat.le_of_ble_eq_true rfl) (vX8_breeds_0  h)
set_option maxHeartbeats 4000000 in
set_option maxRecDepth 100000 in
theorem vX8_breeds_23 {l : Launch} {w : Nat → Nat} {nb : Nat} {Q : PM} {x1 x2 : Int32} {F A : MI}  (h : ((¬ (F 343 122) = 0 → ZM l mX8_breeds 3 w nb Q 97 [(0, .ref 122), (2, .int x2)] [] F A) ∧ ((F 343 122) = 0 → CM l mX8_seesDigit 2 w nb [.ref 122] F A (qi fun r1 F1 A1 => ((r1 = 0 → ZM l mX8_breeds 3 w nb Q 97 [(0, .ref 122), (2, .int x2)] [] F1 A1) ∧ (¬ r1 = 0 → CM l mX8_here 1 w nb [.ref 122] F1 A1 (qi fun r2 F2 A2 => ((¬ (F2 341 122) = (x1 + 4) → ZM l mX8_breeds 3 w nb Q 64 [(0, .ref 122), (1, .int x1), (2, .int x2), (3, .int (r2 - 48))] [] F2 A2) ∧ ((F2 341 122) = (x1 + 4) → CM l mX8_fails 1 w nb [.ref 122, .int 1, .int (F2 341 122)] F2 A2 (qv fun F3 A3 => ZM l mX8_breeds 3 w nb Q 64 [(0, .ref 122), (1, .int x1), (2, .int x2), (3, .int (r2 - 48))] [] F3 A3)))))))))) : ZM l mX8_breeds 3 w nb Q 23 [(0, .ref 122), (1, .int x1), (2, .int x2)] [] F A := by
  intro T G B hY
  refine z_aload_n dX8_breeds_23 0 rfl rfl ?_
  refine z_geti' (k := 23) (fc := 343) (x := (F 343 122)) dX8_breeds_24 ckX8 (by decide) fk_X8_107 rfl rfl (lat hY rfl) rfl ?_
  refine z_if_ne (tgt := 97) dX8_breeds_27 (by decide) (fun hb => ?_) (fun hb => ?_)
  · have h := h.1 hb
    exact z_pick [0, 2] rfl (h T G B hY)
  · have h := h.2 hb
    refine z_aload_n dX8_breeds_30 0 rfl rfl ?_
    refine zm_Vi (As := []) (rest := []) dX8_breeds_31 okX8_seesDigit ioX8_seesDigit mk_X8_117 (ci := 8) rfl (by decide) (lat hY rfl) rfl rfl (Nat.le_of_ble_eq_true rfl) (by decide) hY (CM.monoi h fun r1 F1 A1 h => ?_)
    refine z_if_eq (tgt := 97) dX8_breeds_34 (by decide) (fun hb => ?_) (fun hb => ?_)
    · have h := h.1 hb
      exact z_pick [0, 2] rfl (h T G B hY)
    · have h := h.2 hb
      refine z_aload_n dX8_breeds_37 0 rfl rfl ?_
      refine zm_Vi (As := []) (rest := []) dX8_breeds_38 okX8_here ioX8_here mk_X8_113 (ci := 8) rfl (by decide) (lat hY rfl) rfl rfl (Nat.le_of_ble_eq_true rfl) (by decide) hY (CM.monoi h fun r2 F2 A2 h => ?_)
      refine z_bipush (v := 48) dX8_breeds_41 rfl ?_
      refine z_isub dX8_breeds_43 ?_
      refine z_istore_n (lv' := [(0, .ref 122), (1, .int x1), (2, .int x2), (3, .int (r2 - 48))]) dX8_breeds_44 rfl (by decide) rfl ?_
      refine z_aload_n dX8_breeds_45 0 rfl rfl ?_
      refine z_geti' (k := 21) (fc := 341) (x := (F2 341 122)) dX8_breeds_46 ckX8 (by decide) fk_X8_101 rfl rfl (lat hY rfl) rfl ?_
      refine z_iload_n dX8_breeds_49 1 rfl rfl ?_
      refine z_iconst (v := 4) dX8_breeds_50 rfl ?_
      refine z_iadd dX8_breeds_51 ?_
      refine z_icmp_ne (tgt := 64) dX8_breeds_52 (by decide) (fun hb => ?_) (fun hb => ?_)
      · have h := h.1 hb
        exact z_pick [0, 1, 2, 3] rfl (h T G B hY)
      · have h := h.2 hb
        refine z_aload_n dX8_breeds_55 0 rfl rfl ?_
        refine z_iconst (v := 1) dX8_breeds_56 rfl ?_
        refine z_aload_n dX8_breeds_57 0 rfl rfl ?_
        refine z_geti' (k := 21) (fc := 341) (x := (F2 341 122)) dX8_breeds_58 ckX8 (by decide) fk_X8_101 rfl rfl (lat hY rfl) rfl ?_
        refine zm_Vv (As := [.int 1, .int (F2 341 122)]) (rest := []) dX8_breeds_61 okX8_fails ioX8_fails mk_X8_121 (ci := 8) rfl (by decide) (lat hY rfl) rfl rfl (Nat.le_of_ble_eq_true rfl) (by decide) hY (CM.monov h fun F3 A3 h => ?_)
        exact z_pick [0, 1, 2, 3] rfl (h T G B hY)
set_option maxHeartbeats 4000000 in
set_option maxRecDepth 100000 in
theorem vX8_breeds_97 {l : Launch} {w : Nat → Nat} {nb : Nat} {Q : PM} {x2 : Int32} {F A : MI}  (h : CM l mX8_keeps 1 w nb [.ref 122, .int 0, .int x2] F A (qv fun F1 A1 => Q none F1 A1)) : ZM l mX8_breeds 3 w nb Q 97 [(0, .ref 122), (2, .int x2)] [] F A := by
  intro T G B hY
  refine z_aload_n dX8_breeds_97 0 rfl rfl ?_
  refine z_iconst (v := 0) dX8_breeds_98 rfl ?_
  refine z_iload_n dX8_breeds_99 1 rfl rfl ?_
  refine zm_Vv (As := [.int 0, .int x2]) (rest := []) dX8_breeds_100 okX8_keeps ioX8_keeps mk_X8_128 (ci := 8) rfl (by decide) (lat hY rfl) rfl rfl (Nat.le_of_ble_eq_true rfl) (by decide) hY (CM.monov h fun F1 A1 h => ?_)
  exact z_vretM dX8_breeds_103 rfl h
set_option maxHeartbeats 4000000 in
set_option maxRecDepth 100000 in
theorem vX8_breeds_64 {l : Launch} {w : Nat → Nat} {nb : Nat} {Q : PM} {x1 x2 x3 : Int32} {F A : MI}  (h : ((x3 ≤ 3 → ZM l mX8_breeds 3 w nb Q 78 [(0, .ref 122), (1, .int x1), (2, .int x2), (3, .int x3)] [] F A) ∧ (¬ x3 ≤ 3 → CM l mX8_fails 1 w nb [.ref 122, .int 2, .int (F 341 122)] F A (qv fun F1 A1 => ZM l mX8_breeds 3 w nb Q 78 [(0, .ref 122), (1, .int x1), (2, .int x2), (3, .int x3)] [] F1 A1)))) : ZM l mX8_breeds 3 w nb Q 64 [(0, .ref 122), (1, .int x1), (2, .int x2), (3, .int x3)] [] F A := by
  intro T G B hY
  refine z_iload_n dX8_breeds_64 3 rfl rfl ?_
  refine z_iconst (v := 3) dX8_breeds_65 rfl ?_
  refine z_icmp_le (tgt := 78) dX8_breeds_66 (by decide) (fun hb => ?_) (fun hb => ?_)
  · have h := h.1 hb
    exact z_pick [0, 1, 2, 3] rfl (h T G B hY)
  · have h := h.2 hb
    refine z_aload_n dX8_breeds_69 0 rfl rfl ?_
    refine z_iconst (v := 2) dX8_breeds_70 rfl ?_
    refine z_aload_n dX8_breeds_71 0 rfl rfl ?_
    refine z_geti' (k := 21) (fc := 341) (x := (F 341 122)) dX8_breeds_72 ckX8 (by decide) fk_X8_101 rfl rfl (lat hY rfl) rfl ?_
    refine zm_Vv (As := [.int 2, .int (F 341 122)]) (rest := []) dX8_breeds_75 okX8_fails ioX8_fails mk_X8_121 (ci := 8) rfl (by decide) (lat hY rfl) rfl rfl (Nat.le_of_ble_eq_true rfl) (by decide) hY (CM.monov h fun F1 A1 h => ?_)
    exact z_pick [0, 1, 2, 3] rfl (h T G B hY)
set_option maxHeartbeats 4000000 in
set_option maxRecDepth 100000 in
theorem vX8_breeds_78 {l : Launch} {w : Nat → Nat} {nb : Nat} {Q : PM} {x1 x2 x3 : Int32} {F A : MI}  (h : ZM l mX8_breeds 3 w nb Q 23 [(0, .ref 122), (1, .int x1), (2, .int (x2 ||| (1 <<< (x3 &&& 31))))] [] (u2 F 341 122 ((F 341 122) + 1)) A) : ZM l mX8_breeds 3 w nb Q 78 [(0, .ref 122), (1, .int x1), (2, .int x2), (3, .int x3)] [] F A := by
  intro T G B hY
  refine z_iload_n dX8_breeds_78 2 rfl rfl ?_
  refine z_iconst (v := 1) dX8_breeds_79 rfl ?_
  refine z_iload_n dX8_breeds_80 3 rfl rfl ?_
  refine z_ishl dX8_breeds_81 ?_
  refine z_ior dX8_breeds_82 ?_
  refine z_istore_n (lv' := [(0, .ref 122), (1, .int x1), (2, .int (x2 ||| (1 <<< (x3 &&& 31)))), (3, .int x3)]) dX8_breeds_83 rfl (by decide) rfl ?_
  refine z_aload_n dX8_breeds_84 0 rfl rfl ?_
  refine z_dup dX8_breeds_85 ?_
  refine z_geti' (k := 21) (fc := 341) (x := (F 341 122)) dX8_breeds_86 ckX8 (by decide) fk_X8_101 rfl rfl (lat hY rfl) rfl ?_
  refine z_iconst (v := 1) dX8_breeds_89 rfl ?_
  refine z_iadd dX8_breeds_90 ?_
  refine z_puti (k := 21) (fc := 341) dX8_breeds_91 ckX8 (by decide) fk_X8_101 rfl rfl rfl (lat hY rfl) ?_
  refine z_goto (tgt := 23) dX8_breeds_94 (by decide) ?_
  exact z_pick [0, 1, 2] rfl (h T G B hY)
set_option maxHeartbeats 4000000 in
set_option maxRecDepth 100000 in
theorem vX8_count_0 {l : Launch} {w : Nat → Nat} {nb : Nat} {Q : PM} {x1 : Int32} {F A : MI}  (h : CM l mX8_isClass 2 w nb [.int (x1 - 10)] F A (qi fun r1 F1 A1 => ((r1 = 0 → CM l mX8_isClass 2 w nb [.int (x1 - 20)] F1 A1 (qi fun r2 F2 A2 => ((r2 = 0 → ((¬ x1 = 0 → ((¬ x1 = 1 → ((¬ x1 = 2 → ((¬ x1 = 3 → Q (some (.int (-1))) F2 A2) ∧ (x1 = 3 → CM l mX8_lays 2 w nb [.ref 122] F2 A2 (qi fun r3 F3 A3 => Q (some (.int r3)) F3 A3)))) ∧ (x1 = 2 → Q (some (.int (F2 321 122))) F2 A2))) ∧ (x1 = 1 → Q (some (.int (F2 323 122))) F2 A2))) ∧ (x1 = 0 → Q (some (.int (F2 322 122))) F2 A2))) ∧ (¬ r2 = 0 → ZM l mX8_count 3 w nb Q 37 [(0, .ref 122), (1, .int x1), (2, .int 0), (3, .int 0)] [] F2 A2)))) ∧ (¬ r1 = 0 → (vp_in (x1 - 10) 6 ∧ CM l mX8_sizeOf 1 w nb [.int (A1 134 (x1 - 10).toNatClampNeg)] F1 A1 (qi fun r5 F5 A5 => Q (some (.int r5)) F5 A5)))))) : ZM l mX8_count 3 w nb Q 0 [(0, .ref 122), (1, .int x1)] [] F A := by
  intro T G B hY
  refine z_iload_n dX8_count_0 1 rfl rfl ?_
  refine z_bipush (v := 10) dX8_count_1 rfl ?_
  refine z_isub dX8_count_3 ?_
  refine zm_Si (As := [.int (x1 - 10)]) (rest := []) dX8_count_4 okX8_isClass smX8_isClass mk_X8_139 rfl rfl (Nat.le_of_ble_eq_true rfl) (by decide) hY (CM.monoi h fun r1 F1 A1 h => ?_)
  refine z_if_eq (tgt := 23) dX8_count_7 (by decide) (fun hb => ?_) (fun hb => ?_)
  · have h := h.1 hb
    refine z_iload_n dX8_count_23 1 rfl rfl ?_
    refine z_bipush (v := 20) dX8_count_24 rfl ?_
    refine z_isub dX8_count_26 ?_
    refine zm_Si (As := [.int (x1 - 20)]) (rest := []) dX8_count_27 okX8_isClass smX8_isClass mk_X8_139 rfl rfl (Nat.le_of_ble_eq_true rfl) (by decide) hY (CM.monoi h fun r2 F2 A2 h => ?_)
    refine z_if_eq (tgt := 71) dX8_count_30 (by decide) (fun hb => ?_) (fun hb => ?_)
    · have h := h.1 hb
      refine z_iload_n dX8_count_71 1 rfl rfl ?_
      refine z_if_ne (tgt := 82) dX8_count_72 (by decide) (fun hb => ?_) (fun hb => ?_)
      · have h := h.1 hb
        refine z_iload_n dX8_count_82 1 rfl rfl ?_
        refine z_iconst (v := 1) dX8_count_83 rfl ?_
        refine z_icmp_ne (tgt := 94) dX8_count_84 (by decide) (fun hb => ?_) (fun hb => ?_)
        · have h := h.1 hb
          refine z_iload_n dX8_count_94 1 rfl rfl ?_
          refine z_iconst (v := 2) dX8_count_95 rfl ?_
          refine z_icmp_ne (tgt := 106) dX8_count_96 (by decide) (fun hb => ?_) (fun hb => ?_)
          · have h := h.1 hb
            refine z_iload_n dX8_count_106 1 rfl rfl ?_
            refine z_iconst (v := 3) dX8_count_107 rfl ?_
            refine z_icmp_ne (tgt := 118) dX8_count_108 (by decide) (fun hb => ?_) (fun hb => ?_)
            · have h := h.1 hb
              refine z_iconst (v := (-1)) dX8_count_118 rfl ?_
              exact z_iretM dX8_count_119 rfl h
            · have h := h.2 hb
              refine z_aload_n dX8_count_111 0 rfl rfl ?_
              refine zm_Vi (As := []) (rest := []) dX8_count_112 okX8_lays ioX8_lays mk_X8_213 (ci := 8) rfl (by decide) (lat hY rfl) rfl rfl (Nat.le_of_ble_eq_true rfl) (by decide) hY (CM.monoi h fun r3 F3 A3 h => ?_)
              refine z_goto (tgt := 119) dX8_count_115 (by decide) ?_
              exact z_iretM dX8_count_119 rfl h
          · have h := h.2 hb
            refine z_aload_n dX8_count_99 0 rfl rfl ?_
            refine z_geti' (k := 1) (fc := 321) (x := (F2 321 122)) dX8_count_100 ckX8 (by decide) fk_X8_94 rfl rfl (lat hY rfl) rfl ?_
            refine z_goto (tgt := 119) dX8_count_103 (by decide) ?_
            exact z_iretM dX8_count_119 rfl h
        · have h := h.2 hb
          refine z_aload_n dX8_count_87 0 rfl rfl ?_
          refine z_geti' (k := 3) (fc := 323) (x := (F2 323 122)) dX8_count_88 ckX8 (by decide) fk_X8_13 rfl rfl (lat hY rfl) rfl ?_
          refine z_goto (tgt := 119) dX8_count_91 (by decide) ?_
          exact z_iretM dX8_count_119 rfl h
      · have h := h.2 hb
        refine z_aload_n dX8_count_75 0 rfl rfl ?_
        refine z_geti' (k := 2) (fc := 322) (x := (F2 322 122)) dX8_count_76 ckX8 (by decide) fk_X8_91 rfl rfl (lat hY rfl) rfl ?_
        refine z_goto (tgt := 119) dX8_count_79 (by decide) ?_
        exact z_iretM dX8_count_119 rfl h
    · have h := h.2 hb
      refine z_iconst (v := 0) dX8_count_33 rfl ?_
      refine z_istore_n (lv' := [(0, .ref 122), (1, .int x1), (2, .int 0)]) dX8_count_34 rfl (by decide) rfl ?_
      refine z_iconst (v := 0) dX8_count_35 rfl ?_
      refine z_istore_n (lv' := [(0, .ref 122), (1, .int x1), (2, .int 0), (3, .int 0)]) dX8_count_36 rfl (by decide) rfl ?_
      exact z_pick [0, 1, 2, 3] rfl (h T G B hY)
  · have h := h.2 hb
    refine z_aload_n dX8_count_10 0 rfl rfl ?_
    refine z_getr (k := 15) (fc := 335) (r := 134) dX8_count_11 ckX8 (by decide) fk_X8_48 rfl rfl (lat hY rfl) (lgg hY rfl) (by decide) ?_
    refine z_iload_n dX8_count_14 1 rfl rfl ?_
    refine z_bipush (v := 10) dX8_count_15 rfl ?_
    refine z_isub dX8_count_17 ?_
    have hin4 := h.1
    have h := h.2
    refine z_iald' (n := 6) (x := (A1 134 (x1 - 10).toNatClampNeg)) dX8_count_18 (lat hY rfl) (lln hY rfl) hin4 rfl ?_
    refine zm_Si (As := [.int (A1 134 (x1 - 10).toNatClampNeg)]) (rest := []) dX8_count_19 okX8_sizeOf smX8_sizeOf mk_X8_162 rfl rfl (Nat.le_of_ble_eq_true rfl) (by decide) hY (CM.monoi h fun r5 F5 A5 h => ?_)
    exact z_iretM dX8_count_22 rfl h
theorem kX8_count {l : Launch} {w : Nat → Nat} {nb : Nat} {Q : PM} {x1 : Int32} {F A : MI}  (h : CM l mX8_isClass 2 w nb [.int (x1 - 10)] F A (qi fun r1 F1 A1 => ((r1 = 0 → CM l mX8_isClass 2 w nb [.int (x1 - 20)] F1 A1 (qi fun r2 F2 A2 => ((r2 = 0 → ((¬ x1 = 0 → ((¬ x1 = 1 → ((¬ x1 = 2 → ((¬ x1 = 3 → Q (some (.int (-1))) F2 A2) ∧ (x1 = 3 → CM l mX8_lays 2 w nb [.ref 122] F2 A2 (qi fun r3 F3 A3 => Q (some (.int r3)) F3 A3)))) ∧ (x1 = 2 → Q (some (.int (F2 321 122))) F2 A2))) ∧ (x1 = 1 → Q (some (.int (F2 323 122))) F2 A2))) ∧ (x1 = 0 → Q (some (.int (F2 322 122))) F2 A2))) ∧ (¬ r2 = 0 → ZM l mX8_count 3 w nb Q 37 [(0, .ref 122), (1, .int x1), (2, .int 0), (3, .int 0)] [] F2 A2)))) ∧ (¬ r1 = 0 → (vp_in (x1 - 10) 6 ∧ CM l mX8_sizeOf 1 w nb [.int (A1 134 (x1 - 10).toNatClampNeg)] F1 A1 (qi fun r5 F5 A5 => Q (some (.int r5)) F5 A5)))))) : CM l mX8_count 3 w nb [.ref 122, .int x1] F A Q := CM.ofZ (by decide) (fun _ _ => rfl) (fun _ _ => Nat.le_of_ble_eq_true rfl) (vX8_count_0  h)
set_option maxHeartbeats 4000000 in
set_option maxRecDepth 100000 in
theorem vX8_count_37 {l : Launch} {w : Nat → Nat} {nb : Nat} {Q : PM} {x1 x2 x3 : Int32} {F A : MI}  (h : ((6 ≤ x3 → Q (some (.int x2)) F A) ∧ (¬ 6 ≤ x3 → CM l mX8_counts 1 w nb [.ref 122, .int x3, .int (x1 - 20)] F A (qi fun r1 F1 A1 => ((r1 = 0 → ZM l mX8_count 3 w nb Q 61 [(0, .ref 122), (1, .int x1), (3, .int x3)] [.int 0, .int x2] F1 A1) ∧ (¬ r1 = 0 → ZM l mX8_count 3 w nb Q 61 [(0, .ref 122), (1, .int x1), (3, .int x3)] [.int 1, .int x2] F1 A1)))))) : ZM l mX8_count 3 w nb Q 37 [(0, .ref 122), (1, .int x1), (2, .int x2), (3, .int x3)] [] F A := by
  intro T G B hY
  refine z_iload_n dX8_count_37 3 rfl rfl ?_
  refine z_bipush (v := 6) dX8_count_38 rfl ?_
  refine z_icmp_ge (tgt := 69) dX8_count_40 (by decide) (fun hb => ?_) (fun hb => ?_)
  · have h := h.1 hb
    refine z_iload_n dX8_count_69 2 rfl rfl ?_
    exact z_iretM dX8_count_70 rfl h
  · have h := h.2 hb
    refine z_iload_n dX8_count_43 2 rfl rfl ?_
    refine z_aload_n dX8_count_44 0 rfl rfl ?_
    refine z_iload_n dX8_count_45 3 rfl rfl ?_
    refine z_iload_n dX8_count_46 1 rfl rfl ?_
    refine z_bipush (v := 20) dX8_count_47 rfl ?_
    refine z_isub dX8_count_49 ?_
    refine zm_Vi (As := [.int x3, .int (x1 - 20)]) (rest := [.int x2]) dX8_count_50 okX8_counts ioX8_counts mk_X8_169 (ci := 8) rfl (by decide) (lat hY rfl) rfl rfl (Nat.le_of_ble_eq_true rfl) (by decide) hY (CM.monoi h fun r1 F1 A1 h => ?_)
    refine z_if_eq (tgt := 60) dX8_count_53 (by decide) (fun hb => ?_) (fun hb => ?_)
    · have h := h.1 hb
      refine z_iconst (v := 0) dX8_count_60 rfl ?_
      exact z_pick [0, 1, 3] rfl (h T G B hY)
    · have h := h.2 hb
      refine z_iconst (v := 1) dX8_count_56 rfl ?_
      refine z_goto (tgt := 61) dX8_count_57 (by decide) ?_
      exact z_pick [0, 1, 3] rfl (h T G B hY)
set_option maxHeartbeats 4000000 in
set_option maxRecDepth 100000 in
theorem vX8_count_61 {l : Launch} {w : Nat → Nat} {nb : Nat} {Q : PM} {x1 x3 s0 s1 : Int32} {F A : MI}  (h : ZM l mX8_count 3 w nb Q 37 [(0, .ref 122), (1, .int x1), (2, .int (s1 + s0)), (3, .int (x3 + 1))] [] F A) : ZM l mX8_count 3 w nb Q 61 [(0, .ref 122), (1, .int x1), (3, .int x3)] [.int s0, .int s1] F A := by
  intro T G B hY
  refine z_iadd dX8_count_61 ?_
  refine z_istore_n (lv' := [(0, .ref 122), (1, .int x1), (2, .int (s1 + s0)), (3, .int x3)]) dX8_count_62 rfl (by decide) rfl ?_
  refine z_iinc (v := (x3 + 1)) (lv' := [(0, .ref 122), (1, .int x1), (2, .int (s1 + s0)), (3, .int (x3 + 1))]) dX8_count_63 3 rfl rfl (by decide) rfl ?_
  refine z_goto (tgt := 37) dX8_count_66 (by decide) ?_
  exact z_pick [0, 1, 2, 3] rfl (h T G B hY)
set_option maxHeartbeats 4000000 in
set_option maxRecDepth 100000 in
theorem vX8_cut_0 {l : Launch} {w : Nat → Nat} {nb : Nat} {Q : PM} {x1 x2 x3 : Int32} {F A : MI}  (h : CM l mX8_isClass 2 w nb [.int x1] F A (qi fun r1 F1 A1 => ((r1 = 0 → Q (some (.int 0)) F1 A1) ∧ (¬ r1 = 0 → CM l mX8_lies 1 w nb [.int x2, .int 1, .int 3] F1 A1 (qi fun r2 F2 A2 => ((r2 = 0 → Q (some (.int 0)) F2 A2) ∧ (¬ r2 = 0 → CM l mX8_lies 1 w nb [.int x3, .int 0, .int 15] F2 A2 (qi fun r3 F3 A3 => ((¬ r3 = 0 → (vp_in (((3 * x1) + x2) - 1) 18 ∧ Q (some (.int 1)) F3 (u2 A3 139 (((3 * x1) + x2) - 1).toNatClampNeg x3))) ∧ (r3 = 0 → Q (some (.int 0)) F3 A3)))))))))) : ZM l mX8_cut 3 w nb Q 0 [(0, .ref 122), (1, .int x1), (2, .int x2), (3, .int x3)] [] F A := by
  intro T G B hY
  refine z_iload_n dX8_cut_0 1 rfl rfl ?_
  refine zm_Si (As := [.int x1]) (rest := []) dX8_cut_1 okX8_isClass smX8_isClass mk_X8_139 rfl rfl (Nat.le_of_ble_eq_true rfl) (by decide) hY (CM.monoi h fun r1 F1 A1 h => ?_)
  refine z_if_eq (tgt := 26) dX8_cut_4 (by decide) (fun hb => ?_) (fun hb => ?_)
  · have h := h.1 hb
    refine z_iconst (v := 0) dX8_cut_26 rfl ?_
    exact z_zretM dX8_cut_27 rfl (by decide) h
  · have h := h.2 hb
    refine z_iload_n dX8_cut_7 2 rfl rfl ?_
    refine z_iconst (v := 1) dX8_cut_8 rfl ?_
    refine z_iconst (v := 3) dX8_cut_9 rfl ?_
    refine zm_Si (As := [.int x2, .int 1, .int 3]) (rest := []) dX8_cut_10 okX8_lies smX8_lies mk_X8_87 rfl rfl (Nat.le_of_ble_eq_true rfl) (by decide) hY (CM.monoi h fun r2 F2 A2 h => ?_)
    refine z_if_eq (tgt := 26) dX8_cut_13 (by decide) (fun hb => ?_) (fun hb => ?_)
    · have h := h.1 hb
      refine z_iconst (v := 0) dX8_cut_26 rfl ?_
      exact z_zretM dX8_cut_27 rfl (by decide) h
    · have h := h.2 hb
      refine z_iload_n dX8_cut_16 3 rfl rfl ?_
      refine z_iconst (v := 0) dX8_cut_17 rfl ?_
      refine z_bipush (v := 15) dX8_cut_18 rfl ?_
      refine zm_Si (As := [.int x3, .int 0, .int 15]) (rest := []) dX8_cut_20 okX8_lies smX8_lies mk_X8_87 rfl rfl (Nat.le_of_ble_eq_true rfl) (by decide) hY (CM.monoi h fun r3 F3 A3 h => ?_)
      refine z_if_ne (tgt := 28) dX8_cut_23 (by decide) (fun hb => ?_) (fun hb => ?_)
      · have h := h.1 hb
        refine z_aload_n dX8_cut_28 0 rfl rfl ?_
        refine z_getr (k := 20) (fc := 340) (r := 139) dX8_cut_29 ckX8 (by decide) fk_X8_63 rfl rfl (lat hY rfl) (lgg hY rfl) (by decide) ?_
        refine z_iconst (v := 3) dX8_cut_32 rfl ?_
        refine z_iload_n dX8_cut_33 1 rfl rfl ?_
        refine z_imul dX8_cut_34 ?_
        refine z_iload_n dX8_cut_35 2 rfl rfl ?_
        refine z_iadd dX8_cut_36 ?_
        refine z_iconst (v := 1) dX8_cut_37 rfl ?_
        refine z_isub dX8_cut_38 ?_
        refine z_iload_n dX8_cut_39 3 rfl rfl ?_
        have hin4 := h.1
        have h := h.2
        refine z_iast' (n := 18) dX8_cut_40 (lat hY rfl) (lln hY rfl) hin4 ?_
        refine z_iconst (v := 1) dX8_cut_41 rfl ?_
        exact z_zretM dX8_cut_42 rfl (by decide) h
      · have h := h.2 hb
        refine z_iconst (v := 0) dX8_cut_26 rfl ?_
        exact z_zretM dX8_cut_27 rfl (by decide) h
theorem kX8_cut {l : Launch} {w : Nat → Nat} {nb : Nat} {Q : PM} {x1 x2 x3 : Int32} {F A : MI}  (h : CM l mX8_isClass 2 w nb [.int x1] F A (qi fun r1 F1 A1 => ((r1 = 0 → Q (some (.int 0)) F1 A1) ∧ (¬ r1 = 0 → CM l mX8_lies 1 w nb [.int x2, .int 1, .int 3] F1 A1 (qi fun r2 F2 A2 => ((r2 = 0 → Q (some (.int 0)) F2 A2) ∧ (¬ r2 = 0 → CM l mX8_lies 1 w nb [.int x3, .int 0, .int 15] F2 A2 (qi fun r3 F3 A3 => ((¬ r3 = 0 → (vp_in (((3 * x1) + x2) - 1) 18 ∧ Q (some (.int 1)) F3 (u2 A3 139 (((3 * x1) + x2) - 1).toNatClampNeg x3))) ∧ (r3 = 0 → Q (some (.int 0)) F3 A3)))))))))) : CM l mX8_cut 3 w nb [.ref 122, .int x1, .int x2, .int x3] F A Q := CM.ofZ (by decide) (fun _ _ => rfl) (fun _ _ => Nat.le_of_ble_eq_true rfl) (vX8_cut_0  h)
set_option maxHeartbeats 4000000 in
set_option maxRecDepth 100000 in
theorem vX8_hour_0 {l : Launch} {w : Nat → Nat} {nb : Nat} {Q : PM} {x1 : Int32} {F A : MI}  (h : CM l mX8_isClass 2 w nb [.int x1] F A (qi fun r1 F1 A1 => ((r1 = 0 → Q (some (.int (-1))) F1 A1) ∧ (¬ r1 = 0 → (vp_in x1 6 ∧ (((A1 134 x1.toNatClampNeg) = 0 → Q (some (.int (-1))) F1 A1) ∧ (¬ (A1 134 x1.toNatClampNeg) = 0 → CM l mX8_lays 2 w nb [.ref 122] F1 A1 (qi fun r3 F3 A3 => ((¬ r3 = (-1) → (vp_in x1 6 ∧ Q (some (.int (A3 145 x1.toNatClampNeg))) F3 A3)) ∧ (r3 = (-1) → Q (some (.int (-1))) F3 A3)))))))))) : ZM l mX8_hour 3 w nb Q 0 [(0, .ref 122), (1, .int x1)] [] F A := by
  intro T G B hY
  refine z_iload_n dX8_hour_0 1 rfl rfl ?_
  refine zm_Si (As := [.int x1]) (rest := []) dX8_hour_1 okX8_isClass smX8_isClass mk_X8_139 rfl rfl (Nat.le_of_ble_eq_true rfl) (by decide) hY (CM.monoi h fun r1 F1 A1 h => ?_)
  refine z_if_eq (tgt := 24) dX8_hour_4 (by decide) (fun hb => ?_) (fun hb => ?_)
  · have h := h.1 hb
    refine z_iconst (v := (-1)) dX8_hour_24 rfl ?_
    refine z_goto (tgt := 34) dX8_hour_25 (by decide) ?_
    exact z_iretM dX8_hour_34 rfl h
  · have h := h.2 hb
    refine z_aload_n dX8_hour_7 0 rfl rfl ?_
    refine z_getr (k := 15) (fc := 335) (r := 134) dX8_hour_8 ckX8 (by decide) fk_X8_48 rfl rfl (lat hY rfl) (lgg hY rfl) (by decide) ?_
    refine z_iload_n dX8_hour_11 1 rfl rfl ?_
    have hin2 := h.1
    have h := h.2
    refine z_iald' (n := 6) (x := (A1 134 x1.toNatClampNeg)) dX8_hour_12 (lat hY rfl) (lln hY rfl) hin2 rfl ?_
    refine z_if_eq (tgt := 24) dX8_hour_13 (by decide) (fun hb => ?_) (fun hb => ?_)
    · have h := h.1 hb
      refine z_iconst (v := (-1)) dX8_hour_24 rfl ?_
      refine z_goto (tgt := 34) dX8_hour_25 (by decide) ?_
      exact z_iretM dX8_hour_34 rfl h
    · have h := h.2 hb
      refine z_aload_n dX8_hour_16 0 rfl rfl ?_
      refine zm_Vi (As := []) (rest := []) dX8_hour_17 okX8_lays ioX8_lays mk_X8_213 (ci := 8) rfl (by decide) (lat hY rfl) rfl rfl (Nat.le_of_ble_eq_true rfl) (by decide) hY (CM.monoi h fun r3 F3 A3 h => ?_)
      refine z_iconst (v := (-1)) dX8_hour_20 rfl ?_
      refine z_icmp_ne (tgt := 28) dX8_hour_21 (by decide) (fun hb => ?_) (fun hb => ?_)
      · have h := h.1 hb
        refine z_aload_n dX8_hour_28 0 rfl rfl ?_
        refine z_getr (k := 32) (fc := 352) (r := 145) dX8_hour_29 ckX8 (by decide) fk_X8_81 rfl rfl (lat hY rfl) (lgg hY rfl) (by decide) ?_
        refine z_iload_n dX8_hour_32 1 rfl rfl ?_
        have hin4 := h.1
        have h := h.2
        refine z_iald' (n := 6) (x := (A3 145 x1.toNatClampNeg)) dX8_hour_33 (lat hY rfl) (lln hY rfl) hin4 rfl ?_
        exact z_iretM dX8_hour_34 rfl h
      · have h := h.2 hb
        refine z_iconst (v := (-1)) dX8_hour_24 rfl ?_
        refine z_goto (tgt := 34) dX8_hour_25 (by decide) ?_
        exact z_iretM dX8_hour_34 rfl h
theorem kX8_hour {l : Launch} {w : Nat → Nat} {nb : Nat} {Q : PM} {x1 : Int32} {F A : MI}  (h : CM l mX8_isClass 2 w nb [.int x1] F A (qi fun r1 F1 A1 => ((r1 = 0 → Q (some (.int (-1))) F1 A1) ∧ (¬ r1 = 0 → (vp_in x1 6 ∧ (((A1 134 x1.toNatClampNeg) = 0 → Q (some (.int (-1))) F1 A1) ∧ (¬ (A1 134 x1.toNatClampNeg) = 0 → CM l mX8_lays 2 w nb [.ref 122] F1 A1 (qi fun r3 F3 A3 => ((¬ r3 = (-1) → (vp_in x1 6 ∧ Q (some (.int (A3 145 x1.toNatClampNeg))) F3 A3)) ∧ (r3 = (-1) → Q (some (.int (-1))) F3 A3)))))))))) : CM l mX8_hour 3 w nb [.ref 122, .int x1] F A Q := CM.ofZ (by decide) (fun _ _ => rfl) (fun _ _ => Nat.le_of_ble_eq_true rfl) (vX8_hour_0  h)
set_option maxHeartbeats 4000000 in
set_option maxRecDepth 100000 in
theorem vX8_isLet_0 {l : Launch} {w : Nat → Nat} {nb : Nat} {Q : PM} {x1 x2 : Int32} {F A : MI}  (h : ZM l mX8_isLet 3 w nb Q 2 [(0, .ref 122), (1, .int x1), (2, .int x2), (3, .int 0)] [] F A) : ZM l mX8_isLet 3 w nb Q 0 [(0, .ref 122), (1, .int x1), (2, .int x2)] [] F A := by
  intro T G B hY
  refine z_iconst (v := 0) dX8_isLet_0 rfl ?_
  refine z_istore_n (lv' := [(0, .ref 122), (1, .int x1), (2, .int x2), (3, .int 0)]) dX8_isLet_1 rfl (by decide) rfl ?_
  exact z_pick [0, 1, 2, 3] rfl (h T G B hY)
theorem kX8_isLet {l : Launch} {w : Nat → Nat} {nb : Nat} {Q : PM} {x1 x2 : Int32} {F A : MI}  (h : ZM l mX8_isLet 3 w nb Q 2 [(0, .ref 122), (1, .int x1), (2, .int x2), (3, .int 0)] [] F A) : CM l mX8_isLet 3 w nb [.ref 122, .int x1, .int x2] F A Q := CM.ofZ (by decide) (fun _ _ => rfl) (fun _ _ => Nat.le_of_ble_eq_true rfl) (vX8_isLet_0  h)
set_option maxHeartbeats 4000000 in
set_option maxRecDepth 100000 in
theorem vX8_isLet_2 {l : Launch} {w : Nat → Nat} {nb : Nat} {Q : PM} {x1 x2 x3 : Int32} {F A : MI}  (h : (vp_in x1 6 ∧ (((A 129 x1.toNatClampNeg) ≤ x3 → Q (some (.int 1)) F A) ∧ (¬ (A 129 x1.toNatClampNeg) ≤ x3 → (vp_in ((8 * x1) + x3) 48 ∧ (vp_in ((8 * x1) + x3) 48 ∧ CM l mX8_holds 2 w nb [.ref 122, .int (A 130 ((8 * x1) + x3).toNatClampNeg), .int (A 131 ((8 * x1) + x3).toNatClampNeg), .int x2] F A (qi fun r4 F4 A4 => ((¬ r4 = 0 → ZM l mX8_isLet 3 w nb Q 2 [(0, .ref 122), (1, .int x1), (2, .int x2), (3, .int (x3 + 1))] [] F4 A4) ∧ (r4 = 0 → Q (some (.int 0)) F4 A4))))))))) : ZM l mX8_isLet 3 w nb Q 2 [(0, .ref 122), (1, .int x1), (2, .int x2), (3, .int x3)] [] F A := by
  intro T G B hY
  refine z_iload_n dX8_isLet_2 3 rfl rfl ?_
  refine z_aload_n dX8_isLet_3 0 rfl rfl ?_
  refine z_getr (k := 9) (fc := 329) (r := 129) dX8_isLet_4 ckX8 (by decide) fk_X8_33 rfl rfl (lat hY rfl) (lgg hY rfl) (by decide) ?_
  refine z_iload_n dX8_isLet_7 1 rfl rfl ?_
  have hin1 := h.1
  have h := h.2
  refine z_iald' (n := 6) (x := (A 129 x1.toNatClampNeg)) dX8_isLet_8 (lat hY rfl) (lln hY rfl) hin1 rfl ?_
  refine z_icmp_ge (tgt := 50) dX8_isLet_9 (by decide) (fun hb => ?_) (fun hb => ?_)
  · have h := h.1 hb
    refine z_iconst (v := 1) dX8_isLet_50 rfl ?_
    exact z_zretM dX8_isLet_51 rfl (by decide) h
  · have h := h.2 hb
    refine z_aload_n dX8_isLet_12 0 rfl rfl ?_
    refine z_aload_n dX8_isLet_13 0 rfl rfl ?_
    refine z_getr (k := 10) (fc := 330) (r := 130) dX8_isLet_14 ckX8 (by decide) fk_X8_36 rfl rfl (lat hY rfl) (lgg hY rfl) (by decide) ?_
    refine z_bipush (v := 8) dX8_isLet_17 rfl ?_
    refine z_iload_n dX8_isLet_19 1 rfl rfl ?_
    refine z_imul dX8_isLet_20 ?_
    refine z_iload_n dX8_isLet_21 3 rfl rfl ?_
    refine z_iadd dX8_isLet_22 ?_
    have hin2 := h.1
    have h := h.2
    refine z_iald' (n := 48) (x := (A 130 ((8 * x1) + x3).toNatClampNeg)) dX8_isLet_23 (lat hY rfl) (lln hY rfl) hin2 rfl ?_
    refine z_aload_n dX8_isLet_24 0 rfl rfl ?_
    refine z_getr (k := 11) (fc := 331) (r := 131) dX8_isLet_25 ckX8 (by decide) fk_X8_39 rfl rfl (lat hY rfl) (lgg hY rfl) (by decide) ?_
    refine z_bipush (v := 8) dX8_isLet_28 rfl ?_
    refine z_iload_n dX8_isLet_30 1 rfl rfl ?_
    refine z_imul dX8_isLet_31 ?_
    refine z_iload_n dX8_isLet_32 3 rfl rfl ?_
    refine z_iadd dX8_isLet_33 ?_
    have hin3 := h.1
    have h := h.2
    refine z_iald' (n := 48) (x := (A 131 ((8 * x1) + x3).toNatClampNeg)) dX8_isLet_34 (lat hY rfl) (lln hY rfl) hin3 rfl ?_
    refine z_iload_n dX8_isLet_35 2 rfl rfl ?_
    refine zm_Vi (As := [.int (A 130 ((8 * x1) + x3).toNatClampNeg), .int (A 131 ((8 * x1) + x3).toNatClampNeg), .int x2]) (rest := []) dX8_isLet_36 okX8_holds ioX8_holds mk_X8_156 (ci := 8) rfl (by decide) (lat hY rfl) rfl rfl (Nat.le_of_ble_eq_true rfl) (by decide) hY (CM.monoi h fun r4 F4 A4 h => ?_)
    refine z_if_ne (tgt := 44) dX8_isLet_39 (by decide) (fun hb => ?_) (fun hb => ?_)
    · have h := h.1 hb
      refine z_iinc (v := (x3 + 1)) (lv' := [(0, .ref 122), (1, .int x1), (2, .int x2), (3, .int (x3 + 1))]) dX8_isLet_44 3 rfl rfl (by decide) rfl ?_
      refine z_goto (tgt := 2) dX8_isLet_47 (by decide) ?_
      exact z_pick [0, 1, 2, 3] rfl (h T G B hY)
    · have h := h.2 hb
      refine z_iconst (v := 0) dX8_isLet_42 rfl ?_
      exact z_zretM dX8_isLet_43 rfl (by decide) h
set_option maxHeartbeats 4000000 in
set_option maxRecDepth 100000 in
theorem vX8_joins_0 {l : Launch} {w : Nat → Nat} {nb : Nat} {Q : PM} {x1 : Int32} {F A : MI}  (h : ZM l mX8_joins 3 w nb Q 7 [(0, .ref 122), (1, .int x1), (2, .int 0)] [] (u2 F 345 122 0) A) : ZM l mX8_joins 3 w nb Q 0 [(0, .ref 122), (1, .int x1)] [] F A := by
  intro T G B hY
  refine z_aload_n dX8_joins_0 0 rfl rfl ?_
  refine z_iconst (v := 0) dX8_joins_1 rfl ?_
  refine z_puti (k := 25) (fc := 345) dX8_joins_2 ckX8 (by decide) fk_X8_176 rfl rfl rfl (lat hY rfl) ?_
  refine z_iconst (v := 0) dX8_joins_5 rfl ?_
  refine z_istore_n (lv' := [(0, .ref 122), (1, .int x1), (2, .int 0)]) dX8_joins_6 rfl (by decide) rfl ?_
  exact z_pick [0, 1, 2] rfl (h T G B hY)
theorem kX8_joins {l : Launch} {w : Nat → Nat} {nb : Nat} {Q : PM} {x1 : Int32} {F A : MI}  (h : ZM l mX8_joins 3 w nb Q 7 [(0, .ref 122), (1, .int x1), (2, .int 0)] [] (u2 F 345 122 0) A) : CM l mX8_joins 3 w nb [.ref 122, .int x1] F A Q := CM.ofZ (by decide) (fun _ _ => rfl) (fun _ _ => Nat.le_of_ble_eq_true rfl) (vX8_joins_0  h)
set_option maxHeartbeats 4000000 in
set_option maxRecDepth 100000 in
theorem vX8_joins_7 {l : Launch} {w : Nat → Nat} {nb : Nat} {Q : PM} {x1 x2 : Int32} {F A : MI}  (h : (((F 322 122) ≤ x2 → ZM l mX8_joins 3 w nb Q 59 [(0, .ref 122), (1, .int x1), (2, .int 0)] [] F A) ∧ (¬ (F 322 122) ≤ x2 → (vp_in x1 6 ∧ CM l mX8_has 1 w nb [.int (A 134 x1.toNatClampNeg), .int x2] F A (qi fun r2 F2 A2 => ((¬ r2 = 0 → (vp_in (F2 345 122) 8 ∧ ZM l mX8_joins 3 w nb Q 51 [(0, .ref 122), (1, .int x1), (2, .int x2)] [] (u2 F2 345 122 ((F2 345 122) + 1)) (u2 A2 140 (F2 345 122).toNatClampNeg x2))) ∧ (r2 = 0 → ZM l mX8_joins 3 w nb Q 51 [(0, .ref 122), (1, .int x1), (2, .int x2)] [] F2 A2))))))) : ZM l mX8_joins 3 w nb Q 7 [(0, .ref 122), (1, .int x1), (2, .int x2)] [] F A := by
  intro T G B hY
  refine z_iload_n dX8_joins_7 2 rfl rfl ?_
  refine z_aload_n dX8_joins_8 0 rfl rfl ?_
  refine z_geti' (k := 2) (fc := 322) (x := (F 322 122)) dX8_joins_9 ckX8 (by decide) fk_X8_91 rfl rfl (lat hY rfl) rfl ?_
  refine z_icmp_ge (tgt := 57) dX8_joins_12 (by decide) (fun hb => ?_) (fun hb => ?_)
  · have h := h.1 hb
    refine z_iconst (v := 0) dX8_joins_57 rfl ?_
    refine z_istore_n (lv' := [(0, .ref 122), (1, .int x1), (2, .int 0)]) dX8_joins_58 rfl (by decide) rfl ?_
    exact z_pick [0, 1, 2] rfl (h T G B hY)
  · have h := h.2 hb
    refine z_aload_n dX8_joins_15 0 rfl rfl ?_
    refine z_getr (k := 15) (fc := 335) (r := 134) dX8_joins_16 ckX8 (by decide) fk_X8_48 rfl rfl (lat hY rfl) (lgg hY rfl) (by decide) ?_
    refine z_iload_n dX8_joins_19 1 rfl rfl ?_
    have hin1 := h.1
    have h := h.2
    refine z_iald' (n := 6) (x := (A 134 x1.toNatClampNeg)) dX8_joins_20 (lat hY rfl) (lln hY rfl) hin1 rfl ?_
    refine z_iload_n dX8_joins_21 2 rfl rfl ?_
    refine zm_Si (As := [.int (A 134 x1.toNatClampNeg), .int x2]) (rest := []) dX8_joins_22 okX8_has smX8_has mk_X8_152 rfl rfl (Nat.le_of_ble_eq_true rfl) (by decide) hY (CM.monoi h fun r2 F2 A2 h => ?_)
    refine z_if_ne (tgt := 31) dX8_joins_25 (by decide) (fun hb => ?_) (fun hb => ?_)
    · have h := h.1 hb
      refine z_aload_n dX8_joins_31 0 rfl rfl ?_
      refine z_getr (k := 26) (fc := 346) (r := 140) dX8_joins_32 ckX8 (by decide) fk_X8_66 rfl rfl (lat hY rfl) (lgg hY rfl) (by decide) ?_
      refine z_aload_n dX8_joins_35 0 rfl rfl ?_
      refine z_geti' (k := 25) (fc := 345) (x := (F2 345 122)) dX8_joins_36 ckX8 (by decide) fk_X8_176 rfl rfl (lat hY rfl) rfl ?_
      refine z_iload_n dX8_joins_39 2 rfl rfl ?_
      have hin3 := h.1
      have h := h.2
      refine z_iast' (n := 8) dX8_joins_40 (lat hY rfl) (lln hY rfl) hin3 ?_
      refine z_aload_n dX8_joins_41 0 rfl rfl ?_
      refine z_dup dX8_joins_42 ?_
      refine z_geti' (k := 25) (fc := 345) (x := (F2 345 122)) dX8_joins_43 ckX8 (by decide) fk_X8_176 rfl rfl (lat hY rfl) rfl ?_
      refine z_iconst (v := 1) dX8_joins_46 rfl ?_
      refine z_iadd dX8_joins_47 ?_
      refine z_puti (k := 25) (fc := 345) dX8_joins_48 ckX8 (by decide) fk_X8_176 rfl rfl rfl (lat hY rfl) ?_
      exact z_pick [0, 1, 2] rfl (h T G B hY)
    · have h := h.2 hb
      refine z_goto (tgt := 51) dX8_joins_28 (by decide) ?_
      exact z_pick [0, 1, 2] rfl (h T G B hY)
set_option maxHeartbeats 4000000 in
set_option maxRecDepth 100000 in
theorem vX8_joins_59 {l : Launch} {w : Nat → Nat} {nb : Nat} {Q : PM} {x1 x2 : Int32} {F A : MI}  (h : (((F 345 122) ≤ x2 → (vp_in 0 256 ∧ ZM l mX8_joins 3 w nb Q 135 [(0, .ref 122), (2, .int 1)] [] F (u2 A 142 (0 : Int32).toNatClampNeg 0))) ∧ (¬ (F 345 122) ≤ x2 → ZM l mX8_joins 3 w nb Q 69 [(0, .ref 122), (1, .int x1), (2, .int x2), (3, .int 0)] [] F A))) : ZM l mX8_joins 3 w nb Q 59 [(0, .ref 122), (1, .int x1), (2, .int x2)] [] F A := by
  intro T G B hY
  refine z_iload_n dX8_joins_59 2 rfl rfl ?_
  refine z_aload_n dX8_joins_60 0 rfl rfl ?_
  refine z_geti' (k := 25) (fc := 345) (x := (F 345 122)) dX8_joins_61 ckX8 (by decide) fk_X8_176 rfl rfl (lat hY rfl) rfl ?_
  refine z_icmp_ge (tgt := 126) dX8_joins_64 (by decide) (fun hb => ?_) (fun hb => ?_)
  · have h := h.1 hb
    refine z_aload_n dX8_joins_126 0 rfl rfl ?_
    refine z_getr (k := 28) (fc := 348) (r := 142) dX8_joins_127 ckX8 (by decide) fk_X8_72 rfl rfl (lat hY rfl) (lgg hY rfl) (by decide) ?_
    refine z_iconst (v := 0) dX8_joins_130 rfl ?_
    refine z_iconst (v := 0) dX8_joins_131 rfl ?_
    have hin1 := h.1
    have h := h.2
    refine z_iast' (n := 256) dX8_joins_132 (lat hY rfl) (lln hY rfl) hin1 ?_
    refine z_iconst (v := 1) dX8_joins_133 rfl ?_
    refine z_istore_n (lv' := [(0, .ref 122), (1, .int x1), (2, .int 1)]) dX8_joins_134 rfl (by decide) rfl ?_
    exact z_pick [0, 2] rfl (h T G B hY)
  · have h := h.2 hb
    refine z_iconst (v := 0) dX8_joins_67 rfl ?_
    refine z_istore_n (lv' := [(0, .ref 122), (1, .int x1), (2, .int x2), (3, .int 0)]) dX8_joins_68 rfl (by decide) rfl ?_
    exact z_pick [0, 1, 2, 3] rfl (h T G B hY)
set_option maxHeartbeats 4000000 in
set_option maxRecDepth 100000 in
theorem vX8_joins_51 {l : Launch} {w : Nat → Nat} {nb : Nat} {Q : PM} {x1 x2 : Int32} {F A : MI}  (h : ZM l mX8_joins 3 w nb Q 7 [(0, .ref 122), (1, .int x1), (2, .int (x2 + 1))] [] F A) : ZM l mX8_joins 3 w nb Q 51 [(0, .ref 122), (1, .int x1), (2, .int x2)] [] F A := by
  intro T G B hY
  refine z_iinc (v := (x2 + 1)) (lv' := [(0, .ref 122), (1, .int x1), (2, .int (x2 + 1))]) dX8_joins_51 2 rfl rfl (by decide) rfl ?_
  refine z_goto (tgt := 7) dX8_joins_54 (by decide) ?_
  exact z_pick [0, 1, 2] rfl (h T G B hY)
set_option maxHeartbeats 4000000 in
set_option maxRecDepth 100000 in
theorem vX8_joins_135 {l : Launch} {w : Nat → Nat} {nb : Nat} {Q : PM} {x2 : Int32} {F A : MI}  (h : (((1 <<< ((F 345 122) &&& 31)) ≤ x2 → ZM l mX8_joins 3 w nb Q 246 [(0, .ref 122), (2, .int ((1 <<< ((F 345 122) &&& 31)) - 1)), (3, .int 0)] [] F A) ∧ (¬ (1 <<< ((F 345 122) &&& 31)) ≤ x2 → (vp_in x2 256 ∧ ZM l mX8_joins 3 w nb Q 154 [(0, .ref 122), (2, .int x2), (3, .int 0)] [] F (u2 A 142 x2.toNatClampNeg (-1)))))) : ZM l mX8_joins 3 w nb Q 135 [(0, .ref 122), (2, .int x2)] [] F A := by
  intro T G B hY
  refine z_iload_n dX8_joins_135 1 rfl rfl ?_
  refine z_iconst (v := 1) dX8_joins_136 rfl ?_
  refine z_aload_n dX8_joins_137 0 rfl rfl ?_
  refine z_geti' (k := 25) (fc := 345) (x := (F 345 122)) dX8_joins_138 ckX8 (by decide) fk_X8_176 rfl rfl (lat hY rfl) rfl ?_
  refine z_ishl dX8_joins_141 ?_
  refine z_icmp_ge (tgt := 235) dX8_joins_142 (by decide) (fun hb => ?_) (fun hb => ?_)
  · have h := h.1 hb
    refine z_iconst (v := 1) dX8_joins_235 rfl ?_
    refine z_aload_n dX8_joins_236 0 rfl rfl ?_
    refine z_geti' (k := 25) (fc := 345) (x := (F 345 122)) dX8_joins_237 ckX8 (by decide) fk_X8_176 rfl rfl (lat hY rfl) rfl ?_
    refine z_ishl dX8_joins_240 ?_
    refine z_iconst (v := 1) dX8_joins_241 rfl ?_
    refine z_isub dX8_joins_242 ?_
    refine z_istore_n (lv' := [(0, .ref 122), (2, .int ((1 <<< ((F 345 122) &&& 31)) - 1))]) dX8_joins_243 rfl (by decide) rfl ?_
    refine z_iconst (v := 0) dX8_joins_244 rfl ?_
    refine z_istore_n (lv' := [(0, .ref 122), (2, .int ((1 <<< ((F 345 122) &&& 31)) - 1)), (3, .int 0)]) dX8_joins_245 rfl (by decide) rfl ?_
    exact z_pick [0, 1, 2] rfl (h T G B hY)
  · have h := h.2 hb
    refine z_aload_n dX8_joins_145 0 rfl rfl ?_
    refine z_getr (k := 28) (fc := 348) (r := 142) dX8_joins_146 ckX8 (by decide) fk_X8_72 rfl rfl (lat hY rfl) (lgg hY rfl) (by decide) ?_
    refine z_iload_n dX8_joins_149 1 rfl rfl ?_
    refine z_iconst (v := (-1)) dX8_joins_150 rfl ?_
    have hin1 := h.1
    have h := h.2
    refine z_iast' (n := 256) dX8_joins_151 (lat hY rfl) (lln hY rfl) hin1 ?_
    refine z_iconst (v := 0) dX8_joins_152 rfl ?_
    refine z_istore_n (lv' := [(0, .ref 122), (2, .int x2), (3, .int 0)]) dX8_joins_153 rfl (by decide) rfl ?_
    exact z_pick [0, 1, 2] rfl (h T G B hY)
set_option maxHeartbeats 4000000 in
set_option maxRecDepth 100000 in
theorem vX8_joins_69 {l : Launch} {w : Nat → Nat} {nb : Nat} {Q : PM} {x1 x2 x3 : Int32} {F A : MI}  (h : (((F 345 122) ≤ x3 → ZM l mX8_joins 3 w nb Q 59 [(0, .ref 122), (1, .int x1), (2, .int (x2 + 1))] [] F A) ∧ (¬ (F 345 122) ≤ x3 → ((¬ x2 = x3 → (vp_in x2 8 ∧ (vp_in x3 8 ∧ CM l mX8_ahead 2 w nb [.ref 122, .int x1, .int (A 140 x2.toNatClampNeg), .int (A 140 x3.toNatClampNeg)] F A (qi fun r3 F3 A3 => ZM l mX8_joins 3 w nb Q 113 [(0, .ref 122), (1, .int x1), (2, .int x2), (3, .int x3)] [.int r3, .int ((8 * x2) + x3), .ref 141] F3 A3)))) ∧ (x2 = x3 → ZM l mX8_joins 3 w nb Q 113 [(0, .ref 122), (1, .int x1), (2, .int x2), (3, .int x3)] [.int 0, .int ((8 * x2) + x3), .ref 141] F A))))) : ZM l mX8_joins 3 w nb Q 69 [(0, .ref 122), (1, .int x1), (2, .int x2), (3, .int x3)] [] F A := by
  intro T G B hY
  refine z_iload_n dX8_joins_69 3 rfl rfl ?_
  refine z_aload_n dX8_joins_70 0 rfl rfl ?_
  refine z_geti' (k := 25) (fc := 345) (x := (F 345 122)) dX8_joins_71 ckX8 (by decide) fk_X8_176 rfl rfl (lat hY rfl) rfl ?_
  refine z_icmp_ge (tgt := 120) dX8_joins_74 (by decide) (fun hb => ?_) (fun hb => ?_)
  · have h := h.1 hb
    refine z_iinc (v := (x2 + 1)) (lv' := [(0, .ref 122), (1, .int x1), (2, .int (x2 + 1)), (3, .int x3)]) dX8_joins_120 2 rfl rfl (by decide) rfl ?_
    refine z_goto (tgt := 59) dX8_joins_123 (by decide) ?_
    exact z_pick [0, 1, 2] rfl (h T G B hY)
  · have h := h.2 hb
    refine z_aload_n dX8_joins_77 0 rfl rfl ?_
    refine z_getr (k := 27) (fc := 347) (r := 141) dX8_joins_78 ckX8 (by decide) fk_X8_69 rfl rfl (lat hY rfl) (lgg hY rfl) (by decide) ?_
    refine z_bipush (v := 8) dX8_joins_81 rfl ?_
    refine z_iload_n dX8_joins_83 2 rfl rfl ?_
    refine z_imul dX8_joins_84 ?_
    refine z_iload_n dX8_joins_85 3 rfl rfl ?_
    refine z_iadd dX8_joins_86 ?_
    refine z_iload_n dX8_joins_87 2 rfl rfl ?_
    refine z_iload_n dX8_joins_88 3 rfl rfl ?_
    refine z_icmp_ne (tgt := 96) dX8_joins_89 (by decide) (fun hb => ?_) (fun hb => ?_)
    · have h := h.1 hb
      refine z_aload_n dX8_joins_96 0 rfl rfl ?_
      refine z_iload_n dX8_joins_97 1 rfl rfl ?_
      refine z_aload_n dX8_joins_98 0 rfl rfl ?_
      refine z_getr (k := 26) (fc := 346) (r := 140) dX8_joins_99 ckX8 (by decide) fk_X8_66 rfl rfl (lat hY rfl) (lgg hY rfl) (by decide) ?_
      refine z_iload_n dX8_joins_102 2 rfl rfl ?_
      have hin1 := h.1
      have h := h.2
      refine z_iald' (n := 8) (x := (A 140 x2.toNatClampNeg)) dX8_joins_103 (lat hY rfl) (lln hY rfl) hin1 rfl ?_
      refine z_aload_n dX8_joins_104 0 rfl rfl ?_
      refine z_getr (k := 26) (fc := 346) (r := 140) dX8_joins_105 ckX8 (by decide) fk_X8_66 rfl rfl (lat hY rfl) (lgg hY rfl) (by decide) ?_
      refine z_iload_n dX8_joins_108 3 rfl rfl ?_
      have hin2 := h.1
      have h := h.2
      refine z_iald' (n := 8) (x := (A 140 x3.toNatClampNeg)) dX8_joins_109 (lat hY rfl) (lln hY rfl) hin2 rfl ?_
      refine zm_Vi (As := [.int x1, .int (A 140 x2.toNatClampNeg), .int (A 140 x3.toNatClampNeg)]) (rest := [.int ((8 * x2) + x3), .ref 141]) dX8_joins_110 okX8_ahead ioX8_ahead mk_X8_179 (ci := 8) rfl (by decide) (lat hY rfl) rfl rfl (Nat.le_of_ble_eq_true rfl) (by decide) hY (CM.monoi h fun r3 F3 A3 h => ?_)
      exact z_pick [0, 1, 2, 3] rfl (h T G B hY)
    · have h := h.2 hb
      refine z_iconst (v := 0) dX8_joins_92 rfl ?_
      refine z_goto (tgt := 113) dX8_joins_93 (by decide) ?_
      exact z_pick [0, 1, 2, 3] rfl (h T G B hY)
set_option maxHeartbeats 4000000 in
set_option maxRecDepth 100000 in
theorem vX8_joins_246 {l : Launch} {w : Nat → Nat} {nb : Nat} {Q : PM} {x2 x3 : Int32} {F A : MI}  (h : (((F 345 122) ≤ x3 → Q none F A) ∧ (¬ (F 345 122) ≤ x3 → ZM l mX8_joins 3 w nb Q 257 [(0, .ref 122), (2, .int x2), (3, .int x3), (4, .int 0)] [] F A))) : ZM l mX8_joins 3 w nb Q 246 [(0, .ref 122), (2, .int x2), (3, .int x3)] [] F A := by
  intro T G B hY
  refine z_iload_n dX8_joins_246 2 rfl rfl ?_
  refine z_aload_n dX8_joins_247 0 rfl rfl ?_
  refine z_geti' (k := 25) (fc := 345) (x := (F 345 122)) dX8_joins_248 ckX8 (by decide) fk_X8_176 rfl rfl (lat hY rfl) rfl ?_
  refine z_icmp_ge (tgt := 330) dX8_joins_251 (by decide) (fun hb => ?_) (fun hb => ?_)
  · have h := h.1 hb
    exact z_vretM dX8_joins_330 rfl h
  · have h := h.2 hb
    refine z_iconst (v := 0) dX8_joins_254 rfl ?_
    refine z_istore (lv' := [(0, .ref 122), (2, .int x2), (3, .int x3), (4, .int 0)]) dX8_joins_255 (by decide) rfl ?_
    exact z_pick [0, 1, 2, 3] rfl (h T G B hY)
set_option maxHeartbeats 4000000 in
set_option maxRecDepth 100000 in
theorem vX8_joins_154 {l : Launch} {w : Nat → Nat} {nb : Nat} {Q : PM} {x2 x3 : Int32} {F A : MI}  (h : (((F 345 122) ≤ x3 → ZM l mX8_joins 3 w nb Q 135 [(0, .ref 122), (2, .int (x2 + 1))] [] F A) ∧ (¬ (F 345 122) ≤ x3 → CM l mX8_has 1 w nb [.int x2, .int x3] F A (qi fun r1 F1 A1 => ((¬ r1 = 0 → CM l mX8_cost 2 w nb [.ref 122, .int x3, .int x2] F1 A1 (qi fun r2 F2 A2 => (vp_in (x2 &&& ((1 <<< (x3 &&& 31)) ^^^ (-1))) 256 ∧ (vp_in x2 256 ∧ (((A2 142 x2.toNatClampNeg) = (-1) → ZM l mX8_joins 3 w nb Q 215 [(0, .ref 122), (2, .int x2), (3, .int x3), (4, .int (r2 + (A2 142 (x2 &&& ((1 <<< (x3 &&& 31)) ^^^ (-1))).toNatClampNeg)))] [] F2 A2) ∧ (¬ (A2 142 x2.toNatClampNeg) = (-1) → (vp_in x2 256 ∧ (((A2 142 x2.toNatClampNeg) ≤ (r2 + (A2 142 (x2 &&& ((1 <<< (x3 &&& 31)) ^^^ (-1))).toNatClampNeg)) → ZM l mX8_joins 3 w nb Q 223 [(0, .ref 122), (2, .int x2), (3, .int x3)] [] F2 A2) ∧ (¬ (A2 142 x2.toNatClampNeg) ≤ (r2 + (A2 142 (x2 &&& ((1 <<< (x3 &&& 31)) ^^^ (-1))).toNatClampNeg)) → ZM l mX8_joins 3 w nb Q 215 [(0, .ref 122), (2, .int x2), (3, .int x3), (4, .int (r2 + (A2 142 (x2 &&& ((1 <<< (x3 &&& 31)) ^^^ (-1))).toNatClampNeg)))] [] F2 A2))))))))) ∧ (r1 = 0 → ZM l mX8_joins 3 w nb Q 223 [(0, .ref 122), (2, .int x2), (3, .int x3)] [] F1 A1)))))) : ZM l mX8_joins 3 w nb Q 154 [(0, .ref 122), (2, .int x2), (3, .int x3)] [] F A := by
  intro T G B hY
  refine z_iload_n dX8_joins_154 2 rfl rfl ?_
  refine z_aload_n dX8_joins_155 0 rfl rfl ?_
  refine z_geti' (k := 25) (fc := 345) (x := (F 345 122)) dX8_joins_156 ckX8 (by decide) fk_X8_176 rfl rfl (lat hY rfl) rfl ?_
  refine z_icmp_ge (tgt := 229) dX8_joins_159 (by decide) (fun hb => ?_) (fun hb => ?_)
  · have h := h.1 hb
    refine z_iinc (v := (x2 + 1)) (lv' := [(0, .ref 122), (2, .int (x2 + 1)), (3, .int x3)]) dX8_joins_229 1 rfl rfl (by decide) rfl ?_
    refine z_goto (tgt := 135) dX8_joins_232 (by decide) ?_
    exact z_pick [0, 1] rfl (h T G B hY)
  · have h := h.2 hb
    refine z_iload_n dX8_joins_162 1 rfl rfl ?_
    refine z_iload_n dX8_joins_163 2 rfl rfl ?_
    refine zm_Si (As := [.int x2, .int x3]) (rest := []) dX8_joins_164 okX8_has smX8_has mk_X8_152 rfl rfl (Nat.le_of_ble_eq_true rfl) (by decide) hY (CM.monoi h fun r1 F1 A1 h => ?_)
    refine z_if_ne (tgt := 173) dX8_joins_167 (by decide) (fun hb => ?_) (fun hb => ?_)
    · have h := h.1 hb
      refine z_aload_n dX8_joins_173 0 rfl rfl ?_
      refine z_iload_n dX8_joins_174 2 rfl rfl ?_
      refine z_iload_n dX8_joins_175 1 rfl rfl ?_
      refine zm_Vi (As := [.int x3, .int x2]) (rest := []) dX8_joins_176 okX8_cost ioX8_cost mk_X8_182 (ci := 8) rfl (by decide) (lat hY rfl) rfl rfl (Nat.le_of_ble_eq_true rfl) (by decide) hY (CM.monoi h fun r2 F2 A2 h => ?_)
      refine z_aload_n dX8_joins_179 0 rfl rfl ?_
      refine z_getr (k := 28) (fc := 348) (r := 142) dX8_joins_180 ckX8 (by decide) fk_X8_72 rfl rfl (lat hY rfl) (lgg hY rfl) (by decide) ?_
      refine z_iload_n dX8_joins_183 1 rfl rfl ?_
      refine z_iconst (v := 1) dX8_joins_184 rfl ?_
      refine z_iload_n dX8_joins_185 2 rfl rfl ?_
      refine z_ishl dX8_joins_186 ?_
      refine z_iconst (v := (-1)) dX8_joins_187 rfl ?_
      refine z_ixor dX8_joins_188 ?_
      refine z_iand dX8_joins_189 ?_
      have hin3 := h.1
      have h := h.2
      refine z_iald' (n := 256) (x := (A2 142 (x2 &&& ((1 <<< (x3 &&& 31)) ^^^ (-1))).toNatClampNeg)) dX8_joins_190 (lat hY rfl) (lln hY rfl) hin3 rfl ?_
      refine z_iadd dX8_joins_191 ?_
      refine z_istore (lv' := [(0, .ref 122), (2, .int x2), (3, .int x3), (4, .int (r2 + (A2 142 (x2 &&& ((1 <<< (x3 &&& 31)) ^^^ (-1))).toNatClampNeg)))]) dX8_joins_192 (by decide) rfl ?_
      refine z_aload_n dX8_joins_194 0 rfl rfl ?_
      refine z_getr (k := 28) (fc := 348) (r := 142) dX8_joins_195 ckX8 (by decide) fk_X8_72 rfl rfl (lat hY rfl) (lgg hY rfl) (by decide) ?_
      refine z_iload_n dX8_joins_198 1 rfl rfl ?_
      have hin4 := h.1
      have h := h.2
      refine z_iald' (n := 256) (x := (A2 142 x2.toNatClampNeg)) dX8_joins_199 (lat hY rfl) (lln hY rfl) hin4 rfl ?_
      refine z_iconst (v := (-1)) dX8_joins_200 rfl ?_
      refine z_icmp_eq (tgt := 215) dX8_joins_201 (by decide) (fun hb => ?_) (fun hb => ?_)
      · have h := h.1 hb
        exact z_pick [0, 1, 2, 3] rfl (h T G B hY)
      · have h := h.2 hb
        refine z_iload dX8_joins_204 3 rfl ?_
        refine z_aload_n dX8_joins_206 0 rfl rfl ?_
        refine z_getr (k := 28) (fc := 348) (r := 142) dX8_joins_207 ckX8 (by decide) fk_X8_72 rfl rfl (lat hY rfl) (lgg hY rfl) (by decide) ?_
        refine z_iload_n dX8_joins_210 1 rfl rfl ?_
        have hin5 := h.1
        have h := h.2
        refine z_iald' (n := 256) (x := (A2 142 x2.toNatClampNeg)) dX8_joins_211 (lat hY rfl) (lln hY rfl) hin5 rfl ?_
        refine z_icmp_ge (tgt := 223) dX8_joins_212 (by decide) (fun hb => ?_) (fun hb => ?_)
        · have h := h.1 hb
          exact z_pick [0, 1, 2] rfl (h T G B hY)
        · have h := h.2 hb
          exact z_pick [0, 1, 2, 3] rfl (h T G B hY)
    · have h := h.2 hb
      refine z_goto (tgt := 223) dX8_joins_170 (by decide) ?_
      exact z_pick [0, 1, 2] rfl (h T G B hY)
set_option maxHeartbeats 4000000 in
set_option maxRecDepth 100000 in
theorem vX8_joins_113 {l : Launch} {w : Nat → Nat} {nb : Nat} {Q : PM} {x1 x2 x3 s0 s1 : Int32} {F A : MI}  (h : (vp_in s1 64 ∧ ZM l mX8_joins 3 w nb Q 69 [(0, .ref 122), (1, .int x1), (2, .int x2), (3, .int (x3 + 1))] [] F (u2 A 141 s1.toNatClampNeg s0))) : ZM l mX8_joins 3 w nb Q 113 [(0, .ref 122), (1, .int x1), (2, .int x2), (3, .int x3)] [.int s0, .int s1, .ref 141] F A := by
  intro T G B hY
  have hin1 := h.1
  have h := h.2
  refine z_iast' (n := 64) dX8_joins_113 (lat hY rfl) (lln hY rfl) hin1 ?_
  refine z_iinc (v := (x3 + 1)) (lv' := [(0, .ref 122), (1, .int x1), (2, .int x2), (3, .int (x3 + 1))]) dX8_joins_114 3 rfl rfl (by decide) rfl ?_
  refine z_goto (tgt := 69) dX8_joins_117 (by decide) ?_
  exact z_pick [0, 1, 2, 3] rfl (h T G B hY)
set_option maxHeartbeats 4000000 in
set_option maxRecDepth 100000 in
theorem vX8_joins_257 {l : Launch} {w : Nat → Nat} {nb : Nat} {Q : PM} {x2 x3 x4 : Int32} {F A : MI}  (h : CM l mX8_has 1 w nb [.int x2, .int x4] F A (qi fun r1 F1 A1 => ((r1 = 0 → ZM l mX8_joins 3 w nb Q 296 [(0, .ref 122), (2, .int x2), (3, .int x3), (4, .int x4)] [] F1 A1) ∧ (¬ r1 = 0 → CM l mX8_cost 2 w nb [.ref 122, .int x4, .int x2] F1 A1 (qi fun r2 F2 A2 => (vp_in (x2 &&& ((1 <<< (x4 &&& 31)) ^^^ (-1))) 256 ∧ (vp_in x2 256 ∧ (((r2 + (A2 142 (x2 &&& ((1 <<< (x4 &&& 31)) ^^^ (-1))).toNatClampNeg)) = (A2 142 x2.toNatClampNeg) → (vp_in x4 8 ∧ (vp_in x3 8 ∧ ZM l mX8_joins 3 w nb Q 246 [(0, .ref 122), (2, .int (x2 &&& ((1 <<< (x4 &&& 31)) ^^^ (-1)))), (3, .int (x3 + 1))] [] F2 (u2 A2 143 x3.toNatClampNeg (A2 140 x4.toNatClampNeg))))) ∧ (¬ (r2 + (A2 142 (x2 &&& ((1 <<< (x4 &&& 31)) ^^^ (-1))).toNatClampNeg)) = (A2 142 x2.toNatClampNeg) → ZM l mX8_joins 3 w nb Q 296 [(0, .ref 122), (2, .int x2), (3, .int x3), (4, .int x4)] [] F2 A2))))))))) : ZM l mX8_joins 3 w nb Q 257 [(0, .ref 122), (2, .int x2), (3, .int x3), (4, .int x4)] [] F A := by
  intro T G B hY
  refine z_iload_n dX8_joins_257 1 rfl rfl ?_
  refine z_iload dX8_joins_258 3 rfl ?_
  refine zm_Si (As := [.int x2, .int x4]) (rest := []) dX8_joins_260 okX8_has smX8_has mk_X8_152 rfl rfl (Nat.le_of_ble_eq_true rfl) (by decide) hY (CM.monoi h fun r1 F1 A1 h => ?_)
  refine z_if_eq (tgt := 296) dX8_joins_263 (by decide) (fun hb => ?_) (fun hb => ?_)
  · have h := h.1 hb
    exact z_pick [0, 1, 2, 3] rfl (h T G B hY)
  · have h := h.2 hb
    refine z_aload_n dX8_joins_266 0 rfl rfl ?_
    refine z_iload dX8_joins_267 3 rfl ?_
    refine z_iload_n dX8_joins_269 1 rfl rfl ?_
    refine zm_Vi (As := [.int x4, .int x2]) (rest := []) dX8_joins_270 okX8_cost ioX8_cost mk_X8_182 (ci := 8) rfl (by decide) (lat hY rfl) rfl rfl (Nat.le_of_ble_eq_true rfl) (by decide) hY (CM.monoi h fun r2 F2 A2 h => ?_)
    refine z_aload_n dX8_joins_273 0 rfl rfl ?_
    refine z_getr (k := 28) (fc := 348) (r := 142) dX8_joins_274 ckX8 (by decide) fk_X8_72 rfl rfl (lat hY rfl) (lgg hY rfl) (by decide) ?_
    refine z_iload_n dX8_joins_277 1 rfl rfl ?_
    refine z_iconst (v := 1) dX8_joins_278 rfl ?_
    refine z_iload dX8_joins_279 3 rfl ?_
    refine z_ishl dX8_joins_281 ?_
    refine z_iconst (v := (-1)) dX8_joins_282 rfl ?_
    refine z_ixor dX8_joins_283 ?_
    refine z_iand dX8_joins_284 ?_
    have hin3 := h.1
    have h := h.2
    refine z_iald' (n := 256) (x := (A2 142 (x2 &&& ((1 <<< (x4 &&& 31)) ^^^ (-1))).toNatClampNeg)) dX8_joins_285 (lat hY rfl) (lln hY rfl) hin3 rfl ?_
    refine z_iadd dX8_joins_286 ?_
    refine z_aload_n dX8_joins_287 0 rfl rfl ?_
    refine z_getr (k := 28) (fc := 348) (r := 142) dX8_joins_288 ckX8 (by decide) fk_X8_72 rfl rfl (lat hY rfl) (lgg hY rfl) (by decide) ?_
    refine z_iload_n dX8_joins_291 1 rfl rfl ?_
    have hin4 := h.1
    have h := h.2
    refine z_iald' (n := 256) (x := (A2 142 x2.toNatClampNeg)) dX8_joins_292 (lat hY rfl) (lln hY rfl) hin4 rfl ?_
    refine z_icmp_eq (tgt := 302) dX8_joins_293 (by decide) (fun hb => ?_) (fun hb => ?_)
    · have h := h.1 hb
      refine z_aload_n dX8_joins_302 0 rfl rfl ?_
      refine z_getr (k := 29) (fc := 349) (r := 143) dX8_joins_303 ckX8 (by decide) fk_X8_75 rfl rfl (lat hY rfl) (lgg hY rfl) (by decide) ?_
      refine z_iload_n dX8_joins_306 2 rfl rfl ?_
      refine z_aload_n dX8_joins_307 0 rfl rfl ?_
      refine z_getr (k := 26) (fc := 346) (r := 140) dX8_joins_308 ckX8 (by decide) fk_X8_66 rfl rfl (lat hY rfl) (lgg hY rfl) (by decide) ?_
      refine z_iload dX8_joins_311 3 rfl ?_
      have hin5 := h.1
      have h := h.2
      refine z_iald' (n := 8) (x := (A2 140 x4.toNatClampNeg)) dX8_joins_313 (lat hY rfl) (lln hY rfl) hin5 rfl ?_
      have hin6 := h.1
      have h := h.2
      refine z_iast' (n := 8) dX8_joins_314 (lat hY rfl) (lln hY rfl) hin6 ?_
      refine z_iload_n dX8_joins_315 1 rfl rfl ?_
      refine z_iconst (v := 1) dX8_joins_316 rfl ?_
      refine z_iload dX8_joins_317 3 rfl ?_
      refine z_ishl dX8_joins_319 ?_
      refine z_iconst (v := (-1)) dX8_joins_320 rfl ?_
      refine z_ixor dX8_joins_321 ?_
      refine z_iand dX8_joins_322 ?_
      refine z_istore_n (lv' := [(0, .ref 122), (2, .int (x2 &&& ((1 <<< (x4 &&& 31)) ^^^ (-1)))), (3, .int x3), (4, .int x4)]) dX8_joins_323 rfl (by decide) rfl ?_
      refine z_iinc (v := (x3 + 1)) (lv' := [(0, .ref 122), (2, .int (x2 &&& ((1 <<< (x4 &&& 31)) ^^^ (-1)))), (3, .int (x3 + 1)), (4, .int x4)]) dX8_joins_324 2 rfl rfl (by decide) rfl ?_
      refine z_goto (tgt := 246) dX8_joins_327 (by decide) ?_
      exact z_pick [0, 1, 2] rfl (h T G B hY)
    · have h := h.2 hb
      exact z_pick [0, 1, 2, 3] rfl (h T G B hY)
set_option maxHeartbeats 4000000 in
set_option maxRecDepth 100000 in
theorem vX8_joins_215 {l : Launch} {w : Nat → Nat} {nb : Nat} {Q : PM} {x2 x3 x4 : Int32} {F A : MI}  (h : (vp_in x2 256 ∧ ZM l mX8_joins 3 w nb Q 223 [(0, .ref 122), (2, .int x2), (3, .int x3)] [] F (u2 A 142 x2.toNatClampNeg x4))) : ZM l mX8_joins 3 w nb Q 215 [(0, .ref 122), (2, .int x2), (3, .int x3), (4, .int x4)] [] F A := by
  intro T G B hY
  refine z_aload_n dX8_joins_215 0 rfl rfl ?_
  refine z_getr (k := 28) (fc := 348) (r := 142) dX8_joins_216 ckX8 (by decide) fk_X8_72 rfl rfl (lat hY rfl) (lgg hY rfl) (by decide) ?_
  refine z_iload_n dX8_joins_219 1 rfl rfl ?_
  refine z_iload dX8_joins_220 3 rfl ?_
  have hin1 := h.1
  have h := h.2
  refine z_iast' (n := 256) dX8_joins_222 (lat hY rfl) (lln hY rfl) hin1 ?_
  exact z_pick [0, 1, 2] rfl (h T G B hY)
set_option maxHeartbeats 4000000 in
set_option maxRecDepth 100000 in
theorem vX8_joins_223 {l : Launch} {w : Nat → Nat} {nb : Nat} {Q : PM} {x2 x3 : Int32} {F A : MI}  (h : ZM l mX8_joins 3 w nb Q 154 [(0, .ref 122), (2, .int x2), (3, .int (x3 + 1))] [] F A) : ZM l mX8_joins 3 w nb Q 223 [(0, .ref 122), (2, .int x2), (3, .int x3)] [] F A := by
  intro T G B hY
  refine z_iinc (v := (x3 + 1)) (lv' := [(0, .ref 122), (2, .int x2), (3, .int (x3 + 1))]) dX8_joins_223 2 rfl rfl (by decide) rfl ?_
  refine z_goto (tgt := 154) dX8_joins_226 (by decide) ?_
  exact z_pick [0, 1, 2] rfl (h T G B hY)
set_option maxHeartbeats 4000000 in
set_option maxRecDepth 100000 in
theorem vX8_joins_296 {l : Launch} {w : Nat → Nat} {nb : Nat} {Q : PM} {x2 x3 x4 : Int32} {F A : MI}  (h : ZM l mX8_joins 3 w nb Q 257 [(0, .ref 122), (2, .int x2), (3, .int x3), (4, .int (x4 + 1))] [] F A) : ZM l mX8_joins 3 w nb Q 296 [(0, .ref 122), (2, .int x2), (3, .int x3), (4, .int x4)] [] F A := by
  intro T G B hY
  refine z_iinc (v := (x4 + 1)) (lv' := [(0, .ref 122), (2, .int x2), (3, .int x3), (4, .int (x4 + 1))]) dX8_joins_296 3 rfl rfl (by decide) rfl ?_
  refine z_goto (tgt := 257) dX8_joins_299 (by decide) ?_
  exact z_pick [0, 1, 2, 3] rfl (h T G B hY)
set_option maxHeartbeats 4000000 in
set_option maxRecDepth 100000 in
theorem vX8_measure_0 {l : Launch} {w : Nat → Nat} {nb : Nat} {Q : PM} {x1 x2 x3 : Int32} {F A : MI}  (h : CM l mX8_isBeast 2 w nb [.ref 122, .int x1] F A (qi fun r1 F1 A1 => ((r1 = 0 → Q (some (.int 0)) F1 A1) ∧ (¬ r1 = 0 → CM l mX8_lies 1 w nb [.int x2, .int 0, .int 2] F1 A1 (qi fun r2 F2 A2 => ((r2 = 0 → Q (some (.int 0)) F2 A2) ∧ (¬ r2 = 0 → CM l mX8_lies 1 w nb [.int x3, .int 0, .int 99] F2 A2 (qi fun r3 F3 A3 => ((¬ r3 = 0 → (vp_in ((3 * x1) + x2) 60 ∧ Q (some (.int 1)) F3 (u2 A3 128 ((3 * x1) + x2).toNatClampNeg x3))) ∧ (r3 = 0 → Q (some (.int 0)) F3 A3)))))))))) : ZM l mX8_measure 3 w nb Q 0 [(0, .ref 122), (1, .int x1), (2, .int x2), (3, .int x3)] [] F A := by
  intro T G B hY
  refine z_aload_n dX8_measure_0 0 rfl rfl ?_
  refine z_iload_n dX8_measure_1 1 rfl rfl ?_
  refine zm_Vi (As := [.int x1]) (rest := []) dX8_measure_2 okX8_isBeast ioX8_isBeast mk_X8_149 (ci := 8) rfl (by decide) (lat hY rfl) rfl rfl (Nat.le_of_ble_eq_true rfl) (by decide) hY (CM.monoi h fun r1 F1 A1 h => ?_)
  refine z_if_eq (tgt := 27) dX8_measure_5 (by decide) (fun hb => ?_) (fun hb => ?_)
  · have h := h.1 hb
    refine z_iconst (v := 0) dX8_measure_27 rfl ?_
    exact z_zretM dX8_measure_28 rfl (by decide) h
  · have h := h.2 hb
    refine z_iload_n dX8_measure_8 2 rfl rfl ?_
    refine z_iconst (v := 0) dX8_measure_9 rfl ?_
    refine z_iconst (v := 2) dX8_measure_10 rfl ?_
    refine zm_Si (As := [.int x2, .int 0, .int 2]) (rest := []) dX8_measure_11 okX8_lies smX8_lies mk_X8_87 rfl rfl (Nat.le_of_ble_eq_true rfl) (by decide) hY (CM.monoi h fun r2 F2 A2 h => ?_)
    refine z_if_eq (tgt := 27) dX8_measure_14 (by decide) (fun hb => ?_) (fun hb => ?_)
    · have h := h.1 hb
      refine z_iconst (v := 0) dX8_measure_27 rfl ?_
      exact z_zretM dX8_measure_28 rfl (by decide) h
    · have h := h.2 hb
      refine z_iload_n dX8_measure_17 3 rfl rfl ?_
      refine z_iconst (v := 0) dX8_measure_18 rfl ?_
      refine z_bipush (v := 99) dX8_measure_19 rfl ?_
      refine zm_Si (As := [.int x3, .int 0, .int 99]) (rest := []) dX8_measure_21 okX8_lies smX8_lies mk_X8_87 rfl rfl (Nat.le_of_ble_eq_true rfl) (by decide) hY (CM.monoi h fun r3 F3 A3 h => ?_)
      refine z_if_ne (tgt := 29) dX8_measure_24 (by decide) (fun hb => ?_) (fun hb => ?_)
      · have h := h.1 hb
        refine z_aload_n dX8_measure_29 0 rfl rfl ?_
        refine z_getr (k := 8) (fc := 328) (r := 128) dX8_measure_30 ckX8 (by decide) fk_X8_30 rfl rfl (lat hY rfl) (lgg hY rfl) (by decide) ?_
        refine z_iconst (v := 3) dX8_measure_33 rfl ?_
        refine z_iload_n dX8_measure_34 1 rfl rfl ?_
        refine z_imul dX8_measure_35 ?_
        refine z_iload_n dX8_measure_36 2 rfl rfl ?_
        refine z_iadd dX8_measure_37 ?_
        refine z_iload_n dX8_measure_38 3 rfl rfl ?_
        have hin4 := h.1
        have h := h.2
        refine z_iast' (n := 60) dX8_measure_39 (lat hY rfl) (lln hY rfl) hin4 ?_
        refine z_iconst (v := 1) dX8_measure_40 rfl ?_
        exact z_zretM dX8_measure_41 rfl (by decide) h
      · have h := h.2 hb
        refine z_iconst (v := 0) dX8_measure_27 rfl ?_
        exact z_zretM dX8_measure_28 rfl (by decide) h
theorem kX8_measure {l : Launch} {w : Nat → Nat} {nb : Nat} {Q : PM} {x1 x2 x3 : Int32} {F A : MI}  (h : CM l mX8_isBeast 2 w nb [.ref 122, .int x1] F A (qi fun r1 F1 A1 => ((r1 = 0 → Q (some (.int 0)) F1 A1) ∧ (¬ r1 = 0 → CM l mX8_lies 1 w nb [.int x2, .int 0, .int 2] F1 A1 (qi fun r2 F2 A2 => ((r2 = 0 → Q (some (.int 0)) F2 A2) ∧ (¬ r2 = 0 → CM l mX8_lies 1 w nb [.int x3, .int 0, .int 99] F2 A2 (qi fun r3 F3 A3 => ((¬ r3 = 0 → (vp_in ((3 * x1) + x2) 60 ∧ Q (some (.int 1)) F3 (u2 A3 128 ((3 * x1) + x2).toNatClampNeg x3))) ∧ (r3 = 0 → Q (some (.int 0)) F3 A3)))))))))) : CM l mX8_measure 3 w nb [.ref 122, .int x1, .int x2, .int x3] F A Q := CM.ofZ (by decide) (fun _ _ => rfl) (fun _ _ => Nat.le_of_ble_eq_true rfl) (vX8_measure_0  h)
set_option maxHeartbeats 4000000 in
set_option maxRecDepth 100000 in
theorem vX8_order_0 {l : Launch} {w : Nat → Nat} {nb : Nat} {Q : PM} {x1 x2 : Int32} {F A : MI}  (h : CM l mX8_lies 1 w nb [.int x1, .int 0, .int 5] F A (qi fun r1 F1 A1 => ((r1 = 0 → Q (some (.int 0)) F1 A1) ∧ (¬ r1 = 0 → CM l mX8_isClass 2 w nb [.int x2] F1 A1 (qi fun r2 F2 A2 => ((¬ r2 = 0 → (vp_in x2 6 ∧ CM l mX8_sizeOf 1 w nb [.int (A2 134 x2.toNatClampNeg)] F2 A2 (qi fun r4 F4 A4 => ((r4 = 0 → Q (some (.int 0)) F4 A4) ∧ (¬ r4 = 0 → ((r4 ≤ (F4 321 122) → (vp_in x1 6 ∧ (vp_in x2 6 ∧ ((¬ ((A4 136 x1.toNatClampNeg) &&& (A4 134 x2.toNatClampNeg)) = 0 → Q (some (.int 0)) (u2 F4 321 122 0) A4) ∧ (((A4 136 x1.toNatClampNeg) &&& (A4 134 x2.toNatClampNeg)) = 0 → (vp_in x2 6 ∧ CM l mX8_isRowOf 2 w nb [.ref 122, .int (A4 134 x2.toNatClampNeg)] (u2 F4 321 122 0) A4 (qi fun r8 F8 A8 => ((¬ r8 = 0 → (vp_in ((6 * x1) + x2) 36 ∧ ZM l mX8_order 3 w nb Q 93 [(0, .ref 122), (1, .int x1), (2, .int x2), (3, .int r4), (4, .int 0)] [] F8 (u2 A8 137 ((6 * x1) + x2).toNatClampNeg r4))) ∧ (r8 = 0 → Q (some (.int 0)) F8 A8))))))))) ∧ (¬ r4 ≤ (F4 321 122) → Q (some (.int 0)) F4 A4))))))) ∧ (r2 = 0 → Q (some (.int 0)) F2 A2))))))) : ZM l mX8_order 3 w nb Q 0 [(0, .ref 122), (1, .int x1), (2, .int x2)] [] F A := by
  intro T G B hY
  refine z_iload_n dX8_order_0 1 rfl rfl ?_
  refine z_iconst (v := 0) dX8_order_1 rfl ?_
  refine z_iconst (v := 5) dX8_order_2 rfl ?_
  refine zm_Si (As := [.int x1, .int 0, .int 5]) (rest := []) dX8_order_3 okX8_lies smX8_lies mk_X8_87 rfl rfl (Nat.le_of_ble_eq_true rfl) (by decide) hY (CM.monoi h fun r1 F1 A1 h => ?_)
  refine z_if_eq (tgt := 16) dX8_order_6 (by decide) (fun hb => ?_) (fun hb => ?_)
  · have h := h.1 hb
    refine z_iconst (v := 0) dX8_order_16 rfl ?_
    exact z_zretM dX8_order_17 rfl (by decide) h
  · have h := h.2 hb
    refine z_iload_n dX8_order_9 2 rfl rfl ?_
    refine zm_Si (As := [.int x2]) (rest := []) dX8_order_10 okX8_isClass smX8_isClass mk_X8_139 rfl rfl (Nat.le_of_ble_eq_true rfl) (by decide) hY (CM.monoi h fun r2 F2 A2 h => ?_)
    refine z_if_ne (tgt := 18) dX8_order_13 (by decide) (fun hb => ?_) (fun hb => ?_)
    · have h := h.1 hb
      refine z_aload_n dX8_order_18 0 rfl rfl ?_
      refine z_getr (k := 15) (fc := 335) (r := 134) dX8_order_19 ckX8 (by decide) fk_X8_48 rfl rfl (lat hY rfl) (lgg hY rfl) (by decide) ?_
      refine z_iload_n dX8_order_22 2 rfl rfl ?_
      have hin3 := h.1
      have h := h.2
      refine z_iald' (n := 6) (x := (A2 134 x2.toNatClampNeg)) dX8_order_23 (lat hY rfl) (lln hY rfl) hin3 rfl ?_
      refine zm_Si (As := [.int (A2 134 x2.toNatClampNeg)]) (rest := []) dX8_order_24 okX8_sizeOf smX8_sizeOf mk_X8_162 rfl rfl (Nat.le_of_ble_eq_true rfl) (by decide) hY (CM.monoi h fun r4 F4 A4 h => ?_)
      refine z_istore_n (lv' := [(0, .ref 122), (1, .int x1), (2, .int x2), (3, .int r4)]) dX8_order_27 rfl (by decide) rfl ?_
      refine z_iload_n dX8_order_28 3 rfl rfl ?_
      refine z_if_eq (tgt := 40) dX8_order_29 (by decide) (fun hb => ?_) (fun hb => ?_)
      · have h := h.1 hb
        refine z_iconst (v := 0) dX8_order_40 rfl ?_
        exact z_zretM dX8_order_41 rfl (by decide) h
      · have h := h.2 hb
        refine z_aload_n dX8_order_32 0 rfl rfl ?_
        refine z_geti' (k := 1) (fc := 321) (x := (F4 321 122)) dX8_order_33 ckX8 (by decide) fk_X8_94 rfl rfl (lat hY rfl) rfl ?_
        refine z_iload_n dX8_order_36 3 rfl rfl ?_
        refine z_icmp_ge (tgt := 42) dX8_order_37 (by decide) (fun hb => ?_) (fun hb => ?_)
        · have h := h.1 hb
          refine z_aload_n dX8_order_42 0 rfl rfl ?_
          refine z_iconst (v := 0) dX8_order_43 rfl ?_
          refine z_puti (k := 1) (fc := 321) dX8_order_44 ckX8 (by decide) fk_X8_94 rfl rfl rfl (lat hY rfl) ?_
          refine z_aload_n dX8_order_47 0 rfl rfl ?_
          refine z_getr (k := 17) (fc := 337) (r := 136) dX8_order_48 ckX8 (by decide) fk_X8_54 rfl rfl (lat hY rfl) (lgg hY rfl) (by decide) ?_
          refine z_iload_n dX8_order_51 1 rfl rfl ?_
          have hin5 := h.1
          have h := h.2
          refine z_iald' (n := 6) (x := (A4 136 x1.toNatClampNeg)) dX8_order_52 (lat hY rfl) (lln hY rfl) hin5 rfl ?_
          refine z_aload_n dX8_order_53 0 rfl rfl ?_
          refine z_getr (k := 15) (fc := 335) (r := 134) dX8_order_54 ckX8 (by decide) fk_X8_48 rfl rfl (lat hY rfl) (lgg hY rfl) (by decide) ?_
          refine z_iload_n dX8_order_57 2 rfl rfl ?_
          have hin6 := h.1
          have h := h.2
          refine z_iald' (n := 6) (x := (A4 134 x2.toNatClampNeg)) dX8_order_58 (lat hY rfl) (lln hY rfl) hin6 rfl ?_
          refine z_iand dX8_order_59 ?_
          refine z_if_ne (tgt := 76) dX8_order_60 (by decide) (fun hb => ?_) (fun hb => ?_)
          · have h := h.1 hb
            refine z_iconst (v := 0) dX8_order_76 rfl ?_
            exact z_zretM dX8_order_77 rfl (by decide) h
          · have h := h.2 hb
            refine z_aload_n dX8_order_63 0 rfl rfl ?_
            refine z_aload_n dX8_order_64 0 rfl rfl ?_
            refine z_getr (k := 15) (fc := 335) (r := 134) dX8_order_65 ckX8 (by decide) fk_X8_48 rfl rfl (lat hY rfl) (lgg hY rfl) (by decide) ?_
            refine z_iload_n dX8_order_68 2 rfl rfl ?_
            have hin7 := h.1
            have h := h.2
            refine z_iald' (n := 6) (x := (A4 134 x2.toNatClampNeg)) dX8_order_69 (lat hY rfl) (lln hY rfl) hin7 rfl ?_
            refine zm_Vi (As := [.int (A4 134 x2.toNatClampNeg)]) (rest := []) dX8_order_70 okX8_isRowOf ioX8_isRowOf mk_X8_166 (ci := 8) rfl (by decide) (lat hY rfl) rfl rfl (Nat.le_of_ble_eq_true rfl) (by decide) hY (CM.monoi h fun r8 F8 A8 h => ?_)
            refine z_if_ne (tgt := 78) dX8_order_73 (by decide) (fun hb => ?_) (fun hb => ?_)
            · have h := h.1 hb
              refine z_aload_n dX8_order_78 0 rfl rfl ?_
              refine z_getr (k := 18) (fc := 338) (r := 137) dX8_order_79 ckX8 (by decide) fk_X8_57 rfl rfl (lat hY rfl) (lgg hY rfl) (by decide) ?_
              refine z_bipush (v := 6) dX8_order_82 rfl ?_
              refine z_iload_n dX8_order_84 1 rfl rfl ?_
              refine z_imul dX8_order_85 ?_
              refine z_iload_n dX8_order_86 2 rfl rfl ?_
              refine z_iadd dX8_order_87 ?_
              refine z_iload_n dX8_order_88 3 rfl rfl ?_
              have hin9 := h.1
              have h := h.2
              refine z_iast' (n := 36) dX8_order_89 (lat hY rfl) (lln hY rfl) hin9 ?_
              refine z_iconst (v := 0) dX8_order_90 rfl ?_
              refine z_istore (lv' := [(0, .ref 122), (1, .int x1), (2, .int x2), (3, .int r4), (4, .int 0)]) dX8_order_91 (by decide) rfl ?_
              exact z_pick [0, 1, 2, 3, 4] rfl (h T G B hY)
            · have h := h.2 hb
              refine z_iconst (v := 0) dX8_order_76 rfl ?_
              exact z_zretM dX8_order_77 rfl (by decide) h
        · have h := h.2 hb
          refine z_iconst (v := 0) dX8_order_40 rfl ?_
          exact z_zretM dX8_order_41 rfl (by decide) h
    · have h := h.2 hb
      refine z_iconst (v := 0) dX8_order_16 rfl ?_
      exact z_zretM dX8_order_17 rfl (by decide) h
theorem kX8_order {l : Launch} {w : Nat → Nat} {nb : Nat} {Q : PM} {x1 x2 : Int32} {F A : MI}  (h : CM l mX8_lies 1 w nb [.int x1, .int 0, .int 5] F A (qi fun r1 F1 A1 => ((r1 = 0 → Q (some (.int 0)) F1 A1) ∧ (¬ r1 = 0 → CM l mX8_isClass 2 w nb [.int x2] F1 A1 (qi fun r2 F2 A2 => ((¬ r2 = 0 → (vp_in x2 6 ∧ CM l mX8_sizeOf 1 w nb [.int (A2 134 x2.toNatClampNeg)] F2 A2 (qi fun r4 F4 A4 => ((r4 = 0 → Q (some (.int 0)) F4 A4) ∧ (¬ r4 = 0 → ((r4 ≤ (F4 321 122) → (vp_in x1 6 ∧ (vp_in x2 6 ∧ ((¬ ((A4 136 x1.toNatClampNeg) &&& (A4 134 x2.toNatClampNeg)) = 0 → Q (some (.int 0)) (u2 F4 321 122 0) A4) ∧ (((A4 136 x1.toNatClampNeg) &&& (A4 134 x2.toNatClampNeg)) = 0 → (vp_in x2 6 ∧ CM l mX8_isRowOf 2 w nb [.ref 122, .int (A4 134 x2.toNatClampNeg)] (u2 F4 321 122 0) A4 (qi fun r8 F8 A8 => ((¬ r8 = 0 → (vp_in ((6 * x1) + x2) 36 ∧ ZM l mX8_order 3 w nb Q 93 [(0, .ref 122), (1, .int x1), (2, .int x2), (3, .int r4), (4, .int 0)] [] F8 (u2 A8 137 ((6 * x1) + x2).toNatClampNeg r4))) ∧ (r8 = 0 → Q (some (.int 0)) F8 A8))))))))) ∧ (¬ r4 ≤ (F4 321 122) → Q (some (.int 0)) F4 A4))))))) ∧ (r2 = 0 → Q (some (.int 0)) F2 A2))))))) : CM l mX8_order 3 w nb [.ref 122, .int x1, .int x2] F A Q := CM.ofZ (by decide) (fun _ _ => rfl) (fun _ _ => Nat.le_of_ble_eq_true rfl) (vX8_order_0  h)
set_option maxHeartbeats 4000000 in
set_option maxRecDepth 100000 in
theorem vX8_order_93 {l : Launch} {w : Nat → Nat} {nb : Nat} {Q : PM} {x1 x2 x3 x4 : Int32} {F A : MI}  (h : ((x3 ≤ x4 → Q (some (.int 1)) F A) ∧ (¬ x3 ≤ x4 → (vp_in x4 80 ∧ (vp_in ((8 * ((6 * x1) + x2)) + x4) 288 ∧ ZM l mX8_order 3 w nb Q 93 [(0, .ref 122), (1, .int x1), (2, .int x2), (3, .int x3), (4, .int (x4 + 1))] [] F (u2 A 138 ((8 * ((6 * x1) + x2)) + x4).toNatClampNeg (A 123 x4.toNatClampNeg))))))) : ZM l mX8_order 3 w nb Q 93 [(0, .ref 122), (1, .int x1), (2, .int x2), (3, .int x3), (4, .int x4)] [] F A := by
  intro T G B hY
  refine z_iload dX8_order_93 4 rfl ?_
  refine z_iload_n dX8_order_95 3 rfl rfl ?_
  refine z_icmp_ge (tgt := 129) dX8_order_96 (by decide) (fun hb => ?_) (fun hb => ?_)
  · have h := h.1 hb
    refine z_iconst (v := 1) dX8_order_129 rfl ?_
    exact z_zretM dX8_order_130 rfl (by decide) h
  · have h := h.2 hb
    refine z_aload_n dX8_order_99 0 rfl rfl ?_
    refine z_getr (k := 19) (fc := 339) (r := 138) dX8_order_100 ckX8 (by decide) fk_X8_60 rfl rfl (lat hY rfl) (lgg hY rfl) (by decide) ?_
    refine z_bipush (v := 8) dX8_order_103 rfl ?_
    refine z_bipush (v := 6) dX8_order_105 rfl ?_
    refine z_iload_n dX8_order_107 1 rfl rfl ?_
    refine z_imul dX8_order_108 ?_
    refine z_iload_n dX8_order_109 2 rfl rfl ?_
    refine z_iadd dX8_order_110 ?_
    refine z_imul dX8_order_111 ?_
    refine z_iload dX8_order_112 4 rfl ?_
    refine z_iadd dX8_order_114 ?_
    refine z_aload_n dX8_order_115 0 rfl rfl ?_
    refine z_getr (k := 0) (fc := 320) (r := 123) dX8_order_116 ckX8 (by decide) fk_X8_7 rfl rfl (lat hY rfl) (lgg hY rfl) (by decide) ?_
    refine z_iload dX8_order_119 4 rfl ?_
    have hin1 := h.1
    have h := h.2
    refine z_bald' (n := 80) (x := (A 123 x4.toNatClampNeg)) dX8_order_121 (lat hY rfl) (lln hY rfl) hin1 rfl ?_
    have hin2 := h.1
    have h := h.2
    refine z_iast' (n := 288) dX8_order_122 (lat hY rfl) (lln hY rfl) hin2 ?_
    refine z_iinc (v := (x4 + 1)) (lv' := [(0, .ref 122), (1, .int x1), (2, .int x2), (3, .int x3), (4, .int (x4 + 1))]) dX8_order_123 4 rfl rfl (by decide) rfl ?_
    refine z_goto (tgt := 93) dX8_order_126 (by decide) ?_
    exact z_pick [0, 1, 2, 3, 4] rfl (h T G B hY)
