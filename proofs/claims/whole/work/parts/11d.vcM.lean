theorem kX8_placed {l : Launch} {w : Nat → Nat} {nb : Nat} {Q : PM} {x1 x2 : Int32} {F A : MI}  (h : CM l mX8_isClass 2 w nb [.int x1] F A (qi fun r1 F1 A1 => ((¬ r1 = 0 → CM l mX8_joins 3 w nb [.ref 122, .int x1] F1 A1 (qv fun F2 A2 => CM l mX8_lies 1 w nb [.int x2, .int 1, .int (F2 345 122)] F2 A2 (qi fun r3 F3 A3 => ((r3 = 0 → Q (some (.int (-1))) F3 A3) ∧ (¬ r3 = 0 → (vp_in (x2 - 1) 8 ∧ Q (some (.int (A3 143 (x2 - 1).toNatClampNeg))) F3 A3)))))) ∧ (r1 = 0 → Q (some (.int (-1))) F1 A1)))) : CM l mX8_placed 4 w nb [.ref 122, .int x1, .int x2] F A Q := CM.ofZ (by decide) (fun _ _ => rfl) (fun _ _ => Nat.le_of_ble_eq_true rfl) (vX8_placed_0  h)
set_option maxHeartbeats 4000000 in
set_option maxRecDepth 100000 in
theorem vX8_price_0 {l : Launch} {w : Nat → Nat} {nb : Nat} {Q : PM} {x1 : Int32} {F A : MI}  (h : CM l mX8_isBeast 2 w nb [.ref 122, .int x1] F A (qi fun r1 F1 A1 => ((¬ r1 = 0 → ZM l mX8_price 4 w nb Q 15 [(0, .ref 122), (1, .int x1), (2, .int 100), (3, .int 0)] [] F1 A1) ∧ (r1 = 0 → Q (some (.int (-1))) F1 A1)))) : ZM l mX8_price 4 w nb Q 0 [(0, .ref 122), (1, .int x1)] [] F A := by
  intro T G B hY
  refine z_aload_n dX8_price_0 0 rfl rfl ?_
  refine z_iload_n dX8_price_1 1 rfl rfl ?_
  refine zm_Vi (As := [.int x1]) (rest := []) dX8_price_2 okX8_isBeast ioX8_isBeast mk_X8_149 (ci := 8) rfl (by decide) (lat hY rfl) rfl rfl (Nat.le_of_ble_eq_true rfl) (by decide) hY (CM.monoi h fun r1 F1 A1 h => ?_)
  refine z_if_ne (tgt := 10) dX8_price_5 (by decide) (fun hb => ?_) (fun hb => ?_)
  · have h := h.1 hb
    refine z_bipush (v := 100) dX8_price_10 rfl ?_
    refine z_istore_n (lv' := [(0, .ref 122), (1, .int x1), (2, .int 100)]) dX8_price_12 rfl (by decide) rfl ?_
    refine z_iconst (v := 0) dX8_price_13 rfl ?_
    refine z_istore_n (lv' := [(0, .ref 122), (1, .int x1), (2, .int 100), (3, .int 0)]) dX8_price_14 rfl (by decide) rfl ?_
    exact z_pick [0, 1, 2, 3] rfl (h T G B hY)
  · have h := h.2 hb
    refine z_iconst (v := (-1)) dX8_price_8 rfl ?_
    exact z_iretM dX8_price_9 rfl h
theorem kX8_price {l : Launch} {w : Nat → Nat} {nb : Nat} {Q : PM} {x1 : Int32} {F A : MI}  (h : CM l mX8_isBeast 2 w nb [.ref 122, .int x1] F A (qi fun r1 F1 A1 => ((¬ r1 = 0 → ZM l mX8_price 4 w nb Q 15 [(0, .ref 122), (1, .int x1), (2, .int 100), (3, .int 0)] [] F1 A1) ∧ (r1 = 0 → Q (some (.int (-1))) F1 A1)))) : CM l mX8_price 4 w nb [.ref 122, .int x1] F A Q := CM.ofZ (by decide) (fun _ _ => rfl) (fun _ _ => Nat.le_of_ble_eq_true rfl) (vX8_price_0  h)
set_option maxHeartbeats 4000000 in
set_option maxRecDepth 100000 in
theorem vX8_price_15 {l : Launch} {w : Nat → Nat} {nb : Nat} {Q : PM} {x1 x2 x3 : Int32} {F A : MI}  (h : ((6 ≤ x3 → Q (some (.int x2)) F A) ∧ (¬ 6 ≤ x3 → (vp_in x3 6 ∧ CM l mX8_has 1 w nb [.int (A 134 x3.toNatClampNeg), .int x1] F A (qi fun r2 F2 A2 => ((¬ r2 = 0 → CM l mX8_joins 3 w nb [.ref 122, .int x3] F2 A2 (qv fun F3 A3 => CM l mX8_placeNow 1 w nb [.ref 122, .int x1] F3 A3 (qi fun r4 F4 A4 => (¬ r4 = 0 ∧ ZM l mX8_price 4 w nb Q 53 [(0, .ref 122), (1, .int x1), (2, .int (x2 + (50 / r4))), (3, .int x3)] [] F4 A4)))) ∧ (r2 = 0 → ZM l mX8_price 4 w nb Q 53 [(0, .ref 122), (1, .int x1), (2, .int x2), (3, .int x3)] [] F2 A2))))))) : ZM l mX8_price 4 w nb Q 15 [(0, .ref 122), (1, .int x1), (2, .int x2), (3, .int x3)] [] F A := by
  intro T G B hY
  refine z_iload_n dX8_price_15 3 rfl rfl ?_
  refine z_bipush (v := 6) dX8_price_16 rfl ?_
  refine z_icmp_ge (tgt := 59) dX8_price_18 (by decide) (fun hb => ?_) (fun hb => ?_)
  · have h := h.1 hb
    refine z_iload_n dX8_price_59 2 rfl rfl ?_
    exact z_iretM dX8_price_60 rfl h
  · have h := h.2 hb
    refine z_aload_n dX8_price_21 0 rfl rfl ?_
    refine z_getr (k := 15) (fc := 335) (r := 134) dX8_price_22 ckX8 (by decide) fk_X8_48 rfl rfl (lat hY rfl) (lgg hY rfl) (by decide) ?_
    refine z_iload_n dX8_price_25 3 rfl rfl ?_
    have hin1 := h.1
    have h := h.2
    refine z_iald' (n := 6) (x := (A 134 x3.toNatClampNeg)) dX8_price_26 (lat hY rfl) (lln hY rfl) hin1 rfl ?_
    refine z_iload_n dX8_price_27 1 rfl rfl ?_
    refine zm_Si (As := [.int (A 134 x3.toNatClampNeg), .int x1]) (rest := []) dX8_price_28 okX8_has smX8_has mk_X8_152 rfl rfl (Nat.le_of_ble_eq_true rfl) (by decide) hY (CM.monoi h fun r2 F2 A2 h => ?_)
    refine z_if_ne (tgt := 37) dX8_price_31 (by decide) (fun hb => ?_) (fun hb => ?_)
    · have h := h.1 hb
      refine z_aload_n dX8_price_37 0 rfl rfl ?_
      refine z_iload_n dX8_price_38 3 rfl rfl ?_
      refine zm_Vv (As := [.int x3]) (rest := []) dX8_price_39 okX8_joins ioX8_joins mk_X8_186 (ci := 8) rfl (by decide) (lat hY rfl) rfl rfl (Nat.le_of_ble_eq_true rfl) (by decide) hY (CM.monov h fun F3 A3 h => ?_)
      refine z_iload_n dX8_price_42 2 rfl rfl ?_
      refine z_bipush (v := 50) dX8_price_43 rfl ?_
      refine z_aload_n dX8_price_45 0 rfl rfl ?_
      refine z_iload_n dX8_price_46 1 rfl rfl ?_
      refine zm_Vi (As := [.int x1]) (rest := [.int 50, .int x2]) dX8_price_47 okX8_placeNow ioX8_placeNow mk_X8_192 (ci := 8) rfl (by decide) (lat hY rfl) rfl rfl (Nat.le_of_ble_eq_true rfl) (by decide) hY (CM.monoi h fun r4 F4 A4 h => ?_)
      refine z_idiv dX8_price_50 h.1 ?_
      have h := h.2
      refine z_iadd dX8_price_51 ?_
      refine z_istore_n (lv' := [(0, .ref 122), (1, .int x1), (2, .int (x2 + (50 / r4))), (3, .int x3)]) dX8_price_52 rfl (by decide) rfl ?_
      exact z_pick [0, 1, 2, 3] rfl (h T G B hY)
    · have h := h.2 hb
      refine z_goto (tgt := 53) dX8_price_34 (by decide) ?_
      exact z_pick [0, 1, 2, 3] rfl (h T G B hY)
set_option maxHeartbeats 4000000 in
set_option maxRecDepth 100000 in
theorem vX8_price_53 {l : Launch} {w : Nat → Nat} {nb : Nat} {Q : PM} {x1 x2 x3 : Int32} {F A : MI}  (h : ZM l mX8_price 4 w nb Q 15 [(0, .ref 122), (1, .int x1), (2, .int x2), (3, .int (x3 + 1))] [] F A) : ZM l mX8_price 4 w nb Q 53 [(0, .ref 122), (1, .int x1), (2, .int x2), (3, .int x3)] [] F A := by
  intro T G B hY
  refine z_iinc (v := (x3 + 1)) (lv' := [(0, .ref 122), (1, .int x1), (2, .int x2), (3, .int (x3 + 1))]) dX8_price_53 3 rfl rfl (by decide) rfl ?_
  refine z_goto (tgt := 15) dX8_price_56 (by decide) ?_
  exact z_pick [0, 1, 2, 3] rfl (h T G B hY)
set_option maxHeartbeats 4000000 in
set_option maxRecDepth 100000 in
theorem vX8_ranks_0 {l : Launch} {w : Nat → Nat} {nb : Nat} {Q : PM} {F A : MI}  (h : ZM l mX8_ranks 4 w nb Q 2 [(0, .ref 122), (1, .int 0)] [] F A) : ZM l mX8_ranks 4 w nb Q 0 [(0, .ref 122)] [] F A := by
  intro T G B hY
  refine z_iconst (v := 0) dX8_ranks_0 rfl ?_
  refine z_istore_n (lv' := [(0, .ref 122), (1, .int 0)]) dX8_ranks_1 rfl (by decide) rfl ?_
  exact z_pick [0, 1] rfl (h T G B hY)
theorem kX8_ranks {l : Launch} {w : Nat → Nat} {nb : Nat} {Q : PM} {F A : MI}  (h : ZM l mX8_ranks 4 w nb Q 2 [(0, .ref 122), (1, .int 0)] [] F A) : CM l mX8_ranks 4 w nb [.ref 122] F A Q := CM.ofZ (by decide) (fun _ _ => rfl) (fun _ _ => Nat.le_of_ble_eq_true rfl) (vX8_ranks_0  h)
set_option maxHeartbeats 4000000 in
set_option maxRecDepth 100000 in
theorem vX8_ranks_2 {l : Launch} {w : Nat → Nat} {nb : Nat} {Q : PM} {x1 : Int32} {F A : MI}  (h : ((20 ≤ x1 → ZM l mX8_ranks 4 w nb Q 23 [(0, .ref 122), (1, .int 0)] [] F A) ∧ (¬ 20 ≤ x1 → (vp_in x1 20 ∧ ZM l mX8_ranks 4 w nb Q 2 [(0, .ref 122), (1, .int (x1 + 1))] [] F (u2 A 146 x1.toNatClampNeg 0))))) : ZM l mX8_ranks 4 w nb Q 2 [(0, .ref 122), (1, .int x1)] [] F A := by
  intro T G B hY
  refine z_iload_n dX8_ranks_2 1 rfl rfl ?_
  refine z_bipush (v := 20) dX8_ranks_3 rfl ?_
  refine z_icmp_ge (tgt := 21) dX8_ranks_5 (by decide) (fun hb => ?_) (fun hb => ?_)
  · have h := h.1 hb
    refine z_iconst (v := 0) dX8_ranks_21 rfl ?_
    refine z_istore_n (lv' := [(0, .ref 122), (1, .int 0)]) dX8_ranks_22 rfl (by decide) rfl ?_
    exact z_pick [0, 1] rfl (h T G B hY)
  · have h := h.2 hb
    refine z_aload_n dX8_ranks_8 0 rfl rfl ?_
    refine z_getr (k := 33) (fc := 353) (r := 146) dX8_ranks_9 ckX8 (by decide) fk_X8_84 rfl rfl (lat hY rfl) (lgg hY rfl) (by decide) ?_
    refine z_iload_n dX8_ranks_12 1 rfl rfl ?_
    refine z_iconst (v := 0) dX8_ranks_13 rfl ?_
    have hin1 := h.1
    have h := h.2
    refine z_iast' (n := 20) dX8_ranks_14 (lat hY rfl) (lln hY rfl) hin1 ?_
    refine z_iinc (v := (x1 + 1)) (lv' := [(0, .ref 122), (1, .int (x1 + 1))]) dX8_ranks_15 1 rfl rfl (by decide) rfl ?_
    refine z_goto (tgt := 2) dX8_ranks_18 (by decide) ?_
    exact z_pick [0, 1] rfl (h T G B hY)
set_option maxHeartbeats 4000000 in
set_option maxRecDepth 100000 in
theorem vX8_ranks_23 {l : Launch} {w : Nat → Nat} {nb : Nat} {Q : PM} {x1 : Int32} {F A : MI}  (h : ((6 ≤ x1 → Q none F A) ∧ (¬ 6 ≤ x1 → CM l mX8_joins 3 w nb [.ref 122, .int x1] F A (qv fun F1 A1 => ZM l mX8_ranks 4 w nb Q 36 [(0, .ref 122), (1, .int x1), (2, .int 0)] [] F1 A1)))) : ZM l mX8_ranks 4 w nb Q 23 [(0, .ref 122), (1, .int x1)] [] F A := by
  intro T G B hY
  refine z_iload_n dX8_ranks_23 1 rfl rfl ?_
  refine z_bipush (v := 6) dX8_ranks_24 rfl ?_
  refine z_icmp_ge (tgt := 101) dX8_ranks_26 (by decide) (fun hb => ?_) (fun hb => ?_)
  · have h := h.1 hb
    exact z_vretM dX8_ranks_101 rfl h
  · have h := h.2 hb
    refine z_aload_n dX8_ranks_29 0 rfl rfl ?_
    refine z_iload_n dX8_ranks_30 1 rfl rfl ?_
    refine zm_Vv (As := [.int x1]) (rest := []) dX8_ranks_31 okX8_joins ioX8_joins mk_X8_186 (ci := 8) rfl (by decide) (lat hY rfl) rfl rfl (Nat.le_of_ble_eq_true rfl) (by decide) hY (CM.monov h fun F1 A1 h => ?_)
    refine z_iconst (v := 0) dX8_ranks_34 rfl ?_
    refine z_istore_n (lv' := [(0, .ref 122), (1, .int x1), (2, .int 0)]) dX8_ranks_35 rfl (by decide) rfl ?_
    exact z_pick [0, 1, 2] rfl (h T G B hY)
set_option maxHeartbeats 4000000 in
set_option maxRecDepth 100000 in
theorem vX8_ranks_36 {l : Launch} {w : Nat → Nat} {nb : Nat} {Q : PM} {x1 x2 : Int32} {F A : MI}  (h : (((F 345 122) ≤ x2 → ZM l mX8_ranks 4 w nb Q 23 [(0, .ref 122), (1, .int (x1 + 1))] [] F A) ∧ (¬ (F 345 122) ≤ x2 → (vp_in x2 8 ∧ (vp_in (A 143 x2.toNatClampNeg) 20 ∧ (((A 146 (A 143 x2.toNatClampNeg).toNatClampNeg) = 0 → ZM l mX8_ranks 4 w nb Q 75 [(0, .ref 122), (1, .int x1), (2, .int x2)] [] F A) ∧ (¬ (A 146 (A 143 x2.toNatClampNeg).toNatClampNeg) = 0 → (vp_in x2 8 ∧ (vp_in (A 143 x2.toNatClampNeg) 20 ∧ (((A 146 (A 143 x2.toNatClampNeg).toNatClampNeg) ≤ (x2 + 1) → ZM l mX8_ranks 4 w nb Q 89 [(0, .ref 122), (1, .int x1), (2, .int x2)] [] F A) ∧ (¬ (A 146 (A 143 x2.toNatClampNeg).toNatClampNeg) ≤ (x2 + 1) → ZM l mX8_ranks 4 w nb Q 75 [(0, .ref 122), (1, .int x1), (2, .int x2)] [] F A))))))))))) : ZM l mX8_ranks 4 w nb Q 36 [(0, .ref 122), (1, .int x1), (2, .int x2)] [] F A := by
  intro T G B hY
  refine z_iload_n dX8_ranks_36 2 rfl rfl ?_
  refine z_aload_n dX8_ranks_37 0 rfl rfl ?_
  refine z_geti' (k := 25) (fc := 345) (x := (F 345 122)) dX8_ranks_38 ckX8 (by decide) fk_X8_176 rfl rfl (lat hY rfl) rfl ?_
  refine z_icmp_ge (tgt := 95) dX8_ranks_41 (by decide) (fun hb => ?_) (fun hb => ?_)
  · have h := h.1 hb
    refine z_iinc (v := (x1 + 1)) (lv' := [(0, .ref 122), (1, .int (x1 + 1)), (2, .int x2)]) dX8_ranks_95 1 rfl rfl (by decide) rfl ?_
    refine z_goto (tgt := 23) dX8_ranks_98 (by decide) ?_
    exact z_pick [0, 1] rfl (h T G B hY)
  · have h := h.2 hb
    refine z_aload_n dX8_ranks_44 0 rfl rfl ?_
    refine z_getr (k := 33) (fc := 353) (r := 146) dX8_ranks_45 ckX8 (by decide) fk_X8_84 rfl rfl (lat hY rfl) (lgg hY rfl) (by decide) ?_
    refine z_aload_n dX8_ranks_48 0 rfl rfl ?_
    refine z_getr (k := 29) (fc := 349) (r := 143) dX8_ranks_49 ckX8 (by decide) fk_X8_75 rfl rfl (lat hY rfl) (lgg hY rfl) (by decide) ?_
    refine z_iload_n dX8_ranks_52 2 rfl rfl ?_
    have hin1 := h.1
    have h := h.2
    refine z_iald' (n := 8) (x := (A 143 x2.toNatClampNeg)) dX8_ranks_53 (lat hY rfl) (lln hY rfl) hin1 rfl ?_
    have hin2 := h.1
    have h := h.2
    refine z_iald' (n := 20) (x := (A 146 (A 143 x2.toNatClampNeg).toNatClampNeg)) dX8_ranks_54 (lat hY rfl) (lln hY rfl) hin2 rfl ?_
    refine z_if_eq (tgt := 75) dX8_ranks_55 (by decide) (fun hb => ?_) (fun hb => ?_)
    · have h := h.1 hb
      exact z_pick [0, 1, 2] rfl (h T G B hY)
    · have h := h.2 hb
      refine z_iload_n dX8_ranks_58 2 rfl rfl ?_
      refine z_iconst (v := 1) dX8_ranks_59 rfl ?_
      refine z_iadd dX8_ranks_60 ?_
      refine z_aload_n dX8_ranks_61 0 rfl rfl ?_
      refine z_getr (k := 33) (fc := 353) (r := 146) dX8_ranks_62 ckX8 (by decide) fk_X8_84 rfl rfl (lat hY rfl) (lgg hY rfl) (by decide) ?_
      refine z_aload_n dX8_ranks_65 0 rfl rfl ?_
      refine z_getr (k := 29) (fc := 349) (r := 143) dX8_ranks_66 ckX8 (by decide) fk_X8_75 rfl rfl (lat hY rfl) (lgg hY rfl) (by decide) ?_
      refine z_iload_n dX8_ranks_69 2 rfl rfl ?_
      have hin3 := h.1
      have h := h.2
      refine z_iald' (n := 8) (x := (A 143 x2.toNatClampNeg)) dX8_ranks_70 (lat hY rfl) (lln hY rfl) hin3 rfl ?_
      have hin4 := h.1
      have h := h.2
      refine z_iald' (n := 20) (x := (A 146 (A 143 x2.toNatClampNeg).toNatClampNeg)) dX8_ranks_71 (lat hY rfl) (lln hY rfl) hin4 rfl ?_
      refine z_icmp_ge (tgt := 89) dX8_ranks_72 (by decide) (fun hb => ?_) (fun hb => ?_)
      · have h := h.1 hb
        exact z_pick [0, 1, 2] rfl (h T G B hY)
      · have h := h.2 hb
        exact z_pick [0, 1, 2] rfl (h T G B hY)
set_option maxHeartbeats 4000000 in
set_option maxRecDepth 100000 in
theorem vX8_ranks_75 {l : Launch} {w : Nat → Nat} {nb : Nat} {Q : PM} {x1 x2 : Int32} {F A : MI}  (h : (vp_in x2 8 ∧ (vp_in (A 143 x2.toNatClampNeg) 20 ∧ ZM l mX8_ranks 4 w nb Q 89 [(0, .ref 122), (1, .int x1), (2, .int x2)] [] F (u2 A 146 (A 143 x2.toNatClampNeg).toNatClampNeg (x2 + 1))))) : ZM l mX8_ranks 4 w nb Q 75 [(0, .ref 122), (1, .int x1), (2, .int x2)] [] F A := by
  intro T G B hY
  refine z_aload_n dX8_ranks_75 0 rfl rfl ?_
  refine z_getr (k := 33) (fc := 353) (r := 146) dX8_ranks_76 ckX8 (by decide) fk_X8_84 rfl rfl (lat hY rfl) (lgg hY rfl) (by decide) ?_
  refine z_aload_n dX8_ranks_79 0 rfl rfl ?_
  refine z_getr (k := 29) (fc := 349) (r := 143) dX8_ranks_80 ckX8 (by decide) fk_X8_75 rfl rfl (lat hY rfl) (lgg hY rfl) (by decide) ?_
  refine z_iload_n dX8_ranks_83 2 rfl rfl ?_
  have hin1 := h.1
  have h := h.2
  refine z_iald' (n := 8) (x := (A 143 x2.toNatClampNeg)) dX8_ranks_84 (lat hY rfl) (lln hY rfl) hin1 rfl ?_
  refine z_iload_n dX8_ranks_85 2 rfl rfl ?_
  refine z_iconst (v := 1) dX8_ranks_86 rfl ?_
  refine z_iadd dX8_ranks_87 ?_
  have hin2 := h.1
  have h := h.2
  refine z_iast' (n := 20) dX8_ranks_88 (lat hY rfl) (lln hY rfl) hin2 ?_
  exact z_pick [0, 1, 2] rfl (h T G B hY)
set_option maxHeartbeats 4000000 in
set_option maxRecDepth 100000 in
theorem vX8_ranks_89 {l : Launch} {w : Nat → Nat} {nb : Nat} {Q : PM} {x1 x2 : Int32} {F A : MI}  (h : ZM l mX8_ranks 4 w nb Q 36 [(0, .ref 122), (1, .int x1), (2, .int (x2 + 1))] [] F A) : ZM l mX8_ranks 4 w nb Q 89 [(0, .ref 122), (1, .int x1), (2, .int x2)] [] F A := by
  intro T G B hY
  refine z_iinc (v := (x2 + 1)) (lv' := [(0, .ref 122), (1, .int x1), (2, .int (x2 + 1))]) dX8_ranks_89 2 rfl rfl (by decide) rfl ?_
  refine z_goto (tgt := 36) dX8_ranks_92 (by decide) ?_
  exact z_pick [0, 1, 2] rfl (h T G B hY)
set_option maxHeartbeats 4000000 in
set_option maxRecDepth 100000 in
theorem vX8_reasons_0 {l : Launch} {w : Nat → Nat} {nb : Nat} {Q : PM} {x1 x2 : Int32} {F A : MI}  (h : CM l mX8_isClass 2 w nb [.int x1] F A (qi fun r1 F1 A1 => ((r1 = 0 → Q (some (.int (-1))) F1 A1) ∧ (¬ r1 = 0 → ((x2 < 0 → Q (some (.int (-1))) F1 A1) ∧ (¬ x2 < 0 → ((x2 ≤ (F1 321 122) → CM l mX8_joins 3 w nb [.ref 122, .int x1] F1 A1 (qv fun F2 A2 => CM l mX8_begins 1 w nb [.ref 122, .int x2] F2 A2 (qv fun F3 A3 => ZM l mX8_reasons 4 w nb Q 38 [(0, .ref 122), (3, .int 1)] [] (u2 F3 350 122 0) A3))) ∧ (¬ x2 ≤ (F1 321 122) → Q (some (.int (-1))) F1 A1)))))))) : ZM l mX8_reasons 4 w nb Q 0 [(0, .ref 122), (1, .int x1), (2, .int x2)] [] F A := by
  intro T G B hY
  refine z_iload_n dX8_reasons_0 1 rfl rfl ?_
  refine zm_Si (As := [.int x1]) (rest := []) dX8_reasons_1 okX8_isClass smX8_isClass mk_X8_139 rfl rfl (Nat.le_of_ble_eq_true rfl) (by decide) hY (CM.monoi h fun r1 F1 A1 h => ?_)
  refine z_if_eq (tgt := 19) dX8_reasons_4 (by decide) (fun hb => ?_) (fun hb => ?_)
  · have h := h.1 hb
    refine z_iconst (v := (-1)) dX8_reasons_19 rfl ?_
    exact z_iretM dX8_reasons_20 rfl h
  · have h := h.2 hb
    refine z_iload_n dX8_reasons_7 2 rfl rfl ?_
    refine z_if_lt (tgt := 19) dX8_reasons_8 (by decide) (fun hb => ?_) (fun hb => ?_)
    · have h := h.1 hb
      refine z_iconst (v := (-1)) dX8_reasons_19 rfl ?_
      exact z_iretM dX8_reasons_20 rfl h
    · have h := h.2 hb
      refine z_iload_n dX8_reasons_11 2 rfl rfl ?_
      refine z_aload_n dX8_reasons_12 0 rfl rfl ?_
      refine z_geti' (k := 1) (fc := 321) (x := (F1 321 122)) dX8_reasons_13 ckX8 (by decide) fk_X8_94 rfl rfl (lat hY rfl) rfl ?_
      refine z_icmp_le (tgt := 21) dX8_reasons_16 (by decide) (fun hb => ?_) (fun hb => ?_)
      · have h := h.1 hb
        refine z_aload_n dX8_reasons_21 0 rfl rfl ?_
        refine z_iload_n dX8_reasons_22 1 rfl rfl ?_
        refine zm_Vv (As := [.int x1]) (rest := []) dX8_reasons_23 okX8_joins ioX8_joins mk_X8_186 (ci := 8) rfl (by decide) (lat hY rfl) rfl rfl (Nat.le_of_ble_eq_true rfl) (by decide) hY (CM.monov h fun F2 A2 h => ?_)
        refine z_aload_n dX8_reasons_26 0 rfl rfl ?_
        refine z_iload_n dX8_reasons_27 2 rfl rfl ?_
        refine zm_Vv (As := [.int x2]) (rest := []) dX8_reasons_28 okX8_begins ioX8_begins mk_X8_143 (ci := 8) rfl (by decide) (lat hY rfl) rfl rfl (Nat.le_of_ble_eq_true rfl) (by decide) hY (CM.monov h fun F3 A3 h => ?_)
        refine z_aload_n dX8_reasons_31 0 rfl rfl ?_
        refine z_iconst (v := 0) dX8_reasons_32 rfl ?_
        refine z_puti (k := 30) (fc := 350) dX8_reasons_33 ckX8 (by decide) fk_X8_201 rfl rfl rfl (lat hY rfl) ?_
        refine z_iconst (v := 1) dX8_reasons_36 rfl ?_
        refine z_istore_n (lv' := [(0, .ref 122), (1, .int x1), (2, .int x2), (3, .int 1)]) dX8_reasons_37 rfl (by decide) rfl ?_
        exact z_pick [0, 3] rfl (h T G B hY)
      · have h := h.2 hb
        refine z_iconst (v := (-1)) dX8_reasons_19 rfl ?_
        exact z_iretM dX8_reasons_20 rfl h
theorem kX8_reasons {l : Launch} {w : Nat → Nat} {nb : Nat} {Q : PM} {x1 x2 : Int32} {F A : MI}  (h : CM l mX8_isClass 2 w nb [.int x1] F A (qi fun r1 F1 A1 => ((r1 = 0 → Q (some (.int (-1))) F1 A1) ∧ (¬ r1 = 0 → ((x2 < 0 → Q (some (.int (-1))) F1 A1) ∧ (¬ x2 < 0 → ((x2 ≤ (F1 321 122) → CM l mX8_joins 3 w nb [.ref 122, .int x1] F1 A1 (qv fun F2 A2 => CM l mX8_begins 1 w nb [.ref 122, .int x2] F2 A2 (qv fun F3 A3 => ZM l mX8_reasons 4 w nb Q 38 [(0, .ref 122), (3, .int 1)] [] (u2 F3 350 122 0) A3))) ∧ (¬ x2 ≤ (F1 321 122) → Q (some (.int (-1))) F1 A1)))))))) : CM l mX8_reasons 4 w nb [.ref 122, .int x1, .int x2] F A Q := CM.ofZ (by decide) (fun _ _ => rfl) (fun _ _ => Nat.le_of_ble_eq_true rfl) (vX8_reasons_0  h)
set_option maxHeartbeats 4000000 in
set_option maxRecDepth 100000 in
theorem vX8_reasons_38 {l : Launch} {w : Nat → Nat} {nb : Nat} {Q : PM} {x3 : Int32} {F A : MI}  (h : ((x3 = 0 → ZM l mX8_reasons 4 w nb Q 112 [(0, .ref 122)] [] F A) ∧ (¬ x3 = 0 → ((¬ (F 343 122) = 0 → ZM l mX8_reasons 4 w nb Q 112 [(0, .ref 122)] [] F A) ∧ ((F 343 122) = 0 → CM l mX8_pair 3 w nb [.ref 122] F A (qv fun F1 A1 => ((¬ (F1 343 122) = 0 → ZM l mX8_reasons 4 w nb Q 75 [(0, .ref 122)] [] F1 A1) ∧ ((F1 343 122) = 0 → (((F1 342 122) ≤ (F1 341 122) → ZM l mX8_reasons 4 w nb Q 75 [(0, .ref 122)] [] F1 A1) ∧ (¬ (F1 342 122) ≤ (F1 341 122) → ZM l mX8_reasons 4 w nb Q 76 [(0, .ref 122)] [.int 1] F1 A1)))))))))) : ZM l mX8_reasons 4 w nb Q 38 [(0, .ref 122), (3, .int x3)] [] F A := by
  intro T G B hY
  refine z_iload_n dX8_reasons_38 1 rfl rfl ?_
  refine z_if_eq (tgt := 112) dX8_reasons_39 (by decide) (fun hb => ?_) (fun hb => ?_)
  · have h := h.1 hb
    exact z_pick [0] rfl (h T G B hY)
  · have h := h.2 hb
    refine z_aload_n dX8_reasons_42 0 rfl rfl ?_
    refine z_geti' (k := 23) (fc := 343) (x := (F 343 122)) dX8_reasons_43 ckX8 (by decide) fk_X8_107 rfl rfl (lat hY rfl) rfl ?_
    refine z_if_ne (tgt := 112) dX8_reasons_46 (by decide) (fun hb => ?_) (fun hb => ?_)
    · have h := h.1 hb
      exact z_pick [0] rfl (h T G B hY)
    · have h := h.2 hb
      refine z_aload_n dX8_reasons_49 0 rfl rfl ?_
      refine zm_Vv (As := []) (rest := []) dX8_reasons_50 okX8_pair ioX8_pair mk_X8_204 (ci := 8) rfl (by decide) (lat hY rfl) rfl rfl (Nat.le_of_ble_eq_true rfl) (by decide) hY (CM.monov h fun F1 A1 h => ?_)
      refine z_aload_n dX8_reasons_53 0 rfl rfl ?_
      refine z_geti' (k := 23) (fc := 343) (x := (F1 343 122)) dX8_reasons_54 ckX8 (by decide) fk_X8_107 rfl rfl (lat hY rfl) rfl ?_
      refine z_if_ne (tgt := 75) dX8_reasons_57 (by decide) (fun hb => ?_) (fun hb => ?_)
      · have h := h.1 hb
        exact z_pick [0] rfl (h T G B hY)
      · have h := h.2 hb
        refine z_aload_n dX8_reasons_60 0 rfl rfl ?_
        refine z_geti' (k := 21) (fc := 341) (x := (F1 341 122)) dX8_reasons_61 ckX8 (by decide) fk_X8_101 rfl rfl (lat hY rfl) rfl ?_
        refine z_aload_n dX8_reasons_64 0 rfl rfl ?_
        refine z_geti' (k := 22) (fc := 342) (x := (F1 342 122)) dX8_reasons_65 ckX8 (by decide) fk_X8_104 rfl rfl (lat hY rfl) rfl ?_
        refine z_icmp_ge (tgt := 75) dX8_reasons_68 (by decide) (fun hb => ?_) (fun hb => ?_)
        · have h := h.1 hb
          exact z_pick [0] rfl (h T G B hY)
        · have h := h.2 hb
          refine z_iconst (v := 1) dX8_reasons_71 rfl ?_
          refine z_goto (tgt := 76) dX8_reasons_72 (by decide) ?_
          exact z_pick [0] rfl (h T G B hY)
set_option maxHeartbeats 4000000 in
set_option maxRecDepth 100000 in
theorem vX8_reasons_112 {l : Launch} {w : Nat → Nat} {nb : Nat} {Q : PM} {F A : MI}  (h : (((F 343 122) ≤ 0 → ((0 ≤ (F 350 122) → Q (some (.int (F 350 122))) F A) ∧ (¬ 0 ≤ (F 350 122) → Q (some (.int 0)) F A))) ∧ (¬ (F 343 122) ≤ 0 → Q (some (.int (((-100) * (F 343 122)) - (F 344 122)))) F A))) : ZM l mX8_reasons 4 w nb Q 112 [(0, .ref 122)] [] F A := by
  intro T G B hY
  refine z_aload_n dX8_reasons_112 0 rfl rfl ?_
  refine z_geti' (k := 23) (fc := 343) (x := (F 343 122)) dX8_reasons_113 ckX8 (by decide) fk_X8_107 rfl rfl (lat hY rfl) rfl ?_
  refine z_if_le (tgt := 134) dX8_reasons_116 (by decide) (fun hb => ?_) (fun hb => ?_)
  · have h := h.1 hb
    refine z_aload_n dX8_reasons_134 0 rfl rfl ?_
    refine z_geti' (k := 30) (fc := 350) (x := (F 350 122)) dX8_reasons_135 ckX8 (by decide) fk_X8_201 rfl rfl (lat hY rfl) rfl ?_
    refine z_if_ge (tgt := 145) dX8_reasons_138 (by decide) (fun hb => ?_) (fun hb => ?_)
    · have h := h.1 hb
      refine z_aload_n dX8_reasons_145 0 rfl rfl ?_
      refine z_geti' (k := 30) (fc := 350) (x := (F 350 122)) dX8_reasons_146 ckX8 (by decide) fk_X8_201 rfl rfl (lat hY rfl) rfl ?_
      exact z_iretM dX8_reasons_149 rfl h
    · have h := h.2 hb
      refine z_iconst (v := 0) dX8_reasons_141 rfl ?_
      refine z_goto (tgt := 149) dX8_reasons_142 (by decide) ?_
      exact z_iretM dX8_reasons_149 rfl h
  · have h := h.2 hb
    refine z_bipush (v := (-100)) dX8_reasons_119 rfl ?_
    refine z_aload_n dX8_reasons_121 0 rfl rfl ?_
    refine z_geti' (k := 23) (fc := 343) (x := (F 343 122)) dX8_reasons_122 ckX8 (by decide) fk_X8_107 rfl rfl (lat hY rfl) rfl ?_
    refine z_imul dX8_reasons_125 ?_
    refine z_aload_n dX8_reasons_126 0 rfl rfl ?_
    refine z_geti' (k := 24) (fc := 344) (x := (F 344 122)) dX8_reasons_127 ckX8 (by decide) fk_X8_110 rfl rfl (lat hY rfl) rfl ?_
    refine z_isub dX8_reasons_130 ?_
    refine z_goto (tgt := 149) dX8_reasons_131 (by decide) ?_
    exact z_iretM dX8_reasons_149 rfl h
set_option maxHeartbeats 4000000 in
set_option maxRecDepth 100000 in
theorem vX8_reasons_75 {l : Launch} {w : Nat → Nat} {nb : Nat} {Q : PM} {F A : MI}  (h : ZM l mX8_reasons 4 w nb Q 76 [(0, .ref 122)] [.int 0] F A) : ZM l mX8_reasons 4 w nb Q 75 [(0, .ref 122)] [] F A := by
  intro T G B hY
  refine z_iconst (v := 0) dX8_reasons_75 rfl ?_
  exact z_pick [0] rfl (h T G B hY)
set_option maxHeartbeats 4000000 in
set_option maxRecDepth 100000 in
theorem vX8_reasons_76 {l : Launch} {w : Nat → Nat} {nb : Nat} {Q : PM} {s0 : Int32} {F A : MI}  (h : ((s0 = 0 → ZM l mX8_reasons 4 w nb Q 99 [(0, .ref 122), (3, .int s0)] [] F A) ∧ (¬ s0 = 0 → CM l mX8_here 1 w nb [.ref 122] F A (qi fun r1 F1 A1 => ((r1 = 59 → ZM l mX8_reasons 4 w nb Q 99 [(0, .ref 122), (3, .int s0)] [] F1 A1) ∧ (¬ r1 = 59 → CM l mX8_fails 1 w nb [.ref 122, .int 1, .int (F1 341 122)] F1 A1 (qv fun F2 A2 => ZM l mX8_reasons 4 w nb Q 99 [(0, .ref 122), (3, .int s0)] [] F2 A2))))))) : ZM l mX8_reasons 4 w nb Q 76 [(0, .ref 122)] [.int s0] F A := by
  intro T G B hY
  refine z_istore_n (lv' := [(0, .ref 122), (3, .int s0)]) dX8_reasons_76 rfl (by decide) rfl ?_
  refine z_iload_n dX8_reasons_77 1 rfl rfl ?_
  refine z_if_eq (tgt := 99) dX8_reasons_78 (by decide) (fun hb => ?_) (fun hb => ?_)
  · have h := h.1 hb
    exact z_pick [0, 1] rfl (h T G B hY)
  · have h := h.2 hb
    refine z_aload_n dX8_reasons_81 0 rfl rfl ?_
    refine zm_Vi (As := []) (rest := []) dX8_reasons_82 okX8_here ioX8_here mk_X8_113 (ci := 8) rfl (by decide) (lat hY rfl) rfl rfl (Nat.le_of_ble_eq_true rfl) (by decide) hY (CM.monoi h fun r1 F1 A1 h => ?_)
    refine z_bipush (v := 59) dX8_reasons_85 rfl ?_
    refine z_icmp_eq (tgt := 99) dX8_reasons_87 (by decide) (fun hb => ?_) (fun hb => ?_)
    · have h := h.1 hb
      exact z_pick [0, 1] rfl (h T G B hY)
    · have h := h.2 hb
      refine z_aload_n dX8_reasons_90 0 rfl rfl ?_
      refine z_iconst (v := 1) dX8_reasons_91 rfl ?_
      refine z_aload_n dX8_reasons_92 0 rfl rfl ?_
      refine z_geti' (k := 21) (fc := 341) (x := (F1 341 122)) dX8_reasons_93 ckX8 (by decide) fk_X8_101 rfl rfl (lat hY rfl) rfl ?_
      refine zm_Vv (As := [.int 1, .int (F1 341 122)]) (rest := []) dX8_reasons_96 okX8_fails ioX8_fails mk_X8_121 (ci := 8) rfl (by decide) (lat hY rfl) rfl rfl (Nat.le_of_ble_eq_true rfl) (by decide) hY (CM.monov h fun F2 A2 h => ?_)
      exact z_pick [0, 1] rfl (h T G B hY)
set_option maxHeartbeats 4000000 in
set_option maxRecDepth 100000 in
theorem vX8_reasons_99 {l : Launch} {w : Nat → Nat} {nb : Nat} {Q : PM} {x3 : Int32} {F A : MI}  (h : ZM l mX8_reasons 4 w nb Q 38 [(0, .ref 122), (3, .int x3)] [] (u2 F 341 122 ((F 341 122) + 1)) A) : ZM l mX8_reasons 4 w nb Q 99 [(0, .ref 122), (3, .int x3)] [] F A := by
  intro T G B hY
  refine z_aload_n dX8_reasons_99 0 rfl rfl ?_
  refine z_dup dX8_reasons_100 ?_
  refine z_geti' (k := 21) (fc := 341) (x := (F 341 122)) dX8_reasons_101 ckX8 (by decide) fk_X8_101 rfl rfl (lat hY rfl) rfl ?_
  refine z_iconst (v := 1) dX8_reasons_104 rfl ?_
  refine z_iadd dX8_reasons_105 ?_
  refine z_puti (k := 21) (fc := 341) dX8_reasons_106 ckX8 (by decide) fk_X8_101 rfl rfl rfl (lat hY rfl) ?_
  refine z_goto (tgt := 38) dX8_reasons_109 (by decide) ?_
  exact z_pick [0, 1] rfl (h T G B hY)
set_option maxHeartbeats 4000000 in
set_option maxRecDepth 100000 in
theorem vX8_ring_0 {l : Launch} {w : Nat → Nat} {nb : Nat} {Q : PM} {x1 x2 : Int32} {F A : MI}  (h : CM l mX8_isClass 2 w nb [.int x1] F A (qi fun r1 F1 A1 => ((r1 = 0 → Q (some (.int (-1))) F1 A1) ∧ (¬ r1 = 0 → CM l mX8_lies 1 w nb [.int x2, .int 0, .int 2] F1 A1 (qi fun r2 F2 A2 => ((¬ r2 = 0 → CM l mX8_joins 3 w nb [.ref 122, .int x1] F2 A2 (qv fun F3 A3 => ZM l mX8_ring 4 w nb Q 25 [(0, .ref 122), (2, .int x2), (3, .int 0)] [] F3 A3)) ∧ (r2 = 0 → Q (some (.int (-1))) F2 A2))))))) : ZM l mX8_ring 4 w nb Q 0 [(0, .ref 122), (1, .int x1), (2, .int x2)] [] F A := by
  intro T G B hY
  refine z_iload_n dX8_ring_0 1 rfl rfl ?_
  refine zm_Si (As := [.int x1]) (rest := []) dX8_ring_1 okX8_isClass smX8_isClass mk_X8_139 rfl rfl (Nat.le_of_ble_eq_true rfl) (by decide) hY (CM.monoi h fun r1 F1 A1 h => ?_)
  refine z_if_eq (tgt := 16) dX8_ring_4 (by decide) (fun hb => ?_) (fun hb => ?_)
  · have h := h.1 hb
    refine z_iconst (v := (-1)) dX8_ring_16 rfl ?_
    exact z_iretM dX8_ring_17 rfl h
  · have h := h.2 hb
    refine z_iload_n dX8_ring_7 2 rfl rfl ?_
    refine z_iconst (v := 0) dX8_ring_8 rfl ?_
    refine z_iconst (v := 2) dX8_ring_9 rfl ?_
    refine zm_Si (As := [.int x2, .int 0, .int 2]) (rest := []) dX8_ring_10 okX8_lies smX8_lies mk_X8_87 rfl rfl (Nat.le_of_ble_eq_true rfl) (by decide) hY (CM.monoi h fun r2 F2 A2 h => ?_)
    refine z_if_ne (tgt := 18) dX8_ring_13 (by decide) (fun hb => ?_) (fun hb => ?_)
    · have h := h.1 hb
      refine z_aload_n dX8_ring_18 0 rfl rfl ?_
      refine z_iload_n dX8_ring_19 1 rfl rfl ?_
      refine zm_Vv (As := [.int x1]) (rest := []) dX8_ring_20 okX8_joins ioX8_joins mk_X8_186 (ci := 8) rfl (by decide) (lat hY rfl) rfl rfl (Nat.le_of_ble_eq_true rfl) (by decide) hY (CM.monov h fun F3 A3 h => ?_)
      refine z_iconst (v := 0) dX8_ring_23 rfl ?_
      refine z_istore_n (lv' := [(0, .ref 122), (1, .int x1), (2, .int x2), (3, .int 0)]) dX8_ring_24 rfl (by decide) rfl ?_
      exact z_pick [0, 2, 3] rfl (h T G B hY)
    · have h := h.2 hb
      refine z_iconst (v := (-1)) dX8_ring_16 rfl ?_
      exact z_iretM dX8_ring_17 rfl h
theorem kX8_ring {l : Launch} {w : Nat → Nat} {nb : Nat} {Q : PM} {x1 x2 : Int32} {F A : MI}  (h : CM l mX8_isClass 2 w nb [.int x1] F A (qi fun r1 F1 A1 => ((r1 = 0 → Q (some (.int (-1))) F1 A1) ∧ (¬ r1 = 0 → CM l mX8_lies 1 w nb [.int x2, .int 0, .int 2] F1 A1 (qi fun r2 F2 A2 => ((¬ r2 = 0 → CM l mX8_joins 3 w nb [.ref 122, .int x1] F2 A2 (qv fun F3 A3 => ZM l mX8_ring 4 w nb Q 25 [(0, .ref 122), (2, .int x2), (3, .int 0)] [] F3 A3)) ∧ (r2 = 0 → Q (some (.int (-1))) F2 A2))))))) : CM l mX8_ring 4 w nb [.ref 122, .int x1, .int x2] F A Q := CM.ofZ (by decide) (fun _ _ => rfl) (fun _ _ => Nat.le_of_ble_eq_true rfl) (vX8_ring_0  h)
set_option maxHeartbeats 4000000 in
set_option maxRecDepth 100000 in
theorem vX8_ring_25 {l : Launch} {w : Nat → Nat} {nb : Nat} {Q : PM} {x2 x3 : Int32} {F A : MI}  (h : (((F 345 122) ≤ x3 → Q (some (.int (-1))) F A) ∧ (¬ (F 345 122) ≤ x3 → ZM l mX8_ring 4 w nb Q 36 [(0, .ref 122), (2, .int x2), (3, .int x3), (4, .int 0)] [] F A))) : ZM l mX8_ring 4 w nb Q 25 [(0, .ref 122), (2, .int x2), (3, .int x3)] [] F A := by
  intro T G B hY
  refine z_iload_n dX8_ring_25 2 rfl rfl ?_
  refine z_aload_n dX8_ring_26 0 rfl rfl ?_
  refine z_geti' (k := 25) (fc := 345) (x := (F 345 122)) dX8_ring_27 ckX8 (by decide) fk_X8_176 rfl rfl (lat hY rfl) rfl ?_
  refine z_icmp_ge (tgt := 132) dX8_ring_30 (by decide) (fun hb => ?_) (fun hb => ?_)
  · have h := h.1 hb
    refine z_iconst (v := (-1)) dX8_ring_132 rfl ?_
    exact z_iretM dX8_ring_133 rfl h
  · have h := h.2 hb
    refine z_iconst (v := 0) dX8_ring_33 rfl ?_
    refine z_istore (lv' := [(0, .ref 122), (2, .int x2), (3, .int x3), (4, .int 0)]) dX8_ring_34 (by decide) rfl ?_
    exact z_pick [0, 1, 2, 3] rfl (h T G B hY)
set_option maxHeartbeats 4000000 in
set_option maxRecDepth 100000 in
theorem vX8_ring_36 {l : Launch} {w : Nat → Nat} {nb : Nat} {Q : PM} {x2 x3 x4 : Int32} {F A : MI}  (h : (((F 345 122) ≤ x4 → ZM l mX8_ring 4 w nb Q 25 [(0, .ref 122), (2, .int x2), (3, .int (x3 + 1))] [] F A) ∧ (¬ (F 345 122) ≤ x4 → ZM l mX8_ring 4 w nb Q 48 [(0, .ref 122), (2, .int x2), (3, .int x3), (4, .int x4), (5, .int 0)] [] F A))) : ZM l mX8_ring 4 w nb Q 36 [(0, .ref 122), (2, .int x2), (3, .int x3), (4, .int x4)] [] F A := by
  intro T G B hY
  refine z_iload dX8_ring_36 3 rfl ?_
  refine z_aload_n dX8_ring_38 0 rfl rfl ?_
  refine z_geti' (k := 25) (fc := 345) (x := (F 345 122)) dX8_ring_39 ckX8 (by decide) fk_X8_176 rfl rfl (lat hY rfl) rfl ?_
  refine z_icmp_ge (tgt := 126) dX8_ring_42 (by decide) (fun hb => ?_) (fun hb => ?_)
  · have h := h.1 hb
    refine z_iinc (v := (x3 + 1)) (lv' := [(0, .ref 122), (2, .int x2), (3, .int (x3 + 1)), (4, .int x4)]) dX8_ring_126 2 rfl rfl (by decide) rfl ?_
    refine z_goto (tgt := 25) dX8_ring_129 (by decide) ?_
    exact z_pick [0, 1, 2] rfl (h T G B hY)
  · have h := h.2 hb
    refine z_iconst (v := 0) dX8_ring_45 rfl ?_
    refine z_istore (lv' := [(0, .ref 122), (2, .int x2), (3, .int x3), (4, .int x4), (5, .int 0)]) dX8_ring_46 (by decide) rfl ?_
    exact z_pick [0, 1, 2, 3, 4] rfl (h T G B hY)
set_option maxHeartbeats 4000000 in
set_option maxRecDepth 100000 in
theorem vX8_ring_48 {l : Launch} {w : Nat → Nat} {nb : Nat} {Q : PM} {x2 x3 x4 x5 : Int32} {F A : MI}  (h : (((F 345 122) ≤ x5 → ZM l mX8_ring 4 w nb Q 36 [(0, .ref 122), (2, .int x2), (3, .int x3), (4, .int (x4 + 1))] [] F A) ∧ (¬ (F 345 122) ≤ x5 → CM l mX8_isMore 1 w nb [.ref 122, .int x3, .int x4] F A (qi fun r1 F1 A1 => ((r1 = 0 → ZM l mX8_ring 4 w nb Q 114 [(0, .ref 122), (2, .int x2), (3, .int x3), (4, .int x4), (5, .int x5)] [] F1 A1) ∧ (¬ r1 = 0 → CM l mX8_isMore 1 w nb [.ref 122, .int x4, .int x5] F1 A1 (qi fun r2 F2 A2 => ((r2 = 0 → ZM l mX8_ring 4 w nb Q 114 [(0, .ref 122), (2, .int x2), (3, .int x3), (4, .int x4), (5, .int x5)] [] F2 A2) ∧ (¬ r2 = 0 → CM l mX8_isMore 1 w nb [.ref 122, .int x5, .int x3] F2 A2 (qi fun r3 F3 A3 => ((r3 = 0 → ZM l mX8_ring 4 w nb Q 114 [(0, .ref 122), (2, .int x2), (3, .int x3), (4, .int x4), (5, .int x5)] [] F3 A3) ∧ (¬ r3 = 0 → ((¬ x2 = 0 → ((¬ x2 = 1 → ZM l mX8_ring 4 w nb Q 112 [] [.int x5, .ref 140] F3 A3) ∧ (x2 = 1 → ZM l mX8_ring 4 w nb Q 112 [] [.int x4, .ref 140] F3 A3))) ∧ (x2 = 0 → ZM l mX8_ring 4 w nb Q 112 [] [.int x3, .ref 140] F3 A3)))))))))))))) : ZM l mX8_ring 4 w nb Q 48 [(0, .ref 122), (2, .int x2), (3, .int x3), (4, .int x4), (5, .int x5)] [] F A := by
  intro T G B hY
  refine z_iload dX8_ring_48 4 rfl ?_
  refine z_aload_n dX8_ring_50 0 rfl rfl ?_
  refine z_geti' (k := 25) (fc := 345) (x := (F 345 122)) dX8_ring_51 ckX8 (by decide) fk_X8_176 rfl rfl (lat hY rfl) rfl ?_
  refine z_icmp_ge (tgt := 120) dX8_ring_54 (by decide) (fun hb => ?_) (fun hb => ?_)
  · have h := h.1 hb
    refine z_iinc (v := (x4 + 1)) (lv' := [(0, .ref 122), (2, .int x2), (3, .int x3), (4, .int (x4 + 1)), (5, .int x5)]) dX8_ring_120 3 rfl rfl (by decide) rfl ?_
    refine z_goto (tgt := 36) dX8_ring_123 (by decide) ?_
    exact z_pick [0, 1, 2, 3] rfl (h T G B hY)
  · have h := h.2 hb
    refine z_aload_n dX8_ring_57 0 rfl rfl ?_
    refine z_iload_n dX8_ring_58 2 rfl rfl ?_
    refine z_iload dX8_ring_59 3 rfl ?_
    refine zm_Vi (As := [.int x3, .int x4]) (rest := []) dX8_ring_61 okX8_isMore ioX8_isMore mk_X8_189 (ci := 8) rfl (by decide) (lat hY rfl) rfl rfl (Nat.le_of_ble_eq_true rfl) (by decide) hY (CM.monoi h fun r1 F1 A1 h => ?_)
    refine z_if_eq (tgt := 114) dX8_ring_64 (by decide) (fun hb => ?_) (fun hb => ?_)
    · have h := h.1 hb
      exact z_pick [0, 1, 2, 3, 4] rfl (h T G B hY)
    · have h := h.2 hb
      refine z_aload_n dX8_ring_67 0 rfl rfl ?_
      refine z_iload dX8_ring_68 3 rfl ?_
      refine z_iload dX8_ring_70 4 rfl ?_
      refine zm_Vi (As := [.int x4, .int x5]) (rest := []) dX8_ring_72 okX8_isMore ioX8_isMore mk_X8_189 (ci := 8) rfl (by decide) (lat hY rfl) rfl rfl (Nat.le_of_ble_eq_true rfl) (by decide) hY (CM.monoi h fun r2 F2 A2 h => ?_)
      refine z_if_eq (tgt := 114) dX8_ring_75 (by decide) (fun hb => ?_) (fun hb => ?_)
      · have h := h.1 hb
        exact z_pick [0, 1, 2, 3, 4] rfl (h T G B hY)
      · have h := h.2 hb
        refine z_aload_n dX8_ring_78 0 rfl rfl ?_
        refine z_iload dX8_ring_79 4 rfl ?_
        refine z_iload_n dX8_ring_81 2 rfl rfl ?_
        refine zm_Vi (As := [.int x5, .int x3]) (rest := []) dX8_ring_82 okX8_isMore ioX8_isMore mk_X8_189 (ci := 8) rfl (by decide) (lat hY rfl) rfl rfl (Nat.le_of_ble_eq_true rfl) (by decide) hY (CM.monoi h fun r3 F3 A3 h => ?_)
        refine z_if_eq (tgt := 114) dX8_ring_85 (by decide) (fun hb => ?_) (fun hb => ?_)
        · have h := h.1 hb
          exact z_pick [0, 1, 2, 3, 4] rfl (h T G B hY)
        · have h := h.2 hb
          refine z_aload_n dX8_ring_88 0 rfl rfl ?_
          refine z_getr (k := 26) (fc := 346) (r := 140) dX8_ring_89 ckX8 (by decide) fk_X8_66 rfl rfl (lat hY rfl) (lgg hY rfl) (by decide) ?_
          refine z_iload_n dX8_ring_92 1 rfl rfl ?_
          refine z_if_ne (tgt := 100) dX8_ring_93 (by decide) (fun hb => ?_) (fun hb => ?_)
          · have h := h.1 hb
            refine z_iload_n dX8_ring_100 1 rfl rfl ?_
            refine z_iconst (v := 1) dX8_ring_101 rfl ?_
            refine z_icmp_ne (tgt := 110) dX8_ring_102 (by decide) (fun hb => ?_) (fun hb => ?_)
            · have h := h.1 hb
              refine z_iload dX8_ring_110 4 rfl ?_
              exact z_pick [] rfl (h T G B hY)
            · have h := h.2 hb
              refine z_iload dX8_ring_105 3 rfl ?_
              refine z_goto (tgt := 112) dX8_ring_107 (by decide) ?_
              exact z_pick [] rfl (h T G B hY)
          · have h := h.2 hb
            refine z_iload_n dX8_ring_96 2 rfl rfl ?_
            refine z_goto (tgt := 112) dX8_ring_97 (by decide) ?_
            exact z_pick [] rfl (h T G B hY)
set_option maxHeartbeats 4000000 in
set_option maxRecDepth 100000 in
theorem vX8_ring_114 {l : Launch} {w : Nat → Nat} {nb : Nat} {Q : PM} {x2 x3 x4 x5 : Int32} {F A : MI}  (h : ZM l mX8_ring 4 w nb Q 48 [(0, .ref 122), (2, .int x2), (3, .int x3), (4, .int x4), (5, .int (x5 + 1))] [] F A) : ZM l mX8_ring 4 w nb Q 114 [(0, .ref 122), (2, .int x2), (3, .int x3), (4, .int x4), (5, .int x5)] [] F A := by
  intro T G B hY
  refine z_iinc (v := (x5 + 1)) (lv' := [(0, .ref 122), (2, .int x2), (3, .int x3), (4, .int x4), (5, .int (x5 + 1))]) dX8_ring_114 4 rfl rfl (by decide) rfl ?_
  refine z_goto (tgt := 48) dX8_ring_117 (by decide) ?_
  exact z_pick [0, 1, 2, 3, 4] rfl (h T G B hY)
set_option maxHeartbeats 4000000 in
set_option maxRecDepth 100000 in
theorem vX8_ring_112 {l : Launch} {w : Nat → Nat} {nb : Nat} {Q : PM} {s0 : Int32} {F A : MI}  (h : (vp_in s0 8 ∧ Q (some (.int (A 140 s0.toNatClampNeg))) F A)) : ZM l mX8_ring 4 w nb Q 112 [] [.int s0, .ref 140] F A := by
  intro T G B hY
  have hin1 := h.1
  have h := h.2
  refine z_iald' (n := 8) (x := (A 140 s0.toNatClampNeg)) dX8_ring_112 (lat hY rfl) (lln hY rfl) hin1 rfl ?_
  exact z_iretM dX8_ring_113 rfl h
set_option maxHeartbeats 4000000 in
set_option maxRecDepth 100000 in
theorem vX8_swaps_0 {l : Launch} {w : Nat → Nat} {nb : Nat} {Q : PM} {x1 : Int32} {F A : MI}  (h : CM l mX8_isClass 2 w nb [.int x1] F A (qi fun r1 F1 A1 => ((¬ r1 = 0 → CM l mX8_joins 3 w nb [.ref 122, .int x1] F1 A1 (qv fun F2 A2 => (vp_in ((1 <<< ((F2 345 122) &&& 31)) - 1) 256 ∧ Q (some (.int (A2 142 ((1 <<< ((F2 345 122) &&& 31)) - 1).toNatClampNeg))) F2 A2))) ∧ (r1 = 0 → Q (some (.int (-1))) F1 A1)))) : ZM l mX8_swaps 4 w nb Q 0 [(0, .ref 122), (1, .int x1)] [] F A := by
  intro T G B hY
  refine z_iload_n dX8_swaps_0 1 rfl rfl ?_
  refine zm_Si (As := [.int x1]) (rest := []) dX8_swaps_1 okX8_isClass smX8_isClass mk_X8_139 rfl rfl (Nat.le_of_ble_eq_true rfl) (by decide) hY (CM.monoi h fun r1 F1 A1 h => ?_)
  refine z_if_ne (tgt := 9) dX8_swaps_4 (by decide) (fun hb => ?_) (fun hb => ?_)
  · have h := h.1 hb
    refine z_aload_n dX8_swaps_9 0 rfl rfl ?_
    refine z_iload_n dX8_swaps_10 1 rfl rfl ?_
    refine zm_Vv (As := [.int x1]) (rest := []) dX8_swaps_11 okX8_joins ioX8_joins mk_X8_186 (ci := 8) rfl (by decide) (lat hY rfl) rfl rfl (Nat.le_of_ble_eq_true rfl) (by decide) hY (CM.monov h fun F2 A2 h => ?_)
    refine z_aload_n dX8_swaps_14 0 rfl rfl ?_
    refine z_getr (k := 28) (fc := 348) (r := 142) dX8_swaps_15 ckX8 (by decide) fk_X8_72 rfl rfl (lat hY rfl) (lgg hY rfl) (by decide) ?_
    refine z_iconst (v := 1) dX8_swaps_18 rfl ?_
    refine z_aload_n dX8_swaps_19 0 rfl rfl ?_
    refine z_geti' (k := 25) (fc := 345) (x := (F2 345 122)) dX8_swaps_20 ckX8 (by decide) fk_X8_176 rfl rfl (lat hY rfl) rfl ?_
    refine z_ishl dX8_swaps_23 ?_
    refine z_iconst (v := 1) dX8_swaps_24 rfl ?_
    refine z_isub dX8_swaps_25 ?_
    have hin3 := h.1
    have h := h.2
    refine z_iald' (n := 256) (x := (A2 142 ((1 <<< ((F2 345 122) &&& 31)) - 1).toNatClampNeg)) dX8_swaps_26 (lat hY rfl) (lln hY rfl) hin3 rfl ?_
    exact z_iretM dX8_swaps_27 rfl h
  · have h := h.2 hb
    refine z_iconst (v := (-1)) dX8_swaps_7 rfl ?_
    exact z_iretM dX8_swaps_8 rfl h
theorem kX8_swaps {l : Launch} {w : Nat → Nat} {nb : Nat} {Q : PM} {x1 : Int32} {F A : MI}  (h : CM l mX8_isClass 2 w nb [.int x1] F A (qi fun r1 F1 A1 => ((¬ r1 = 0 → CM l mX8_joins 3 w nb [.ref 122, .int x1] F1 A1 (qv fun F2 A2 => (vp_in ((1 <<< ((F2 345 122) &&& 31)) - 1) 256 ∧ Q (some (.int (A2 142 ((1 <<< ((F2 345 122) &&& 31)) - 1).toNatClampNeg))) F2 A2))) ∧ (r1 = 0 → Q (some (.int (-1))) F1 A1)))) : CM l mX8_swaps 4 w nb [.ref 122, .int x1] F A Q := CM.ofZ (by decide) (fun _ _ => rfl) (fun _ _ => Nat.le_of_ble_eq_true rfl) (vX8_swaps_0  h)
set_option maxHeartbeats 4000000 in
set_option maxRecDepth 100000 in
theorem vX8_clause_0 {l : Launch} {w : Nat → Nat} {nb : Nat} {Q : PM} {F A : MI}  (h : CM l mX8_here 1 w nb [.ref 122] F A (qi fun r1 F1 A1 => ((r1 = 98 → ZM l mX8_clause 5 w nb Q 41 [(0, .ref 122), (1, .int r1)] [] F1 A1) ∧ (¬ r1 = 98 → ((r1 = 102 → ZM l mX8_clause 5 w nb Q 41 [(0, .ref 122), (1, .int r1)] [] F1 A1) ∧ (¬ r1 = 102 → ((r1 = 116 → ZM l mX8_clause 5 w nb Q 41 [(0, .ref 122), (1, .int r1)] [] F1 A1) ∧ (¬ r1 = 116 → ((r1 = 109 → ZM l mX8_clause 5 w nb Q 41 [(0, .ref 122), (1, .int r1)] [] F1 A1) ∧ (¬ r1 = 109 → CM l mX8_fails 1 w nb [.ref 122, .int 1, .int (F1 341 122)] F1 A1 (qv fun F2 A2 => ZM l mX8_clause 5 w nb Q 59 [(0, .ref 122), (1, .int r1)] [] F2 A2))))))))))) : ZM l mX8_clause 5 w nb Q 0 [(0, .ref 122)] [] F A := by
  intro T G B hY
  refine z_aload_n dX8_clause_0 0 rfl rfl ?_
  refine zm_Vi (As := []) (rest := []) dX8_clause_1 okX8_here ioX8_here mk_X8_113 (ci := 8) rfl (by decide) (lat hY rfl) rfl rfl (Nat.le_of_ble_eq_true rfl) (by decide) hY (CM.monoi h fun r1 F1 A1 h => ?_)
  refine z_istore_n (lv' := [(0, .ref 122), (1, .int r1)]) dX8_clause_4 rfl (by decide) rfl ?_
  refine z_iload_n dX8_clause_5 1 rfl rfl ?_
  refine z_bipush (v := 98) dX8_clause_6 rfl ?_
  refine z_icmp_eq (tgt := 41) dX8_clause_8 (by decide) (fun hb => ?_) (fun hb => ?_)
  · have h := h.1 hb
    exact z_pick [0, 1] rfl (h T G B hY)
  · have h := h.2 hb
    refine z_iload_n dX8_clause_11 1 rfl rfl ?_
    refine z_bipush (v := 102) dX8_clause_12 rfl ?_
    refine z_icmp_eq (tgt := 41) dX8_clause_14 (by decide) (fun hb => ?_) (fun hb => ?_)
    · have h := h.1 hb
      exact z_pick [0, 1] rfl (h T G B hY)
    · have h := h.2 hb
      refine z_iload_n dX8_clause_17 1 rfl rfl ?_
      refine z_bipush (v := 116) dX8_clause_18 rfl ?_
      refine z_icmp_eq (tgt := 41) dX8_clause_20 (by decide) (fun hb => ?_) (fun hb => ?_)
      · have h := h.1 hb
        exact z_pick [0, 1] rfl (h T G B hY)
      · have h := h.2 hb
        refine z_iload_n dX8_clause_23 1 rfl rfl ?_
        refine z_bipush (v := 109) dX8_clause_24 rfl ?_
        refine z_icmp_eq (tgt := 41) dX8_clause_26 (by decide) (fun hb => ?_) (fun hb => ?_)
        · have h := h.1 hb
          exact z_pick [0, 1] rfl (h T G B hY)
        · have h := h.2 hb
          refine z_aload_n dX8_clause_29 0 rfl rfl ?_
          refine z_iconst (v := 1) dX8_clause_30 rfl ?_
          refine z_aload_n dX8_clause_31 0 rfl rfl ?_
          refine z_geti' (k := 21) (fc := 341) (x := (F1 341 122)) dX8_clause_32 ckX8 (by decide) fk_X8_101 rfl rfl (lat hY rfl) rfl ?_
          refine zm_Vv (As := [.int 1, .int (F1 341 122)]) (rest := []) dX8_clause_35 okX8_fails ioX8_fails mk_X8_121 (ci := 8) rfl (by decide) (lat hY rfl) rfl rfl (Nat.le_of_ble_eq_true rfl) (by decide) hY (CM.monov h fun F2 A2 h => ?_)
          refine z_goto (tgt := 59) dX8_clause_38 (by decide) ?_
          exact z_pick [0, 1] rfl (h T G B hY)
theorem kX8_clause {l : Launch} {w : Nat → Nat} {nb : Nat} {Q : PM} {F A : MI}  (h : CM l mX8_here 1 w nb [.ref 122] F A (qi fun r1 F1 A1 => ((r1 = 98 → ZM l mX8_clause 5 w nb Q 41 [(0, .ref 122), (1, .int r1)] [] F1 A1) ∧ (¬ r1 = 98 → ((r1 = 102 → ZM l mX8_clause 5 w nb Q 41 [(0, .ref 122), (1, .int r1)] [] F1 A1) ∧ (¬ r1 = 102 → ((r1 = 116 → ZM l mX8_clause 5 w nb Q 41 [(0, .ref 122), (1, .int r1)] [] F1 A1) ∧ (¬ r1 = 116 → ((r1 = 109 → ZM l mX8_clause 5 w nb Q 41 [(0, .ref 122), (1, .int r1)] [] F1 A1) ∧ (¬ r1 = 109 → CM l mX8_fails 1 w nb [.ref 122, .int 1, .int (F1 341 122)] F1 A1 (qv fun F2 A2 => ZM l mX8_clause 5 w nb Q 59 [(0, .ref 122), (1, .int r1)] [] F2 A2))))))))))) : CM l mX8_clause 5 w nb [.ref 122] F A Q := CM.ofZ (by decide) (fun _ _ => rfl) (fun _ _ => Nat.le_of_ble_eq_true rfl) (vX8_clause_0  h)
set_option maxHeartbeats 4000000 in
set_option maxRecDepth 100000 in
theorem vX8_clause_41 {l : Launch} {w : Nat → Nat} {nb : Nat} {Q : PM} {x1 : Int32} {F A : MI}  (h : ((¬ (F 332 122) = 8 → ZM l mX8_clause 5 w nb Q 59 [(0, .ref 122), (1, .int x1)] [] F A) ∧ ((F 332 122) = 8 → CM l mX8_fails 1 w nb [.ref 122, .int 3, .int (F 341 122)] F A (qv fun F1 A1 => ZM l mX8_clause 5 w nb Q 59 [(0, .ref 122), (1, .int x1)] [] F1 A1)))) : ZM l mX8_clause 5 w nb Q 41 [(0, .ref 122), (1, .int x1)] [] F A := by
  intro T G B hY
  refine z_aload_n dX8_clause_41 0 rfl rfl ?_
  refine z_geti' (k := 12) (fc := 332) (x := (F 332 122)) dX8_clause_42 ckX8 (by decide) fk_X8_125 rfl rfl (lat hY rfl) rfl ?_
  refine z_bipush (v := 8) dX8_clause_45 rfl ?_
  refine z_icmp_ne (tgt := 59) dX8_clause_47 (by decide) (fun hb => ?_) (fun hb => ?_)
  · have h := h.1 hb
    exact z_pick [0, 1] rfl (h T G B hY)
  · have h := h.2 hb
    refine z_aload_n dX8_clause_50 0 rfl rfl ?_
    refine z_iconst (v := 3) dX8_clause_51 rfl ?_
    refine z_aload_n dX8_clause_52 0 rfl rfl ?_
    refine z_geti' (k := 21) (fc := 341) (x := (F 341 122)) dX8_clause_53 ckX8 (by decide) fk_X8_101 rfl rfl (lat hY rfl) rfl ?_
    refine zm_Vv (As := [.int 3, .int (F 341 122)]) (rest := []) dX8_clause_56 okX8_fails ioX8_fails mk_X8_121 (ci := 8) rfl (by decide) (lat hY rfl) rfl rfl (Nat.le_of_ble_eq_true rfl) (by decide) hY (CM.monov h fun F1 A1 h => ?_)
    exact z_pick [0, 1] rfl (h T G B hY)
set_option maxHeartbeats 4000000 in
set_option maxRecDepth 100000 in
theorem vX8_clause_59 {l : Launch} {w : Nat → Nat} {nb : Nat} {Q : PM} {x1 : Int32} {F A : MI}  (h : (((F 343 122) ≤ 0 → ((¬ x1 = 98 → ((¬ x1 = 109 → ((¬ x1 = 102 → ZM l mX8_clause 5 w nb Q 115 [(0, .ref 122)] [.int 2, .ref 122] (u2 F 341 122 ((F 341 122) + 1)) A) ∧ (x1 = 102 → ZM l mX8_clause 5 w nb Q 115 [(0, .ref 122)] [.int 1, .ref 122] (u2 F 341 122 ((F 341 122) + 1)) A))) ∧ (x1 = 109 → CM l mX8_measures 4 w nb [.ref 122] (u2 F 341 122 ((F 341 122) + 1)) A (qv fun F1 A1 => Q none F1 A1)))) ∧ (x1 = 98 → CM l mX8_breeds 3 w nb [.ref 122] (u2 F 341 122 ((F 341 122) + 1)) A (qv fun F2 A2 => Q none F2 A2)))) ∧ (¬ (F 343 122) ≤ 0 → Q none F A))) : ZM l mX8_clause 5 w nb Q 59 [(0, .ref 122), (1, .int x1)] [] F A := by
  intro T G B hY
  refine z_aload_n dX8_clause_59 0 rfl rfl ?_
  refine z_geti' (k := 23) (fc := 343) (x := (F 343 122)) dX8_clause_60 ckX8 (by decide) fk_X8_107 rfl rfl (lat hY rfl) rfl ?_
  refine z_if_le (tgt := 67) dX8_clause_63 (by decide) (fun hb => ?_) (fun hb => ?_)
  · have h := h.1 hb
    refine z_aload_n dX8_clause_67 0 rfl rfl ?_
    refine z_dup dX8_clause_68 ?_
    refine z_geti' (k := 21) (fc := 341) (x := (F 341 122)) dX8_clause_69 ckX8 (by decide) fk_X8_101 rfl rfl (lat hY rfl) rfl ?_
    refine z_iconst (v := 1) dX8_clause_72 rfl ?_
    refine z_iadd dX8_clause_73 ?_
    refine z_puti (k := 21) (fc := 341) dX8_clause_74 ckX8 (by decide) fk_X8_101 rfl rfl rfl (lat hY rfl) ?_
    refine z_iload_n dX8_clause_77 1 rfl rfl ?_
    refine z_bipush (v := 98) dX8_clause_78 rfl ?_
    refine z_icmp_ne (tgt := 90) dX8_clause_80 (by decide) (fun hb => ?_) (fun hb => ?_)
    · have h := h.1 hb
      refine z_iload_n dX8_clause_90 1 rfl rfl ?_
      refine z_bipush (v := 109) dX8_clause_91 rfl ?_
      refine z_icmp_ne (tgt := 103) dX8_clause_93 (by decide) (fun hb => ?_) (fun hb => ?_)
      · have h := h.1 hb
        refine z_aload_n dX8_clause_103 0 rfl rfl ?_
        refine z_iload_n dX8_clause_104 1 rfl rfl ?_
        refine z_bipush (v := 102) dX8_clause_105 rfl ?_
        refine z_icmp_ne (tgt := 114) dX8_clause_107 (by decide) (fun hb => ?_) (fun hb => ?_)
        · have h := h.1 hb
          refine z_iconst (v := 2) dX8_clause_114 rfl ?_
          exact z_pick [0] rfl (h T G B hY)
        · have h := h.2 hb
          refine z_iconst (v := 1) dX8_clause_110 rfl ?_
          refine z_goto (tgt := 115) dX8_clause_111 (by decide) ?_
          exact z_pick [0] rfl (h T G B hY)
      · have h := h.2 hb
        refine z_aload_n dX8_clause_96 0 rfl rfl ?_
        refine zm_Vv (As := []) (rest := []) dX8_clause_97 okX8_measures ioX8_measures mk_X8_136 (ci := 8) rfl (by decide) (lat hY rfl) rfl rfl (Nat.le_of_ble_eq_true rfl) (by decide) hY (CM.monov h fun F1 A1 h => ?_)
        refine z_goto (tgt := 122) dX8_clause_100 (by decide) ?_
        exact z_vretM dX8_clause_122 rfl h
    · have h := h.2 hb
      refine z_aload_n dX8_clause_83 0 rfl rfl ?_
      refine zm_Vv (As := []) (rest := []) dX8_clause_84 okX8_breeds ioX8_breeds mk_X8_133 (ci := 8) rfl (by decide) (lat hY rfl) rfl rfl (Nat.le_of_ble_eq_true rfl) (by decide) hY (CM.monov h fun F2 A2 h => ?_)
      refine z_goto (tgt := 122) dX8_clause_87 (by decide) ?_
      exact z_vretM dX8_clause_122 rfl h
  · have h := h.2 hb
    exact z_vretM dX8_clause_66 rfl h
set_option maxHeartbeats 4000000 in
set_option maxRecDepth 100000 in
theorem vX8_clause_115 {l : Launch} {w : Nat → Nat} {nb : Nat} {Q : PM} {s0 : Int32} {F A : MI}  (h : CM l mX8_readNumber 3 w nb [.ref 122] F A (qi fun r1 F1 A1 => CM l mX8_keeps 1 w nb [.ref 122, .int s0, .int r1] F1 A1 (qv fun F2 A2 => Q none F2 A2))) : ZM l mX8_clause 5 w nb Q 115 [(0, .ref 122)] [.int s0, .ref 122] F A := by
  intro T G B hY
  refine z_aload_n dX8_clause_115 0 rfl rfl ?_
  refine zm_Vi (As := []) (rest := [.int s0, .ref 122]) dX8_clause_116 okX8_readNumber ioX8_readNumber mk_X8_131 (ci := 8) rfl (by decide) (lat hY rfl) rfl rfl (Nat.le_of_ble_eq_true rfl) (by decide) hY (CM.monoi h fun r1 F1 A1 h => ?_)
  refine zm_Vv (As := [.int s0, .int r1]) (rest := []) dX8_clause_119 okX8_keeps ioX8_keeps mk_X8_128 (ci := 8) rfl (by decide) (lat hY rfl) rfl rfl (Nat.le_of_ble_eq_true rfl) (by decide) hY (CM.monov h fun F2 A2 h => ?_)
  exact z_vretM dX8_clause_122 rfl h
set_option maxHeartbeats 4000000 in
set_option maxRecDepth 100000 in
theorem vX8_team_0 {l : Launch} {w : Nat → Nat} {nb : Nat} {Q : PM} {x1 : Int32} {F A : MI}  (h : CM l mX8_lies 1 w nb [.int x1, .int 0, .int 9] F A (qi fun r1 F1 A1 => ((¬ r1 = 0 → CM l mX8_ranks 4 w nb [.ref 122] F1 A1 (qv fun F2 A2 => ZM l mX8_team 5 w nb Q 23 [(0, .ref 122), (1, .int x1), (2, .int 0), (3, .int 0), (4, .int 1)] [] F2 A2)) ∧ (r1 = 0 → Q (some (.int (-1))) F1 A1)))) : ZM l mX8_team 5 w nb Q 0 [(0, .ref 122), (1, .int x1)] [] F A := by
  intro T G B hY
  refine z_iload_n dX8_team_0 1 rfl rfl ?_
  refine z_iconst (v := 0) dX8_team_1 rfl ?_
  refine z_bipush (v := 9) dX8_team_2 rfl ?_
  refine zm_Si (As := [.int x1, .int 0, .int 9]) (rest := []) dX8_team_4 okX8_lies smX8_lies mk_X8_87 rfl rfl (Nat.le_of_ble_eq_true rfl) (by decide) hY (CM.monoi h fun r1 F1 A1 h => ?_)
  refine z_if_ne (tgt := 12) dX8_team_7 (by decide) (fun hb => ?_) (fun hb => ?_)
  · have h := h.1 hb
    refine z_aload_n dX8_team_12 0 rfl rfl ?_
    refine zm_Vv (As := []) (rest := []) dX8_team_13 okX8_ranks ioX8_ranks mk_X8_216 (ci := 8) rfl (by decide) (lat hY rfl) rfl rfl (Nat.le_of_ble_eq_true rfl) (by decide) hY (CM.monov h fun F2 A2 h => ?_)
    refine z_iconst (v := 0) dX8_team_16 rfl ?_
    refine z_istore_n (lv' := [(0, .ref 122), (1, .int x1), (2, .int 0)]) dX8_team_17 rfl (by decide) rfl ?_
    refine z_iconst (v := 0) dX8_team_18 rfl ?_
    refine z_istore_n (lv' := [(0, .ref 122), (1, .int x1), (2, .int 0), (3, .int 0)]) dX8_team_19 rfl (by decide) rfl ?_
    refine z_iconst (v := 1) dX8_team_20 rfl ?_
    refine z_istore (lv' := [(0, .ref 122), (1, .int x1), (2, .int 0), (3, .int 0), (4, .int 1)]) dX8_team_21 (by decide) rfl ?_
    exact z_pick [0, 1, 2, 3, 4] rfl (h T G B hY)
  · have h := h.2 hb
    refine z_iconst (v := (-1)) dX8_team_10 rfl ?_
    exact z_iretM dX8_team_11 rfl h
theorem kX8_team {l : Launch} {w : Nat → Nat} {nb : Nat} {Q : PM} {x1 : Int32} {F A : MI}  (h : CM l mX8_lies 1 w nb [.int x1, .int 0, .int 9] F A (qi fun r1 F1 A1 => ((¬ r1 = 0 → CM l mX8_ranks 4 w nb [.ref 122] F1 A1 (qv fun F2 A2 => ZM l mX8_team 5 w nb Q 23 [(0, .ref 122), (1, .int x1), (2, .int 0), (3, .int 0), (4, .int 1)] [] F2 A2)) ∧ (r1 = 0 → Q (some (.int (-1))) F1 A1)))) : CM l mX8_team 5 w nb [.ref 122, .int x1] F A Q := CM.ofZ (by decide) (fun _ _ => rfl) (fun _ _ => Nat.le_of_ble_eq_true rfl) (vX8_team_0  h)
set_option maxHeartbeats 4000000 in
set_option maxRecDepth 100000 in
theorem vX8_team_23 {l : Launch} {w : Nat → Nat} {nb : Nat} {Q : PM} {x1 x2 x3 x4 : Int32} {F A : MI}  (h : ((8 < x4 → ((3 ≤ x2 → Q (some (.int x3)) F A) ∧ (¬ 3 ≤ x2 → Q (some (.int (-1))) F A))) ∧ (¬ 8 < x4 → ZM l mX8_team 5 w nb Q 33 [(0, .ref 122), (1, .int x1), (2, .int x2), (3, .int x3), (4, .int x4), (5, .int 0)] [] F A))) : ZM l mX8_team 5 w nb Q 23 [(0, .ref 122), (1, .int x1), (2, .int x2), (3, .int x3), (4, .int x4)] [] F A := by
  intro T G B hY
  refine z_iload dX8_team_23 4 rfl ?_
  refine z_bipush (v := 8) dX8_team_25 rfl ?_
  refine z_icmp_gt (tgt := 93) dX8_team_27 (by decide) (fun hb => ?_) (fun hb => ?_)
  · have h := h.1 hb
    refine z_iload_n dX8_team_93 2 rfl rfl ?_
    refine z_iconst (v := 3) dX8_team_94 rfl ?_
    refine z_icmp_ge (tgt := 102) dX8_team_95 (by decide) (fun hb => ?_) (fun hb => ?_)
    · have h := h.1 hb
      refine z_iload_n dX8_team_102 3 rfl rfl ?_
      exact z_iretM dX8_team_103 rfl h
    · have h := h.2 hb
      refine z_iconst (v := (-1)) dX8_team_98 rfl ?_
      refine z_goto (tgt := 103) dX8_team_99 (by decide) ?_
      exact z_iretM dX8_team_103 rfl h
  · have h := h.2 hb
    refine z_iconst (v := 0) dX8_team_30 rfl ?_
    refine z_istore (lv' := [(0, .ref 122), (1, .int x1), (2, .int x2), (3, .int x3), (4, .int x4), (5, .int 0)]) dX8_team_31 (by decide) rfl ?_
    exact z_pick [0, 1, 2, 3, 4, 5] rfl (h T G B hY)
set_option maxHeartbeats 4000000 in
set_option maxRecDepth 100000 in
theorem vX8_team_33 {l : Launch} {w : Nat → Nat} {nb : Nat} {Q : PM} {x1 x2 x3 x4 x5 : Int32} {F A : MI}  (h : (((F 322 122) ≤ x5 → ZM l mX8_team 5 w nb Q 23 [(0, .ref 122), (1, .int x1), (2, .int x2), (3, .int x3), (4, .int (x4 + 1))] [] F A) ∧ (¬ (F 322 122) ≤ x5 → (vp_in x5 20 ∧ ((¬ (A 126 x5.toNatClampNeg) = x1 → ZM l mX8_team 5 w nb Q 81 [(0, .ref 122), (1, .int x1), (2, .int x2), (3, .int x3), (4, .int x4), (5, .int x5)] [] F A) ∧ ((A 126 x5.toNatClampNeg) = x1 → (vp_in x5 20 ∧ ((¬ (A 146 x5.toNatClampNeg) = x4 → ZM l mX8_team 5 w nb Q 81 [(0, .ref 122), (1, .int x1), (2, .int x2), (3, .int x3), (4, .int x4), (5, .int x5)] [] F A) ∧ ((A 146 x5.toNatClampNeg) = x4 → ((¬ x2 = 3 → ZM l mX8_team 5 w nb Q 81 [(0, .ref 122), (1, .int x1), (2, .int (x2 + 1)), (3, .int (x3 + x4)), (4, .int x4), (5, .int x5)] [] F A) ∧ (x2 = 3 → ZM l mX8_team 5 w nb Q 81 [(0, .ref 122), (1, .int x1), (2, .int x2), (3, .int x3), (4, .int x4), (5, .int x5)] [] F A))))))))))) : ZM l mX8_team 5 w nb Q 33 [(0, .ref 122), (1, .int x1), (2, .int x2), (3, .int x3), (4, .int x4), (5, .int x5)] [] F A := by
  intro T G B hY
  refine z_iload dX8_team_33 5 rfl ?_
  refine z_aload_n dX8_team_35 0 rfl rfl ?_
  refine z_geti' (k := 2) (fc := 322) (x := (F 322 122)) dX8_team_36 ckX8 (by decide) fk_X8_91 rfl rfl (lat hY rfl) rfl ?_
  refine z_icmp_ge (tgt := 87) dX8_team_39 (by decide) (fun hb => ?_) (fun hb => ?_)
  · have h := h.1 hb
    refine z_iinc (v := (x4 + 1)) (lv' := [(0, .ref 122), (1, .int x1), (2, .int x2), (3, .int x3), (4, .int (x4 + 1)), (5, .int x5)]) dX8_team_87 4 rfl rfl (by decide) rfl ?_
    refine z_goto (tgt := 23) dX8_team_90 (by decide) ?_
    exact z_pick [0, 1, 2, 3, 4] rfl (h T G B hY)
  · have h := h.2 hb
    refine z_aload_n dX8_team_42 0 rfl rfl ?_
    refine z_getr (k := 6) (fc := 326) (r := 126) dX8_team_43 ckX8 (by decide) fk_X8_24 rfl rfl (lat hY rfl) (lgg hY rfl) (by decide) ?_
    refine z_iload dX8_team_46 5 rfl ?_
    have hin1 := h.1
    have h := h.2
    refine z_iald' (n := 20) (x := (A 126 x5.toNatClampNeg)) dX8_team_48 (lat hY rfl) (lln hY rfl) hin1 rfl ?_
    refine z_iload_n dX8_team_49 1 rfl rfl ?_
    refine z_icmp_ne (tgt := 81) dX8_team_50 (by decide) (fun hb => ?_) (fun hb => ?_)
    · have h := h.1 hb
      exact z_pick [0, 1, 2, 3, 4, 5] rfl (h T G B hY)
    · have h := h.2 hb
      refine z_aload_n dX8_team_53 0 rfl rfl ?_
      refine z_getr (k := 33) (fc := 353) (r := 146) dX8_team_54 ckX8 (by decide) fk_X8_84 rfl rfl (lat hY rfl) (lgg hY rfl) (by decide) ?_
      refine z_iload dX8_team_57 5 rfl ?_
      have hin2 := h.1
      have h := h.2
      refine z_iald' (n := 20) (x := (A 146 x5.toNatClampNeg)) dX8_team_59 (lat hY rfl) (lln hY rfl) hin2 rfl ?_
      refine z_iload dX8_team_60 4 rfl ?_
      refine z_icmp_ne (tgt := 81) dX8_team_62 (by decide) (fun hb => ?_) (fun hb => ?_)
      · have h := h.1 hb
        exact z_pick [0, 1, 2, 3, 4, 5] rfl (h T G B hY)
      · have h := h.2 hb
        refine z_iload_n dX8_team_65 2 rfl rfl ?_
        refine z_iconst (v := 3) dX8_team_66 rfl ?_
        refine z_icmp_ne (tgt := 73) dX8_team_67 (by decide) (fun hb => ?_) (fun hb => ?_)
        · have h := h.1 hb
          refine z_iload_n dX8_team_73 3 rfl rfl ?_
          refine z_iload dX8_team_74 4 rfl ?_
          refine z_iadd dX8_team_76 ?_
          refine z_istore_n (lv' := [(0, .ref 122), (1, .int x1), (2, .int x2), (3, .int (x3 + x4)), (4, .int x4), (5, .int x5)]) dX8_team_77 rfl (by decide) rfl ?_
          refine z_iinc (v := (x2 + 1)) (lv' := [(0, .ref 122), (1, .int x1), (2, .int (x2 + 1)), (3, .int (x3 + x4)), (4, .int x4), (5, .int x5)]) dX8_team_78 2 rfl rfl (by decide) rfl ?_
          exact z_pick [0, 1, 2, 3, 4, 5] rfl (h T G B hY)
        · have h := h.2 hb
          refine z_goto (tgt := 81) dX8_team_70 (by decide) ?_
          exact z_pick [0, 1, 2, 3, 4, 5] rfl (h T G B hY)
set_option maxHeartbeats 4000000 in
set_option maxRecDepth 100000 in
theorem vX8_team_81 {l : Launch} {w : Nat → Nat} {nb : Nat} {Q : PM} {x1 x2 x3 x4 x5 : Int32} {F A : MI}  (h : ZM l mX8_team 5 w nb Q 33 [(0, .ref 122), (1, .int x1), (2, .int x2), (3, .int x3), (4, .int x4), (5, .int (x5 + 1))] [] F A) : ZM l mX8_team 5 w nb Q 81 [(0, .ref 122), (1, .int x1), (2, .int x2), (3, .int x3), (4, .int x4), (5, .int x5)] [] F A := by
  intro T G B hY
  refine z_iinc (v := (x5 + 1)) (lv' := [(0, .ref 122), (1, .int x1), (2, .int x2), (3, .int x3), (4, .int x4), (5, .int (x5 + 1))]) dX8_team_81 5 rfl rfl (by decide) rfl ?_
  refine z_goto (tgt := 33) dX8_team_84 (by decide) ?_
  exact z_pick [0, 1, 2, 3, 4, 5] rfl (h T G B hY)
set_option maxHeartbeats 4000000 in
set_option maxRecDepth 100000 in
theorem vX8_text_0 {l : Launch} {w : Nat → Nat} {nb : Nat} {Q : PM} {x1 x2 : Int32} {F A : MI}  (h : CM l mX8_isClass 2 w nb [.int x1] F A (qi fun r1 F1 A1 => ((r1 = 0 → Q (some (.int (-1))) F1 A1) ∧ (¬ r1 = 0 → ((x2 < 0 → Q (some (.int (-1))) F1 A1) ∧ (¬ x2 < 0 → ((x2 ≤ (F1 321 122) → CM l mX8_begins 1 w nb [.ref 122, .int x2] F1 A1 (qv fun F2 A2 => ((x2 ≤ 0 → ZM l mX8_text 6 w nb Q 40 [(0, .ref 122), (1, .int x1)] [.int 0] (u2 F2 332 122 0) A2) ∧ (¬ x2 ≤ 0 → ZM l mX8_text 6 w nb Q 40 [(0, .ref 122), (1, .int x1)] [.int 1] (u2 F2 332 122 0) A2)))) ∧ (¬ x2 ≤ (F1 321 122) → Q (some (.int (-1))) F1 A1)))))))) : ZM l mX8_text 6 w nb Q 0 [(0, .ref 122), (1, .int x1), (2, .int x2)] [] F A := by
  intro T G B hY
  refine z_iload_n dX8_text_0 1 rfl rfl ?_
  refine zm_Si (As := [.int x1]) (rest := []) dX8_text_1 okX8_isClass smX8_isClass mk_X8_139 rfl rfl (Nat.le_of_ble_eq_true rfl) (by decide) hY (CM.monoi h fun r1 F1 A1 h => ?_)
  refine z_if_eq (tgt := 19) dX8_text_4 (by decide) (fun hb => ?_) (fun hb => ?_)
  · have h := h.1 hb
    refine z_iconst (v := (-1)) dX8_text_19 rfl ?_
    exact z_iretM dX8_text_20 rfl h
  · have h := h.2 hb
    refine z_iload_n dX8_text_7 2 rfl rfl ?_
    refine z_if_lt (tgt := 19) dX8_text_8 (by decide) (fun hb => ?_) (fun hb => ?_)
    · have h := h.1 hb
      refine z_iconst (v := (-1)) dX8_text_19 rfl ?_
      exact z_iretM dX8_text_20 rfl h
    · have h := h.2 hb
      refine z_iload_n dX8_text_11 2 rfl rfl ?_
      refine z_aload_n dX8_text_12 0 rfl rfl ?_
      refine z_geti' (k := 1) (fc := 321) (x := (F1 321 122)) dX8_text_13 ckX8 (by decide) fk_X8_94 rfl rfl (lat hY rfl) rfl ?_
      refine z_icmp_le (tgt := 21) dX8_text_16 (by decide) (fun hb => ?_) (fun hb => ?_)
      · have h := h.1 hb
        refine z_aload_n dX8_text_21 0 rfl rfl ?_
        refine z_iload_n dX8_text_22 2 rfl rfl ?_
        refine zm_Vv (As := [.int x2]) (rest := []) dX8_text_23 okX8_begins ioX8_begins mk_X8_143 (ci := 8) rfl (by decide) (lat hY rfl) rfl rfl (Nat.le_of_ble_eq_true rfl) (by decide) hY (CM.monov h fun F2 A2 h => ?_)
        refine z_aload_n dX8_text_26 0 rfl rfl ?_
        refine z_iconst (v := 0) dX8_text_27 rfl ?_
        refine z_puti (k := 12) (fc := 332) dX8_text_28 ckX8 (by decide) fk_X8_125 rfl rfl rfl (lat hY rfl) ?_
        refine z_iload_n dX8_text_31 2 rfl rfl ?_
        refine z_if_le (tgt := 39) dX8_text_32 (by decide) (fun hb => ?_) (fun hb => ?_)
        · have h := h.1 hb
          refine z_iconst (v := 0) dX8_text_39 rfl ?_
          exact z_pick [0, 1] rfl (h T G B hY)
        · have h := h.2 hb
          refine z_iconst (v := 1) dX8_text_35 rfl ?_
          refine z_goto (tgt := 40) dX8_text_36 (by decide) ?_
          exact z_pick [0, 1] rfl (h T G B hY)
      · have h := h.2 hb
        refine z_iconst (v := (-1)) dX8_text_19 rfl ?_
        exact z_iretM dX8_text_20 rfl h
theorem kX8_text {l : Launch} {w : Nat → Nat} {nb : Nat} {Q : PM} {x1 x2 : Int32} {F A : MI}  (h : CM l mX8_isClass 2 w nb [.int x1] F A (qi fun r1 F1 A1 => ((r1 = 0 → Q (some (.int (-1))) F1 A1) ∧ (¬ r1 = 0 → ((x2 < 0 → Q (some (.int (-1))) F1 A1) ∧ (¬ x2 < 0 → ((x2 ≤ (F1 321 122) → CM l mX8_begins 1 w nb [.ref 122, .int x2] F1 A1 (qv fun F2 A2 => ((x2 ≤ 0 → ZM l mX8_text 6 w nb Q 40 [(0, .ref 122), (1, .int x1)] [.int 0] (u2 F2 332 122 0) A2) ∧ (¬ x2 ≤ 0 → ZM l mX8_text 6 w nb Q 40 [(0, .ref 122), (1, .int x1)] [.int 1] (u2 F2 332 122 0) A2)))) ∧ (¬ x2 ≤ (F1 321 122) → Q (some (.int (-1))) F1 A1)))))))) : CM l mX8_text 6 w nb [.ref 122, .int x1, .int x2] F A Q := CM.ofZ (by decide) (fun _ _ => rfl) (fun _ _ => Nat.le_of_ble_eq_true rfl) (vX8_text_0  h)
set_option maxHeartbeats 4000000 in
set_option maxRecDepth 100000 in
theorem vX8_text_40 {l : Launch} {w : Nat → Nat} {nb : Nat} {Q : PM} {x1 s0 : Int32} {F A : MI}  (h : ZM l mX8_text 6 w nb Q 41 [(0, .ref 122), (1, .int x1), (3, .int s0)] [] F A) : ZM l mX8_text 6 w nb Q 40 [(0, .ref 122), (1, .int x1)] [.int s0] F A := by
  intro T G B hY
  refine z_istore_n (lv' := [(0, .ref 122), (1, .int x1), (3, .int s0)]) dX8_text_40 rfl (by decide) rfl ?_
  exact z_pick [0, 1, 2] rfl (h T G B hY)
set_option maxHeartbeats 4000000 in
set_option maxRecDepth 100000 in
theorem vX8_text_41 {l : Launch} {w : Nat → Nat} {nb : Nat} {Q : PM} {x1 x3 : Int32} {F A : MI}  (h : ((x3 = 0 → ZM l mX8_text 6 w nb Q 115 [(0, .ref 122), (1, .int x1)] [] F A) ∧ (¬ x3 = 0 → ((¬ (F 343 122) = 0 → ZM l mX8_text 6 w nb Q 115 [(0, .ref 122), (1, .int x1)] [] F A) ∧ ((F 343 122) = 0 → CM l mX8_clause 5 w nb [.ref 122] F A (qv fun F1 A1 => ((¬ (F1 343 122) = 0 → ZM l mX8_text 6 w nb Q 78 [(0, .ref 122), (1, .int x1)] [] F1 A1) ∧ ((F1 343 122) = 0 → (((F1 342 122) ≤ (F1 341 122) → ZM l mX8_text 6 w nb Q 78 [(0, .ref 122), (1, .int x1)] [] F1 A1) ∧ (¬ (F1 342 122) ≤ (F1 341 122) → ZM l mX8_text 6 w nb Q 79 [(0, .ref 122), (1, .int x1)] [.int 1] F1 A1)))))))))) : ZM l mX8_text 6 w nb Q 41 [(0, .ref 122), (1, .int x1), (3, .int x3)] [] F A := by
  intro T G B hY
  refine z_iload_n dX8_text_41 2 rfl rfl ?_
  refine z_if_eq (tgt := 115) dX8_text_42 (by decide) (fun hb => ?_) (fun hb => ?_)
  · have h := h.1 hb
    exact z_pick [0, 1] rfl (h T G B hY)
  · have h := h.2 hb
    refine z_aload_n dX8_text_45 0 rfl rfl ?_
    refine z_geti' (k := 23) (fc := 343) (x := (F 343 122)) dX8_text_46 ckX8 (by decide) fk_X8_107 rfl rfl (lat hY rfl) rfl ?_
    refine z_if_ne (tgt := 115) dX8_text_49 (by decide) (fun hb => ?_) (fun hb => ?_)
    · have h := h.1 hb
      exact z_pick [0, 1] rfl (h T G B hY)
    · have h := h.2 hb
      refine z_aload_n dX8_text_52 0 rfl rfl ?_
      refine zm_Vv (As := []) (rest := []) dX8_text_53 okX8_clause ioX8_clause mk_X8_146 (ci := 8) rfl (by decide) (lat hY rfl) rfl rfl (Nat.le_of_ble_eq_true rfl) (by decide) hY (CM.monov h fun F1 A1 h => ?_)
      refine z_aload_n dX8_text_56 0 rfl rfl ?_
      refine z_geti' (k := 23) (fc := 343) (x := (F1 343 122)) dX8_text_57 ckX8 (by decide) fk_X8_107 rfl rfl (lat hY rfl) rfl ?_
      refine z_if_ne (tgt := 78) dX8_text_60 (by decide) (fun hb => ?_) (fun hb => ?_)
      · have h := h.1 hb
        exact z_pick [0, 1] rfl (h T G B hY)
      · have h := h.2 hb
        refine z_aload_n dX8_text_63 0 rfl rfl ?_
        refine z_geti' (k := 21) (fc := 341) (x := (F1 341 122)) dX8_text_64 ckX8 (by decide) fk_X8_101 rfl rfl (lat hY rfl) rfl ?_
        refine z_aload_n dX8_text_67 0 rfl rfl ?_
        refine z_geti' (k := 22) (fc := 342) (x := (F1 342 122)) dX8_text_68 ckX8 (by decide) fk_X8_104 rfl rfl (lat hY rfl) rfl ?_
        refine z_icmp_ge (tgt := 78) dX8_text_71 (by decide) (fun hb => ?_) (fun hb => ?_)
        · have h := h.1 hb
          exact z_pick [0, 1] rfl (h T G B hY)
        · have h := h.2 hb
          refine z_iconst (v := 1) dX8_text_74 rfl ?_
          refine z_goto (tgt := 79) dX8_text_75 (by decide) ?_
          exact z_pick [0, 1] rfl (h T G B hY)
set_option maxHeartbeats 4000000 in
set_option maxRecDepth 100000 in
theorem vX8_text_115 {l : Launch} {w : Nat → Nat} {nb : Nat} {Q : PM} {x1 : Int32} {F A : MI}  (h : (((F 343 122) ≤ 0 → (vp_in x1 6 ∧ ZM l mX8_text 6 w nb Q 148 [(0, .ref 122), (1, .int x1), (4, .int 0)] [] F (u2 A 129 x1.toNatClampNeg (F 332 122)))) ∧ (¬ (F 343 122) ≤ 0 → Q (some (.int ((100 * (F 343 122)) + (F 344 122)))) F A))) : ZM l mX8_text 6 w nb Q 115 [(0, .ref 122), (1, .int x1)] [] F A := by
  intro T G B hY
  refine z_aload_n dX8_text_115 0 rfl rfl ?_
  refine z_geti' (k := 23) (fc := 343) (x := (F 343 122)) dX8_text_116 ckX8 (by decide) fk_X8_107 rfl rfl (lat hY rfl) rfl ?_
  refine z_if_le (tgt := 135) dX8_text_119 (by decide) (fun hb => ?_) (fun hb => ?_)
  · have h := h.1 hb
    refine z_aload_n dX8_text_135 0 rfl rfl ?_
    refine z_getr (k := 9) (fc := 329) (r := 129) dX8_text_136 ckX8 (by decide) fk_X8_33 rfl rfl (lat hY rfl) (lgg hY rfl) (by decide) ?_
    refine z_iload_n dX8_text_139 1 rfl rfl ?_
    refine z_aload_n dX8_text_140 0 rfl rfl ?_
    refine z_geti' (k := 12) (fc := 332) (x := (F 332 122)) dX8_text_141 ckX8 (by decide) fk_X8_125 rfl rfl (lat hY rfl) rfl ?_
    have hin1 := h.1
    have h := h.2
    refine z_iast' (n := 6) dX8_text_144 (lat hY rfl) (lln hY rfl) hin1 ?_
    refine z_iconst (v := 0) dX8_text_145 rfl ?_
    refine z_istore (lv' := [(0, .ref 122), (1, .int x1), (4, .int 0)]) dX8_text_146 (by decide) rfl ?_
    exact z_pick [0, 1, 2] rfl (h T G B hY)
  · have h := h.2 hb
    refine z_bipush (v := 100) dX8_text_122 rfl ?_
    refine z_aload_n dX8_text_124 0 rfl rfl ?_
    refine z_geti' (k := 23) (fc := 343) (x := (F 343 122)) dX8_text_125 ckX8 (by decide) fk_X8_107 rfl rfl (lat hY rfl) rfl ?_
    refine z_imul dX8_text_128 ?_
    refine z_aload_n dX8_text_129 0 rfl rfl ?_
    refine z_geti' (k := 24) (fc := 344) (x := (F 344 122)) dX8_text_130 ckX8 (by decide) fk_X8_110 rfl rfl (lat hY rfl) rfl ?_
    refine z_iadd dX8_text_133 ?_
    exact z_iretM dX8_text_134 rfl h
set_option maxHeartbeats 4000000 in
set_option maxRecDepth 100000 in
theorem vX8_text_78 {l : Launch} {w : Nat → Nat} {nb : Nat} {Q : PM} {x1 : Int32} {F A : MI}  (h : ZM l mX8_text 6 w nb Q 79 [(0, .ref 122), (1, .int x1)] [.int 0] F A) : ZM l mX8_text 6 w nb Q 78 [(0, .ref 122), (1, .int x1)] [] F A := by
  intro T G B hY
  refine z_iconst (v := 0) dX8_text_78 rfl ?_
  exact z_pick [0, 1] rfl (h T G B hY)
set_option maxHeartbeats 4000000 in
set_option maxRecDepth 100000 in
theorem vX8_text_79 {l : Launch} {w : Nat → Nat} {nb : Nat} {Q : PM} {x1 s0 : Int32} {F A : MI}  (h : ((s0 = 0 → ZM l mX8_text 6 w nb Q 102 [(0, .ref 122), (1, .int x1), (3, .int s0)] [] F A) ∧ (¬ s0 = 0 → CM l mX8_here 1 w nb [.ref 122] F A (qi fun r1 F1 A1 => ((r1 = 59 → ZM l mX8_text 6 w nb Q 102 [(0, .ref 122), (1, .int x1), (3, .int s0)] [] F1 A1) ∧ (¬ r1 = 59 → CM l mX8_fails 1 w nb [.ref 122, .int 1, .int (F1 341 122)] F1 A1 (qv fun F2 A2 => ZM l mX8_text 6 w nb Q 102 [(0, .ref 122), (1, .int x1), (3, .int s0)] [] F2 A2))))))) : ZM l mX8_text 6 w nb Q 79 [(0, .ref 122), (1, .int x1)] [.int s0] F A := by
  intro T G B hY
  refine z_istore_n (lv' := [(0, .ref 122), (1, .int x1), (3, .int s0)]) dX8_text_79 rfl (by decide) rfl ?_
  refine z_iload_n dX8_text_80 2 rfl rfl ?_
  refine z_if_eq (tgt := 102) dX8_text_81 (by decide) (fun hb => ?_) (fun hb => ?_)
  · have h := h.1 hb
    exact z_pick [0, 1, 2] rfl (h T G B hY)
  · have h := h.2 hb
    refine z_aload_n dX8_text_84 0 rfl rfl ?_
    refine zm_Vi (As := []) (rest := []) dX8_text_85 okX8_here ioX8_here mk_X8_113 (ci := 8) rfl (by decide) (lat hY rfl) rfl rfl (Nat.le_of_ble_eq_true rfl) (by decide) hY (CM.monoi h fun r1 F1 A1 h => ?_)
    refine z_bipush (v := 59) dX8_text_88 rfl ?_
    refine z_icmp_eq (tgt := 102) dX8_text_90 (by decide) (fun hb => ?_) (fun hb => ?_)
    · have h := h.1 hb
      exact z_pick [0, 1, 2] rfl (h T G B hY)
    · have h := h.2 hb
      refine z_aload_n dX8_text_93 0 rfl rfl ?_
      refine z_iconst (v := 1) dX8_text_94 rfl ?_
      refine z_aload_n dX8_text_95 0 rfl rfl ?_
      refine z_geti' (k := 21) (fc := 341) (x := (F1 341 122)) dX8_text_96 ckX8 (by decide) fk_X8_101 rfl rfl (lat hY rfl) rfl ?_
      refine zm_Vv (As := [.int 1, .int (F1 341 122)]) (rest := []) dX8_text_99 okX8_fails ioX8_fails mk_X8_121 (ci := 8) rfl (by decide) (lat hY rfl) rfl rfl (Nat.le_of_ble_eq_true rfl) (by decide) hY (CM.monov h fun F2 A2 h => ?_)
      exact z_pick [0, 1, 2] rfl (h T G B hY)
set_option maxHeartbeats 4000000 in
set_option maxRecDepth 100000 in
theorem vX8_text_148 {l : Launch} {w : Nat → Nat} {nb : Nat} {Q : PM} {x1 x4 : Int32} {F A : MI}  (h : (((F 332 122) ≤ x4 → Q (some (.int 0)) F A) ∧ (¬ (F 332 122) ≤ x4 → (vp_in x4 8 ∧ (vp_in ((8 * x1) + x4) 48 ∧ (vp_in x4 8 ∧ (vp_in ((8 * x1) + x4) 48 ∧ ZM l mX8_text 6 w nb Q 148 [(0, .ref 122), (1, .int x1), (4, .int (x4 + 1))] [] F (u2 (u2 A 130 ((8 * x1) + x4).toNatClampNeg (A 132 x4.toNatClampNeg)) 131 ((8 * x1) + x4).toNatClampNeg (A 133 x4.toNatClampNeg))))))))) : ZM l mX8_text 6 w nb Q 148 [(0, .ref 122), (1, .int x1), (4, .int x4)] [] F A := by
  intro T G B hY
  refine z_iload dX8_text_148 2 rfl ?_
  refine z_aload_n dX8_text_150 0 rfl rfl ?_
  refine z_geti' (k := 12) (fc := 332) (x := (F 332 122)) dX8_text_151 ckX8 (by decide) fk_X8_125 rfl rfl (lat hY rfl) rfl ?_
  refine z_icmp_ge (tgt := 201) dX8_text_154 (by decide) (fun hb => ?_) (fun hb => ?_)
  · have h := h.1 hb
    refine z_iconst (v := 0) dX8_text_201 rfl ?_
    exact z_iretM dX8_text_202 rfl h
  · have h := h.2 hb
    refine z_aload_n dX8_text_157 0 rfl rfl ?_
    refine z_getr (k := 10) (fc := 330) (r := 130) dX8_text_158 ckX8 (by decide) fk_X8_36 rfl rfl (lat hY rfl) (lgg hY rfl) (by decide) ?_
    refine z_bipush (v := 8) dX8_text_161 rfl ?_
    refine z_iload_n dX8_text_163 1 rfl rfl ?_
    refine z_imul dX8_text_164 ?_
    refine z_iload dX8_text_165 2 rfl ?_
    refine z_iadd dX8_text_167 ?_
    refine z_aload_n dX8_text_168 0 rfl rfl ?_
    refine z_getr (k := 13) (fc := 333) (r := 132) dX8_text_169 ckX8 (by decide) fk_X8_42 rfl rfl (lat hY rfl) (lgg hY rfl) (by decide) ?_
    refine z_iload dX8_text_172 2 rfl ?_
    have hin1 := h.1
    have h := h.2
    refine z_iald' (n := 8) (x := (A 132 x4.toNatClampNeg)) dX8_text_174 (lat hY rfl) (lln hY rfl) hin1 rfl ?_
    have hin2 := h.1
    have h := h.2
    refine z_iast' (n := 48) dX8_text_175 (lat hY rfl) (lln hY rfl) hin2 ?_
    refine z_aload_n dX8_text_176 0 rfl rfl ?_
    refine z_getr (k := 11) (fc := 331) (r := 131) dX8_text_177 ckX8 (by decide) fk_X8_39 rfl rfl (lat hY rfl) (lgg hY rfl) (by decide) ?_
    refine z_bipush (v := 8) dX8_text_180 rfl ?_
    refine z_iload_n dX8_text_182 1 rfl rfl ?_
    refine z_imul dX8_text_183 ?_
    refine z_iload dX8_text_184 2 rfl ?_
    refine z_iadd dX8_text_186 ?_
    refine z_aload_n dX8_text_187 0 rfl rfl ?_
    refine z_getr (k := 14) (fc := 334) (r := 133) dX8_text_188 ckX8 (by decide) fk_X8_45 rfl rfl (lat hY rfl) (lgg hY rfl) (by decide) ?_
    refine z_iload dX8_text_191 2 rfl ?_
    have hin3 := h.1
    have h := h.2
    refine z_iald' (n := 8) (x := (A 133 x4.toNatClampNeg)) dX8_text_193 (lat hY rfl) (lln hY rfl) hin3 ((u2_n1 (by omega)).trans rfl) ?_
    have hin4 := h.1
    have h := h.2
    refine z_iast' (n := 48) dX8_text_194 (lat hY rfl) (lln hY rfl) hin4 ?_
    refine z_iinc (v := (x4 + 1)) (lv' := [(0, .ref 122), (1, .int x1), (4, .int (x4 + 1))]) dX8_text_195 2 rfl rfl (by decide) rfl ?_
    refine z_goto (tgt := 148) dX8_text_198 (by decide) ?_
    exact z_pick [0, 1, 2] rfl (h T G B hY)
set_option maxHeartbeats 4000000 in
set_option maxRecDepth 100000 in
theorem vX8_text_102 {l : Launch} {w : Nat → Nat} {nb : Nat} {Q : PM} {x1 x3 : Int32} {F A : MI}  (h : ZM l mX8_text 6 w nb Q 41 [(0, .ref 122), (1, .int x1), (3, .int x3)] [] (u2 F 341 122 ((F 341 122) + 1)) A) : ZM l mX8_text 6 w nb Q 102 [(0, .ref 122), (1, .int x1), (3, .int x3)] [] F A := by
  intro T G B hY
  refine z_aload_n dX8_text_102 0 rfl rfl ?_
  refine z_dup dX8_text_103 ?_
  refine z_geti' (k := 21) (fc := 341) (x := (F 341 122)) dX8_text_104 ckX8 (by decide) fk_X8_101 rfl rfl (lat hY rfl) rfl ?_
  refine z_iconst (v := 1) dX8_text_107 rfl ?_
  refine z_iadd dX8_text_108 ?_
  refine z_puti (k := 21) (fc := 341) dX8_text_109 ckX8 (by decide) fk_X8_101 rfl rfl rfl (lat hY rfl) ?_
  refine z_goto (tgt := 41) dX8_text_112 (by decide) ?_
  exact z_pick [0, 1, 2] rfl (h T G B hY)
