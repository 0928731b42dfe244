set_option maxHeartbeats 4000000 in
set_option maxRecDepth 100000 in
theorem vX8_begins_0 {l : Launch} {w : Nat → Nat} {nb : Nat} {Q : PM} {x1 : Int32} {F A : MI}  (h : Q none (u2 (u2 (u2 (u2 (u2 F 321 122 0) 342 122 x1) 341 122 0) 343 122 0) 344 122 (-1)) A) : ZM l mX8_begins 1 w nb Q 0 [(0, .ref 122), (1, .int x1)] [] F A := by
  intro T G B hY
  refine z_aload_n dX8_begins_0 0 rfl rfl ?_
  refine z_iconst (v := 0) dX8_begins_1 rfl ?_
  refine z_puti (k := 1) (fc := 321) dX8_begins_2 ckX8 (by decide) fk_X8_94 rfl rfl rfl (lat hY rfl) ?_
  refine z_aload_n dX8_begins_5 0 rfl rfl ?_
  refine z_iload_n dX8_begins_6 1 rfl rfl ?_
  refine z_puti (k := 22) (fc := 342) dX8_begins_7 ckX8 (by decide) fk_X8_104 rfl rfl rfl (lat hY rfl) ?_
  refine z_aload_n dX8_begins_10 0 rfl rfl ?_
  refine z_iconst (v := 0) dX8_begins_11 rfl ?_
  refine z_puti (k := 21) (fc := 341) dX8_begins_12 ckX8 (by decide) fk_X8_101 rfl rfl rfl (lat hY rfl) ?_
  refine z_aload_n dX8_begins_15 0 rfl rfl ?_
  refine z_iconst (v := 0) dX8_begins_16 rfl ?_
  refine z_puti (k := 23) (fc := 343) dX8_begins_17 ckX8 (by decide) fk_X8_107 rfl rfl rfl (lat hY rfl) ?_
  refine z_aload_n dX8_begins_20 0 rfl rfl ?_
  refine z_iconst (v := (-1)) dX8_begins_21 rfl ?_
  refine z_puti (k := 24) (fc := 344) dX8_begins_22 ckX8 (by decide) fk_X8_110 rfl rfl rfl (lat hY rfl) ?_
  exact z_vretM dX8_begins_25 rfl h
theorem kX8_begins {l : Launch} {w : Nat → Nat} {nb : Nat} {Q : PM} {x1 : Int32} {F A : MI}  (h : Q none (u2 (u2 (u2 (u2 (u2 F 321 122 0) 342 122 x1) 341 122 0) 343 122 0) 344 122 (-1)) A) : CM l mX8_begins 1 w nb [.ref 122, .int x1] F A Q := CM.ofZ (by decide) (fun _ _ => rfl) (fun _ _ => Nat.le_of_ble_eq_true rfl) (vX8_begins_0  h)
set_option maxHeartbeats 4000000 in
set_option maxRecDepth 100000 in
theorem vX8_counts_0 {l : Launch} {w : Nat → Nat} {nb : Nat} {Q : PM} {x1 x2 : Int32} {F A : MI}  (h : (vp_in ((6 * x1) + x2) 36 ∧ (((A 137 ((6 * x1) + x2).toNatClampNeg) ≤ 0 → Q (some (.int 0)) F A) ∧ (¬ (A 137 ((6 * x1) + x2).toNatClampNeg) ≤ 0 → Q (some (.int 1)) F A)))) : ZM l mX8_counts 1 w nb Q 0 [(0, .ref 122), (1, .int x1), (2, .int x2)] [] F A := by
  intro T G B hY
  refine z_aload_n dX8_counts_0 0 rfl rfl ?_
  refine z_getr (k := 18) (fc := 338) (r := 137) dX8_counts_1 ckX8 (by decide) fk_X8_57 rfl rfl (lat hY rfl) (lgg hY rfl) (by decide) ?_
  refine z_bipush (v := 6) dX8_counts_4 rfl ?_
  refine z_iload_n dX8_counts_6 1 rfl rfl ?_
  refine z_imul dX8_counts_7 ?_
  refine z_iload_n dX8_counts_8 2 rfl rfl ?_
  refine z_iadd dX8_counts_9 ?_
  have hin1 := h.1
  have h := h.2
  refine z_iald' (n := 36) (x := (A 137 ((6 * x1) + x2).toNatClampNeg)) dX8_counts_10 (lat hY rfl) (lln hY rfl) hin1 rfl ?_
  refine z_if_le (tgt := 18) dX8_counts_11 (by decide) (fun hb => ?_) (fun hb => ?_)
  · have h := h.1 hb
    refine z_iconst (v := 0) dX8_counts_18 rfl ?_
    exact z_zretM dX8_counts_19 rfl (by decide) h
  · have h := h.2 hb
    refine z_iconst (v := 1) dX8_counts_14 rfl ?_
    refine z_goto (tgt := 19) dX8_counts_15 (by decide) ?_
    exact z_zretM dX8_counts_19 rfl (by decide) h
theorem kX8_counts {l : Launch} {w : Nat → Nat} {nb : Nat} {Q : PM} {x1 x2 : Int32} {F A : MI}  (h : (vp_in ((6 * x1) + x2) 36 ∧ (((A 137 ((6 * x1) + x2).toNatClampNeg) ≤ 0 → Q (some (.int 0)) F A) ∧ (¬ (A 137 ((6 * x1) + x2).toNatClampNeg) ≤ 0 → Q (some (.int 1)) F A)))) : CM l mX8_counts 1 w nb [.ref 122, .int x1, .int x2] F A Q := CM.ofZ (by decide) (fun _ _ => rfl) (fun _ _ => Nat.le_of_ble_eq_true rfl) (vX8_counts_0  h)
set_option maxHeartbeats 4000000 in
set_option maxRecDepth 100000 in
theorem vX8_fails_0 {l : Launch} {w : Nat → Nat} {nb : Nat} {Q : PM} {x1 x2 : Int32} {F A : MI}  (h : (((F 343 122) ≤ 0 → Q none (u2 (u2 F 343 122 x1) 344 122 x2) A) ∧ (¬ (F 343 122) ≤ 0 → Q none F A))) : ZM l mX8_fails 1 w nb Q 0 [(0, .ref 122), (1, .int x1), (2, .int x2)] [] F A := by
  intro T G B hY
  refine z_aload_n dX8_fails_0 0 rfl rfl ?_
  refine z_geti' (k := 23) (fc := 343) (x := (F 343 122)) dX8_fails_1 ckX8 (by decide) fk_X8_107 rfl rfl (lat hY rfl) rfl ?_
  refine z_if_le (tgt := 8) dX8_fails_4 (by decide) (fun hb => ?_) (fun hb => ?_)
  · have h := h.1 hb
    refine z_aload_n dX8_fails_8 0 rfl rfl ?_
    refine z_iload_n dX8_fails_9 1 rfl rfl ?_
    refine z_puti (k := 23) (fc := 343) dX8_fails_10 ckX8 (by decide) fk_X8_107 rfl rfl rfl (lat hY rfl) ?_
    refine z_aload_n dX8_fails_13 0 rfl rfl ?_
    refine z_iload_n dX8_fails_14 2 rfl rfl ?_
    refine z_puti (k := 24) (fc := 344) dX8_fails_15 ckX8 (by decide) fk_X8_110 rfl rfl rfl (lat hY rfl) ?_
    exact z_vretM dX8_fails_18 rfl h
  · have h := h.2 hb
    exact z_vretM dX8_fails_7 rfl h
theorem kX8_fails {l : Launch} {w : Nat → Nat} {nb : Nat} {Q : PM} {x1 x2 : Int32} {F A : MI}  (h : (((F 343 122) ≤ 0 → Q none (u2 (u2 F 343 122 x1) 344 122 x2) A) ∧ (¬ (F 343 122) ≤ 0 → Q none F A))) : CM l mX8_fails 1 w nb [.ref 122, .int x1, .int x2] F A Q := CM.ofZ (by decide) (fun _ _ => rfl) (fun _ _ => Nat.le_of_ble_eq_true rfl) (vX8_fails_0  h)
set_option maxHeartbeats 4000000 in
set_option maxRecDepth 100000 in
theorem vX8_has_0 {l : Launch} {w : Nat → Nat} {nb : Nat} {Q : PM} {x0 x1 : Int32} {F A : MI}  (h : ((¬ ((x0 >>> (x1 &&& 31)) &&& 1) = 1 → Q (some (.int 0)) F A) ∧ (((x0 >>> (x1 &&& 31)) &&& 1) = 1 → Q (some (.int 1)) F A))) : ZM l mX8_has 1 w nb Q 0 [(0, .int x0), (1, .int x1)] [] F A := by
  intro T G B hY
  refine z_iload_n dX8_has_0 0 rfl rfl ?_
  refine z_iload_n dX8_has_1 1 rfl rfl ?_
  refine z_ishr dX8_has_2 ?_
  refine z_iconst (v := 1) dX8_has_3 rfl ?_
  refine z_iand dX8_has_4 ?_
  refine z_iconst (v := 1) dX8_has_5 rfl ?_
  refine z_icmp_ne (tgt := 13) dX8_has_6 (by decide) (fun hb => ?_) (fun hb => ?_)
  · have h := h.1 hb
    refine z_iconst (v := 0) dX8_has_13 rfl ?_
    exact z_zretM dX8_has_14 rfl (by decide) h
  · have h := h.2 hb
    refine z_iconst (v := 1) dX8_has_9 rfl ?_
    refine z_goto (tgt := 14) dX8_has_10 (by decide) ?_
    exact z_zretM dX8_has_14 rfl (by decide) h
theorem kX8_has {l : Launch} {w : Nat → Nat} {nb : Nat} {Q : PM} {x0 x1 : Int32} {F A : MI}  (h : ((¬ ((x0 >>> (x1 &&& 31)) &&& 1) = 1 → Q (some (.int 0)) F A) ∧ (((x0 >>> (x1 &&& 31)) &&& 1) = 1 → Q (some (.int 1)) F A))) : CM l mX8_has 1 w nb [.int x0, .int x1] F A Q := CM.ofZ (by decide) (fun _ _ => rfl) (fun _ _ => Nat.le_of_ble_eq_true rfl) (vX8_has_0  h)
set_option maxHeartbeats 4000000 in
set_option maxRecDepth 100000 in
theorem vX8_here_0 {l : Launch} {w : Nat → Nat} {nb : Nat} {Q : PM} {F A : MI}  (h : (((F 342 122) ≤ (F 341 122) → Q (some (.int 0)) F A) ∧ (¬ (F 342 122) ≤ (F 341 122) → (vp_in (F 341 122) 80 ∧ Q (some (.int ((A 123 (F 341 122).toNatClampNeg) &&& 255))) F A)))) : ZM l mX8_here 1 w nb Q 0 [(0, .ref 122)] [] F A := by
  intro T G B hY
  refine z_aload_n dX8_here_0 0 rfl rfl ?_
  refine z_geti' (k := 21) (fc := 341) (x := (F 341 122)) dX8_here_1 ckX8 (by decide) fk_X8_101 rfl rfl (lat hY rfl) rfl ?_
  refine z_aload_n dX8_here_4 0 rfl rfl ?_
  refine z_geti' (k := 22) (fc := 342) (x := (F 342 122)) dX8_here_5 ckX8 (by decide) fk_X8_104 rfl rfl (lat hY rfl) rfl ?_
  refine z_icmp_ge (tgt := 27) dX8_here_8 (by decide) (fun hb => ?_) (fun hb => ?_)
  · have h := h.1 hb
    refine z_iconst (v := 0) dX8_here_27 rfl ?_
    exact z_iretM dX8_here_28 rfl h
  · have h := h.2 hb
    refine z_aload_n dX8_here_11 0 rfl rfl ?_
    refine z_getr (k := 0) (fc := 320) (r := 123) dX8_here_12 ckX8 (by decide) fk_X8_7 rfl rfl (lat hY rfl) (lgg hY rfl) (by decide) ?_
    refine z_aload_n dX8_here_15 0 rfl rfl ?_
    refine z_geti' (k := 21) (fc := 341) (x := (F 341 122)) dX8_here_16 ckX8 (by decide) fk_X8_101 rfl rfl (lat hY rfl) rfl ?_
    have hin1 := h.1
    have h := h.2
    refine z_bald' (n := 80) (x := (A 123 (F 341 122).toNatClampNeg)) dX8_here_19 (lat hY rfl) (lln hY rfl) hin1 rfl ?_
    refine z_sipush (v := 255) dX8_here_20 rfl ?_
    refine z_iand dX8_here_23 ?_
    refine z_goto (tgt := 28) dX8_here_24 (by decide) ?_
    exact z_iretM dX8_here_28 rfl h
theorem kX8_here {l : Launch} {w : Nat → Nat} {nb : Nat} {Q : PM} {F A : MI}  (h : (((F 342 122) ≤ (F 341 122) → Q (some (.int 0)) F A) ∧ (¬ (F 342 122) ≤ (F 341 122) → (vp_in (F 341 122) 80 ∧ Q (some (.int ((A 123 (F 341 122).toNatClampNeg) &&& 255))) F A)))) : CM l mX8_here 1 w nb [.ref 122] F A Q := CM.ofZ (by decide) (fun _ _ => rfl) (fun _ _ => Nat.le_of_ble_eq_true rfl) (vX8_here_0  h)
set_option maxHeartbeats 4000000 in
set_option maxRecDepth 100000 in
theorem vX8_isGood_0 {l : Launch} {w : Nat → Nat} {nb : Nat} {Q : PM} {F A : MI}  (h : ZM l mX8_isGood 1 w nb Q 2 [(0, .ref 122), (1, .int 0)] [] F A) : ZM l mX8_isGood 1 w nb Q 0 [(0, .ref 122)] [] F A := by
  intro T G B hY
  refine z_iconst (v := 0) dX8_isGood_0 rfl ?_
  refine z_istore_n (lv' := [(0, .ref 122), (1, .int 0)]) dX8_isGood_1 rfl (by decide) rfl ?_
  exact z_pick [0, 1] rfl (h T G B hY)
theorem kX8_isGood {l : Launch} {w : Nat → Nat} {nb : Nat} {Q : PM} {F A : MI}  (h : ZM l mX8_isGood 1 w nb Q 2 [(0, .ref 122), (1, .int 0)] [] F A) : CM l mX8_isGood 1 w nb [.ref 122] F A Q := CM.ofZ (by decide) (fun _ _ => rfl) (fun _ _ => Nat.le_of_ble_eq_true rfl) (vX8_isGood_0  h)
set_option maxHeartbeats 4000000 in
set_option maxRecDepth 100000 in
theorem vX8_isGood_2 {l : Launch} {w : Nat → Nat} {nb : Nat} {Q : PM} {x1 : Int32} {F A : MI}  (h : ((6 ≤ x1 → Q (some (.int 1)) F A) ∧ (¬ 6 ≤ x1 → (vp_in x1 6 ∧ ((¬ (A 134 x1.toNatClampNeg) = 0 → ZM l mX8_isGood 1 w nb Q 24 [(0, .ref 122), (1, .int x1), (2, .int 0), (3, .int 0)] [] F A) ∧ ((A 134 x1.toNatClampNeg) = 0 → ZM l mX8_isGood 1 w nb Q 99 [(0, .ref 122), (1, .int x1)] [] F A)))))) : ZM l mX8_isGood 1 w nb Q 2 [(0, .ref 122), (1, .int x1)] [] F A := by
  intro T G B hY
  refine z_iload_n dX8_isGood_2 1 rfl rfl ?_
  refine z_bipush (v := 6) dX8_isGood_3 rfl ?_
  refine z_icmp_ge (tgt := 105) dX8_isGood_5 (by decide) (fun hb => ?_) (fun hb => ?_)
  · have h := h.1 hb
    refine z_iconst (v := 1) dX8_isGood_105 rfl ?_
    exact z_zretM dX8_isGood_106 rfl (by decide) h
  · have h := h.2 hb
    refine z_aload_n dX8_isGood_8 0 rfl rfl ?_
    refine z_getr (k := 15) (fc := 335) (r := 134) dX8_isGood_9 ckX8 (by decide) fk_X8_48 rfl rfl (lat hY rfl) (lgg hY rfl) (by decide) ?_
    refine z_iload_n dX8_isGood_12 1 rfl rfl ?_
    have hin1 := h.1
    have h := h.2
    refine z_iald' (n := 6) (x := (A 134 x1.toNatClampNeg)) dX8_isGood_13 (lat hY rfl) (lln hY rfl) hin1 rfl ?_
    refine z_if_ne (tgt := 20) dX8_isGood_14 (by decide) (fun hb => ?_) (fun hb => ?_)
    · have h := h.1 hb
      refine z_iconst (v := 0) dX8_isGood_20 rfl ?_
      refine z_istore_n (lv' := [(0, .ref 122), (1, .int x1), (2, .int 0)]) dX8_isGood_21 rfl (by decide) rfl ?_
      refine z_iconst (v := 0) dX8_isGood_22 rfl ?_
      refine z_istore_n (lv' := [(0, .ref 122), (1, .int x1), (2, .int 0), (3, .int 0)]) dX8_isGood_23 rfl (by decide) rfl ?_
      exact z_pick [0, 1, 2, 3] rfl (h T G B hY)
    · have h := h.2 hb
      refine z_goto (tgt := 99) dX8_isGood_17 (by decide) ?_
      exact z_pick [0, 1] rfl (h T G B hY)
set_option maxHeartbeats 4000000 in
set_option maxRecDepth 100000 in
theorem vX8_isGood_24 {l : Launch} {w : Nat → Nat} {nb : Nat} {Q : PM} {x1 x2 x3 : Int32} {F A : MI}  (h : ((6 ≤ x3 → ((x2 ≤ (F 323 122) → ZM l mX8_isGood 1 w nb Q 99 [(0, .ref 122), (1, .int x1)] [] F A) ∧ (¬ x2 ≤ (F 323 122) → Q (some (.int 0)) F A))) ∧ (¬ 6 ≤ x3 → (vp_in x3 6 ∧ (((A 134 x3.toNatClampNeg) = 0 → ZM l mX8_isGood 1 w nb Q 83 [(0, .ref 122), (1, .int x1), (2, .int x2), (3, .int x3)] [] F A) ∧ (¬ (A 134 x3.toNatClampNeg) = 0 → (vp_in x3 6 ∧ (vp_in x1 6 ∧ (((A 145 x3.toNatClampNeg) = (A 145 x1.toNatClampNeg) → ((x3 = x1 → ZM l mX8_isGood 1 w nb Q 80 [(0, .ref 122), (1, .int x1), (2, .int x2), (3, .int x3)] [] F A) ∧ (¬ x3 = x1 → (vp_in x1 6 ∧ (vp_in x3 6 ∧ ((((A 144 x1.toNatClampNeg) &&& (A 144 x3.toNatClampNeg)) = 0 → ZM l mX8_isGood 1 w nb Q 80 [(0, .ref 122), (1, .int x1), (2, .int x2), (3, .int x3)] [] F A) ∧ (¬ ((A 144 x1.toNatClampNeg) &&& (A 144 x3.toNatClampNeg)) = 0 → Q (some (.int 0)) F A))))))) ∧ (¬ (A 145 x3.toNatClampNeg) = (A 145 x1.toNatClampNeg) → ZM l mX8_isGood 1 w nb Q 83 [(0, .ref 122), (1, .int x1), (2, .int x2), (3, .int x3)] [] F A)))))))))) : ZM l mX8_isGood 1 w nb Q 24 [(0, .ref 122), (1, .int x1), (2, .int x2), (3, .int x3)] [] F A := by
  intro T G B hY
  refine z_iload_n dX8_isGood_24 3 rfl rfl ?_
  refine z_bipush (v := 6) dX8_isGood_25 rfl ?_
  refine z_icmp_ge (tgt := 89) dX8_isGood_27 (by decide) (fun hb => ?_) (fun hb => ?_)
  · have h := h.1 hb
    refine z_iload_n dX8_isGood_89 2 rfl rfl ?_
    refine z_aload_n dX8_isGood_90 0 rfl rfl ?_
    refine z_geti' (k := 3) (fc := 323) (x := (F 323 122)) dX8_isGood_91 ckX8 (by decide) fk_X8_13 rfl rfl (lat hY rfl) rfl ?_
    refine z_icmp_le (tgt := 99) dX8_isGood_94 (by decide) (fun hb => ?_) (fun hb => ?_)
    · have h := h.1 hb
      exact z_pick [0, 1] rfl (h T G B hY)
    · have h := h.2 hb
      refine z_iconst (v := 0) dX8_isGood_97 rfl ?_
      exact z_zretM dX8_isGood_98 rfl (by decide) h
  · have h := h.2 hb
    refine z_aload_n dX8_isGood_30 0 rfl rfl ?_
    refine z_getr (k := 15) (fc := 335) (r := 134) dX8_isGood_31 ckX8 (by decide) fk_X8_48 rfl rfl (lat hY rfl) (lgg hY rfl) (by decide) ?_
    refine z_iload_n dX8_isGood_34 3 rfl rfl ?_
    have hin1 := h.1
    have h := h.2
    refine z_iald' (n := 6) (x := (A 134 x3.toNatClampNeg)) dX8_isGood_35 (lat hY rfl) (lln hY rfl) hin1 rfl ?_
    refine z_if_eq (tgt := 83) dX8_isGood_36 (by decide) (fun hb => ?_) (fun hb => ?_)
    · have h := h.1 hb
      exact z_pick [0, 1, 2, 3] rfl (h T G B hY)
    · have h := h.2 hb
      refine z_aload_n dX8_isGood_39 0 rfl rfl ?_
      refine z_getr (k := 32) (fc := 352) (r := 145) dX8_isGood_40 ckX8 (by decide) fk_X8_81 rfl rfl (lat hY rfl) (lgg hY rfl) (by decide) ?_
      refine z_iload_n dX8_isGood_43 3 rfl rfl ?_
      have hin2 := h.1
      have h := h.2
      refine z_iald' (n := 6) (x := (A 145 x3.toNatClampNeg)) dX8_isGood_44 (lat hY rfl) (lln hY rfl) hin2 rfl ?_
      refine z_aload_n dX8_isGood_45 0 rfl rfl ?_
      refine z_getr (k := 32) (fc := 352) (r := 145) dX8_isGood_46 ckX8 (by decide) fk_X8_81 rfl rfl (lat hY rfl) (lgg hY rfl) (by decide) ?_
      refine z_iload_n dX8_isGood_49 1 rfl rfl ?_
      have hin3 := h.1
      have h := h.2
      refine z_iald' (n := 6) (x := (A 145 x1.toNatClampNeg)) dX8_isGood_50 (lat hY rfl) (lln hY rfl) hin3 rfl ?_
      refine z_icmp_eq (tgt := 57) dX8_isGood_51 (by decide) (fun hb => ?_) (fun hb => ?_)
      · have h := h.1 hb
        refine z_iload_n dX8_isGood_57 3 rfl rfl ?_
        refine z_iload_n dX8_isGood_58 1 rfl rfl ?_
        refine z_icmp_eq (tgt := 80) dX8_isGood_59 (by decide) (fun hb => ?_) (fun hb => ?_)
        · have h := h.1 hb
          exact z_pick [0, 1, 2, 3] rfl (h T G B hY)
        · have h := h.2 hb
          refine z_aload_n dX8_isGood_62 0 rfl rfl ?_
          refine z_getr (k := 31) (fc := 351) (r := 144) dX8_isGood_63 ckX8 (by decide) fk_X8_78 rfl rfl (lat hY rfl) (lgg hY rfl) (by decide) ?_
          refine z_iload_n dX8_isGood_66 1 rfl rfl ?_
          have hin4 := h.1
          have h := h.2
          refine z_iald' (n := 6) (x := (A 144 x1.toNatClampNeg)) dX8_isGood_67 (lat hY rfl) (lln hY rfl) hin4 rfl ?_
          refine z_aload_n dX8_isGood_68 0 rfl rfl ?_
          refine z_getr (k := 31) (fc := 351) (r := 144) dX8_isGood_69 ckX8 (by decide) fk_X8_78 rfl rfl (lat hY rfl) (lgg hY rfl) (by decide) ?_
          refine z_iload_n dX8_isGood_72 3 rfl rfl ?_
          have hin5 := h.1
          have h := h.2
          refine z_iald' (n := 6) (x := (A 144 x3.toNatClampNeg)) dX8_isGood_73 (lat hY rfl) (lln hY rfl) hin5 rfl ?_
          refine z_iand dX8_isGood_74 ?_
          refine z_if_eq (tgt := 80) dX8_isGood_75 (by decide) (fun hb => ?_) (fun hb => ?_)
          · have h := h.1 hb
            exact z_pick [0, 1, 2, 3] rfl (h T G B hY)
          · have h := h.2 hb
            refine z_iconst (v := 0) dX8_isGood_78 rfl ?_
            exact z_zretM dX8_isGood_79 rfl (by decide) h
      · have h := h.2 hb
        refine z_goto (tgt := 83) dX8_isGood_54 (by decide) ?_
        exact z_pick [0, 1, 2, 3] rfl (h T G B hY)
set_option maxHeartbeats 4000000 in
set_option maxRecDepth 100000 in
theorem vX8_isGood_99 {l : Launch} {w : Nat → Nat} {nb : Nat} {Q : PM} {x1 : Int32} {F A : MI}  (h : ZM l mX8_isGood 1 w nb Q 2 [(0, .ref 122), (1, .int (x1 + 1))] [] F A) : ZM l mX8_isGood 1 w nb Q 99 [(0, .ref 122), (1, .int x1)] [] F A := by
  intro T G B hY
  refine z_iinc (v := (x1 + 1)) (lv' := [(0, .ref 122), (1, .int (x1 + 1))]) dX8_isGood_99 1 rfl rfl (by decide) rfl ?_
  refine z_goto (tgt := 2) dX8_isGood_102 (by decide) ?_
  exact z_pick [0, 1] rfl (h T G B hY)
set_option maxHeartbeats 4000000 in
set_option maxRecDepth 100000 in
theorem vX8_isGood_83 {l : Launch} {w : Nat → Nat} {nb : Nat} {Q : PM} {x1 x2 x3 : Int32} {F A : MI}  (h : ZM l mX8_isGood 1 w nb Q 24 [(0, .ref 122), (1, .int x1), (2, .int x2), (3, .int (x3 + 1))] [] F A) : ZM l mX8_isGood 1 w nb Q 83 [(0, .ref 122), (1, .int x1), (2, .int x2), (3, .int x3)] [] F A := by
  intro T G B hY
  refine z_iinc (v := (x3 + 1)) (lv' := [(0, .ref 122), (1, .int x1), (2, .int x2), (3, .int (x3 + 1))]) dX8_isGood_83 3 rfl rfl (by decide) rfl ?_
  refine z_goto (tgt := 24) dX8_isGood_86 (by decide) ?_
  exact z_pick [0, 1, 2, 3] rfl (h T G B hY)
set_option maxHeartbeats 4000000 in
set_option maxRecDepth 100000 in
theorem vX8_isGood_80 {l : Launch} {w : Nat → Nat} {nb : Nat} {Q : PM} {x1 x2 x3 : Int32} {F A : MI}  (h : ZM l mX8_isGood 1 w nb Q 83 [(0, .ref 122), (1, .int x1), (2, .int (x2 + 1)), (3, .int x3)] [] F A) : ZM l mX8_isGood 1 w nb Q 80 [(0, .ref 122), (1, .int x1), (2, .int x2), (3, .int x3)] [] F A := by
  intro T G B hY
  refine z_iinc (v := (x2 + 1)) (lv' := [(0, .ref 122), (1, .int x1), (2, .int (x2 + 1)), (3, .int x3)]) dX8_isGood_80 2 rfl rfl (by decide) rfl ?_
  exact z_pick [0, 1, 2, 3] rfl (h T G B hY)
set_option maxHeartbeats 4000000 in
set_option maxRecDepth 100000 in
theorem vX8_isMore_0 {l : Launch} {w : Nat → Nat} {nb : Nat} {Q : PM} {x1 x2 : Int32} {F A : MI}  (h : (vp_in ((8 * x1) + x2) 64 ∧ (vp_in ((8 * x2) + x1) 64 ∧ (((A 141 ((8 * x1) + x2).toNatClampNeg) ≤ (A 141 ((8 * x2) + x1).toNatClampNeg) → Q (some (.int 0)) F A) ∧ (¬ (A 141 ((8 * x1) + x2).toNatClampNeg) ≤ (A 141 ((8 * x2) + x1).toNatClampNeg) → Q (some (.int 1)) F A))))) : ZM l mX8_isMore 1 w nb Q 0 [(0, .ref 122), (1, .int x1), (2, .int x2)] [] F A := by
  intro T G B hY
  refine z_aload_n dX8_isMore_0 0 rfl rfl ?_
  refine z_getr (k := 27) (fc := 347) (r := 141) dX8_isMore_1 ckX8 (by decide) fk_X8_69 rfl rfl (lat hY rfl) (lgg hY rfl) (by decide) ?_
  refine z_bipush (v := 8) dX8_isMore_4 rfl ?_
  refine z_iload_n dX8_isMore_6 1 rfl rfl ?_
  refine z_imul dX8_isMore_7 ?_
  refine z_iload_n dX8_isMore_8 2 rfl rfl ?_
  refine z_iadd dX8_isMore_9 ?_
  have hin1 := h.1
  have h := h.2
  refine z_iald' (n := 64) (x := (A 141 ((8 * x1) + x2).toNatClampNeg)) dX8_isMore_10 (lat hY rfl) (lln hY rfl) hin1 rfl ?_
  refine z_aload_n dX8_isMore_11 0 rfl rfl ?_
  refine z_getr (k := 27) (fc := 347) (r := 141) dX8_isMore_12 ckX8 (by decide) fk_X8_69 rfl rfl (lat hY rfl) (lgg hY rfl) (by decide) ?_
  refine z_bipush (v := 8) dX8_isMore_15 rfl ?_
  refine z_iload_n dX8_isMore_17 2 rfl rfl ?_
  refine z_imul dX8_isMore_18 ?_
  refine z_iload_n dX8_isMore_19 1 rfl rfl ?_
  refine z_iadd dX8_isMore_20 ?_
  have hin2 := h.1
  have h := h.2
  refine z_iald' (n := 64) (x := (A 141 ((8 * x2) + x1).toNatClampNeg)) dX8_isMore_21 (lat hY rfl) (lln hY rfl) hin2 rfl ?_
  refine z_icmp_le (tgt := 29) dX8_isMore_22 (by decide) (fun hb => ?_) (fun hb => ?_)
  · have h := h.1 hb
    refine z_iconst (v := 0) dX8_isMore_29 rfl ?_
    exact z_zretM dX8_isMore_30 rfl (by decide) h
  · have h := h.2 hb
    refine z_iconst (v := 1) dX8_isMore_25 rfl ?_
    refine z_goto (tgt := 30) dX8_isMore_26 (by decide) ?_
    exact z_zretM dX8_isMore_30 rfl (by decide) h
theorem kX8_isMore {l : Launch} {w : Nat → Nat} {nb : Nat} {Q : PM} {x1 x2 : Int32} {F A : MI}  (h : (vp_in ((8 * x1) + x2) 64 ∧ (vp_in ((8 * x2) + x1) 64 ∧ (((A 141 ((8 * x1) + x2).toNatClampNeg) ≤ (A 141 ((8 * x2) + x1).toNatClampNeg) → Q (some (.int 0)) F A) ∧ (¬ (A 141 ((8 * x1) + x2).toNatClampNeg) ≤ (A 141 ((8 * x2) + x1).toNatClampNeg) → Q (some (.int 1)) F A))))) : CM l mX8_isMore 1 w nb [.ref 122, .int x1, .int x2] F A Q := CM.ofZ (by decide) (fun _ _ => rfl) (fun _ _ => Nat.le_of_ble_eq_true rfl) (vX8_isMore_0  h)
set_option maxHeartbeats 4000000 in
set_option maxRecDepth 100000 in
theorem vX8_isNext_0 {l : Launch} {w : Nat → Nat} {nb : Nat} {Q : PM} {x1 : Int32} {F A : MI}  (h : ZM l mX8_isNext 1 w nb Q 2 [(0, .ref 122), (1, .int x1), (2, .int 5)] [] F A) : ZM l mX8_isNext 1 w nb Q 0 [(0, .ref 122), (1, .int x1)] [] F A := by
  intro T G B hY
  refine z_iconst (v := 5) dX8_isNext_0 rfl ?_
  refine z_istore_n (lv' := [(0, .ref 122), (1, .int x1), (2, .int 5)]) dX8_isNext_1 rfl (by decide) rfl ?_
  exact z_pick [0, 1, 2] rfl (h T G B hY)
theorem kX8_isNext {l : Launch} {w : Nat → Nat} {nb : Nat} {Q : PM} {x1 : Int32} {F A : MI}  (h : ZM l mX8_isNext 1 w nb Q 2 [(0, .ref 122), (1, .int x1), (2, .int 5)] [] F A) : CM l mX8_isNext 1 w nb [.ref 122, .int x1] F A Q := CM.ofZ (by decide) (fun _ _ => rfl) (fun _ _ => Nat.le_of_ble_eq_true rfl) (vX8_isNext_0  h)
set_option maxHeartbeats 4000000 in
set_option maxRecDepth 100000 in
theorem vX8_isNext_2 {l : Launch} {w : Nat → Nat} {nb : Nat} {Q : PM} {x1 x2 : Int32} {F A : MI}  (h : ((x2 < 0 → Q (some (.int 0)) F A) ∧ (¬ x2 < 0 → (vp_in x2 6 ∧ ((¬ (A 134 x2.toNatClampNeg) = 0 → (vp_in x2 6 ∧ (vp_in x2 6 ∧ (vp_in x2 6 ∧ ((x1 < ((A 145 x2.toNatClampNeg) + 1) → (vp_in x2 6 ∧ ZM l mX8_isNext 1 w nb Q 47 [(0, .ref 122), (1, .int x1), (2, .int x2)] [] F (u2 (u2 A 145 x2.toNatClampNeg ((A 145 x2.toNatClampNeg) + 1)) 145 x2.toNatClampNeg 0))) ∧ (¬ x1 < ((A 145 x2.toNatClampNeg) + 1) → Q (some (.int 1)) F (u2 A 145 x2.toNatClampNeg ((A 145 x2.toNatClampNeg) + 1)))))))) ∧ ((A 134 x2.toNatClampNeg) = 0 → ZM l mX8_isNext 1 w nb Q 47 [(0, .ref 122), (1, .int x1), (2, .int x2)] [] F A)))))) : ZM l mX8_isNext 1 w nb Q 2 [(0, .ref 122), (1, .int x1), (2, .int x2)] [] F A := by
  intro T G B hY
  refine z_iload_n dX8_isNext_2 2 rfl rfl ?_
  refine z_if_lt (tgt := 53) dX8_isNext_3 (by decide) (fun hb => ?_) (fun hb => ?_)
  · have h := h.1 hb
    refine z_iconst (v := 0) dX8_isNext_53 rfl ?_
    exact z_zretM dX8_isNext_54 rfl (by decide) h
  · have h := h.2 hb
    refine z_aload_n dX8_isNext_6 0 rfl rfl ?_
    refine z_getr (k := 15) (fc := 335) (r := 134) dX8_isNext_7 ckX8 (by decide) fk_X8_48 rfl rfl (lat hY rfl) (lgg hY rfl) (by decide) ?_
    refine z_iload_n dX8_isNext_10 2 rfl rfl ?_
    have hin1 := h.1
    have h := h.2
    refine z_iald' (n := 6) (x := (A 134 x2.toNatClampNeg)) dX8_isNext_11 (lat hY rfl) (lln hY rfl) hin1 rfl ?_
    refine z_if_ne (tgt := 18) dX8_isNext_12 (by decide) (fun hb => ?_) (fun hb => ?_)
    · have h := h.1 hb
      refine z_aload_n dX8_isNext_18 0 rfl rfl ?_
      refine z_getr (k := 32) (fc := 352) (r := 145) dX8_isNext_19 ckX8 (by decide) fk_X8_81 rfl rfl (lat hY rfl) (lgg hY rfl) (by decide) ?_
      refine z_iload_n dX8_isNext_22 2 rfl rfl ?_
      refine z_dup2 dX8_isNext_23 ?_
      have hin2 := h.1
      have h := h.2
      refine z_iald' (n := 6) (x := (A 145 x2.toNatClampNeg)) dX8_isNext_24 (lat hY rfl) (lln hY rfl) hin2 rfl ?_
      refine z_iconst (v := 1) dX8_isNext_25 rfl ?_
      refine z_iadd dX8_isNext_26 ?_
      have hin3 := h.1
      have h := h.2
      refine z_iast' (n := 6) dX8_isNext_27 (lat hY rfl) (lln hY rfl) hin3 ?_
      refine z_aload_n dX8_isNext_28 0 rfl rfl ?_
      refine z_getr (k := 32) (fc := 352) (r := 145) dX8_isNext_29 ckX8 (by decide) fk_X8_81 rfl rfl (lat hY rfl) (lgg hY rfl) (by decide) ?_
      refine z_iload_n dX8_isNext_32 2 rfl rfl ?_
      have hin4 := h.1
      have h := h.2
      refine z_iald' (n := 6) (x := ((A 145 x2.toNatClampNeg) + 1)) dX8_isNext_33 (lat hY rfl) (lln hY rfl) hin4 u2_s ?_
      refine z_iload_n dX8_isNext_34 1 rfl rfl ?_
      refine z_icmp_gt (tgt := 40) dX8_isNext_35 (by decide) (fun hb => ?_) (fun hb => ?_)
      · have h := h.1 hb
        refine z_aload_n dX8_isNext_40 0 rfl rfl ?_
        refine z_getr (k := 32) (fc := 352) (r := 145) dX8_isNext_41 ckX8 (by decide) fk_X8_81 rfl rfl (lat hY rfl) (lgg hY rfl) (by decide) ?_
        refine z_iload_n dX8_isNext_44 2 rfl rfl ?_
        refine z_iconst (v := 0) dX8_isNext_45 rfl ?_
        have hin5 := h.1
        have h := h.2
        refine z_iast' (n := 6) dX8_isNext_46 (lat hY rfl) (lln hY rfl) hin5 ?_
        exact z_pick [0, 1, 2] rfl (h T G B hY)
      · have h := h.2 hb
        refine z_iconst (v := 1) dX8_isNext_38 rfl ?_
        exact z_zretM dX8_isNext_39 rfl (by decide) h
    · have h := h.2 hb
      refine z_goto (tgt := 47) dX8_isNext_15 (by decide) ?_
      exact z_pick [0, 1, 2] rfl (h T G B hY)
set_option maxHeartbeats 4000000 in
set_option maxRecDepth 100000 in
theorem vX8_isNext_47 {l : Launch} {w : Nat → Nat} {nb : Nat} {Q : PM} {x1 x2 : Int32} {F A : MI}  (h : ZM l mX8_isNext 1 w nb Q 2 [(0, .ref 122), (1, .int x1), (2, .int (x2 + (-1)))] [] F A) : ZM l mX8_isNext 1 w nb Q 47 [(0, .ref 122), (1, .int x1), (2, .int x2)] [] F A := by
  intro T G B hY
  refine z_iinc (v := (x2 + (-1))) (lv' := [(0, .ref 122), (1, .int x1), (2, .int (x2 + (-1)))]) dX8_isNext_47 2 rfl rfl (by decide) rfl ?_
  refine z_goto (tgt := 2) dX8_isNext_50 (by decide) ?_
  exact z_pick [0, 1, 2] rfl (h T G B hY)
set_option maxHeartbeats 4000000 in
set_option maxRecDepth 100000 in
theorem vX8_keeps_0 {l : Launch} {w : Nat → Nat} {nb : Nat} {Q : PM} {x1 x2 : Int32} {F A : MI}  (h : (((F 343 122) ≤ 0 → (vp_in (F 332 122) 8 ∧ (vp_in (F 332 122) 8 ∧ Q none (u2 F 332 122 ((F 332 122) + 1)) (u2 (u2 A 132 (F 332 122).toNatClampNeg x1) 133 (F 332 122).toNatClampNeg x2)))) ∧ (¬ (F 343 122) ≤ 0 → Q none F A))) : ZM l mX8_keeps 1 w nb Q 0 [(0, .ref 122), (1, .int x1), (2, .int x2)] [] F A := by
  intro T G B hY
  refine z_aload_n dX8_keeps_0 0 rfl rfl ?_
  refine z_geti' (k := 23) (fc := 343) (x := (F 343 122)) dX8_keeps_1 ckX8 (by decide) fk_X8_107 rfl rfl (lat hY rfl) rfl ?_
  refine z_if_le (tgt := 8) dX8_keeps_4 (by decide) (fun hb => ?_) (fun hb => ?_)
  · have h := h.1 hb
    refine z_aload_n dX8_keeps_8 0 rfl rfl ?_
    refine z_getr (k := 13) (fc := 333) (r := 132) dX8_keeps_9 ckX8 (by decide) fk_X8_42 rfl rfl (lat hY rfl) (lgg hY rfl) (by decide) ?_
    refine z_aload_n dX8_keeps_12 0 rfl rfl ?_
    refine z_geti' (k := 12) (fc := 332) (x := (F 332 122)) dX8_keeps_13 ckX8 (by decide) fk_X8_125 rfl rfl (lat hY rfl) rfl ?_
    refine z_iload_n dX8_keeps_16 1 rfl rfl ?_
    have hin1 := h.1
    have h := h.2
    refine z_iast' (n := 8) dX8_keeps_17 (lat hY rfl) (lln hY rfl) hin1 ?_
    refine z_aload_n dX8_keeps_18 0 rfl rfl ?_
    refine z_getr (k := 14) (fc := 334) (r := 133) dX8_keeps_19 ckX8 (by decide) fk_X8_45 rfl rfl (lat hY rfl) (lgg hY rfl) (by decide) ?_
    refine z_aload_n dX8_keeps_22 0 rfl rfl ?_
    refine z_geti' (k := 12) (fc := 332) (x := (F 332 122)) dX8_keeps_23 ckX8 (by decide) fk_X8_125 rfl rfl (lat hY rfl) rfl ?_
    refine z_iload_n dX8_keeps_26 2 rfl rfl ?_
    have hin2 := h.1
    have h := h.2
    refine z_iast' (n := 8) dX8_keeps_27 (lat hY rfl) (lln hY rfl) hin2 ?_
    refine z_aload_n dX8_keeps_28 0 rfl rfl ?_
    refine z_dup dX8_keeps_29 ?_
    refine z_geti' (k := 12) (fc := 332) (x := (F 332 122)) dX8_keeps_30 ckX8 (by decide) fk_X8_125 rfl rfl (lat hY rfl) rfl ?_
    refine z_iconst (v := 1) dX8_keeps_33 rfl ?_
    refine z_iadd dX8_keeps_34 ?_
    refine z_puti (k := 12) (fc := 332) dX8_keeps_35 ckX8 (by decide) fk_X8_125 rfl rfl rfl (lat hY rfl) ?_
    exact z_vretM dX8_keeps_38 rfl h
  · have h := h.2 hb
    exact z_vretM dX8_keeps_7 rfl h
theorem kX8_keeps {l : Launch} {w : Nat → Nat} {nb : Nat} {Q : PM} {x1 x2 : Int32} {F A : MI}  (h : (((F 343 122) ≤ 0 → (vp_in (F 332 122) 8 ∧ (vp_in (F 332 122) 8 ∧ Q none (u2 F 332 122 ((F 332 122) + 1)) (u2 (u2 A 132 (F 332 122).toNatClampNeg x1) 133 (F 332 122).toNatClampNeg x2)))) ∧ (¬ (F 343 122) ≤ 0 → Q none F A))) : CM l mX8_keeps 1 w nb [.ref 122, .int x1, .int x2] F A Q := CM.ofZ (by decide) (fun _ _ => rfl) (fun _ _ => Nat.le_of_ble_eq_true rfl) (vX8_keeps_0  h)
set_option maxHeartbeats 4000000 in
set_option maxRecDepth 100000 in
theorem vX8_lies_0 {l : Launch} {w : Nat → Nat} {nb : Nat} {Q : PM} {x0 x1 x2 : Int32} {F A : MI}  (h : ((x0 < x1 → Q (some (.int 0)) F A) ∧ (¬ x0 < x1 → ((x2 < x0 → Q (some (.int 0)) F A) ∧ (¬ x2 < x0 → Q (some (.int 1)) F A))))) : ZM l mX8_lies 1 w nb Q 0 [(0, .int x0), (1, .int x1), (2, .int x2)] [] F A := by
  intro T G B hY
  refine z_iload_n dX8_lies_0 0 rfl rfl ?_
  refine z_iload_n dX8_lies_1 1 rfl rfl ?_
  refine z_icmp_lt (tgt := 14) dX8_lies_2 (by decide) (fun hb => ?_) (fun hb => ?_)
  · have h := h.1 hb
    refine z_iconst (v := 0) dX8_lies_14 rfl ?_
    exact z_zretM dX8_lies_15 rfl (by decide) h
  · have h := h.2 hb
    refine z_iload_n dX8_lies_5 0 rfl rfl ?_
    refine z_iload_n dX8_lies_6 2 rfl rfl ?_
    refine z_icmp_gt (tgt := 14) dX8_lies_7 (by decide) (fun hb => ?_) (fun hb => ?_)
    · have h := h.1 hb
      refine z_iconst (v := 0) dX8_lies_14 rfl ?_
      exact z_zretM dX8_lies_15 rfl (by decide) h
    · have h := h.2 hb
      refine z_iconst (v := 1) dX8_lies_10 rfl ?_
      refine z_goto (tgt := 15) dX8_lies_11 (by decide) ?_
      exact z_zretM dX8_lies_15 rfl (by decide) h
theorem kX8_lies {l : Launch} {w : Nat → Nat} {nb : Nat} {Q : PM} {x0 x1 x2 : Int32} {F A : MI}  (h : ((x0 < x1 → Q (some (.int 0)) F A) ∧ (¬ x0 < x1 → ((x2 < x0 → Q (some (.int 0)) F A) ∧ (¬ x2 < x0 → Q (some (.int 1)) F A))))) : CM l mX8_lies 1 w nb [.int x0, .int x1, .int x2] F A Q := CM.ofZ (by decide) (fun _ _ => rfl) (fun _ _ => Nat.le_of_ble_eq_true rfl) (vX8_lies_0  h)
set_option maxHeartbeats 4000000 in
set_option maxRecDepth 100000 in
theorem vX8_placeIn_0 {l : Launch} {w : Nat → Nat} {nb : Nat} {Q : PM} {x1 x2 x3 : Int32} {F A : MI}  (h : ZM l mX8_placeIn 1 w nb Q 3 [(0, .ref 122), (1, .int x1), (2, .int x2), (3, .int x3), (4, .int 0)] [] F A) : ZM l mX8_placeIn 1 w nb Q 0 [(0, .ref 122), (1, .int x1), (2, .int x2), (3, .int x3)] [] F A := by
  intro T G B hY
  refine z_iconst (v := 0) dX8_placeIn_0 rfl ?_
  refine z_istore (lv' := [(0, .ref 122), (1, .int x1), (2, .int x2), (3, .int x3), (4, .int 0)]) dX8_placeIn_1 (by decide) rfl ?_
  exact z_pick [0, 1, 2, 3, 4] rfl (h T G B hY)
theorem kX8_placeIn {l : Launch} {w : Nat → Nat} {nb : Nat} {Q : PM} {x1 x2 x3 : Int32} {F A : MI}  (h : ZM l mX8_placeIn 1 w nb Q 3 [(0, .ref 122), (1, .int x1), (2, .int x2), (3, .int x3), (4, .int 0)] [] F A) : CM l mX8_placeIn 1 w nb [.ref 122, .int x1, .int x2, .int x3] F A Q := CM.ofZ (by decide) (fun _ _ => rfl) (fun _ _ => Nat.le_of_ble_eq_true rfl) (vX8_placeIn_0  h)
set_option maxHeartbeats 4000000 in
set_option maxRecDepth 100000 in
theorem vX8_placeIn_3 {l : Launch} {w : Nat → Nat} {nb : Nat} {Q : PM} {x1 x2 x3 x4 : Int32} {F A : MI}  (h : (vp_in ((8 * ((6 * x1) + x2)) + x4) 288 ∧ (((A 138 ((8 * ((6 * x1) + x2)) + x4).toNatClampNeg) = x3 → Q (some (.int x4)) F A) ∧ (¬ (A 138 ((8 * ((6 * x1) + x2)) + x4).toNatClampNeg) = x3 → ZM l mX8_placeIn 1 w nb Q 3 [(0, .ref 122), (1, .int x1), (2, .int x2), (3, .int x3), (4, .int (x4 + 1))] [] F A)))) : ZM l mX8_placeIn 1 w nb Q 3 [(0, .ref 122), (1, .int x1), (2, .int x2), (3, .int x3), (4, .int x4)] [] F A := by
  intro T G B hY
  refine z_aload_n dX8_placeIn_3 0 rfl rfl ?_
  refine z_getr (k := 19) (fc := 339) (r := 138) dX8_placeIn_4 ckX8 (by decide) fk_X8_60 rfl rfl (lat hY rfl) (lgg hY rfl) (by decide) ?_
  refine z_bipush (v := 8) dX8_placeIn_7 rfl ?_
  refine z_bipush (v := 6) dX8_placeIn_9 rfl ?_
  refine z_iload_n dX8_placeIn_11 1 rfl rfl ?_
  refine z_imul dX8_placeIn_12 ?_
  refine z_iload_n dX8_placeIn_13 2 rfl rfl ?_
  refine z_iadd dX8_placeIn_14 ?_
  refine z_imul dX8_placeIn_15 ?_
  refine z_iload dX8_placeIn_16 4 rfl ?_
  refine z_iadd dX8_placeIn_18 ?_
  have hin1 := h.1
  have h := h.2
  refine z_iald' (n := 288) (x := (A 138 ((8 * ((6 * x1) + x2)) + x4).toNatClampNeg)) dX8_placeIn_19 (lat hY rfl) (lln hY rfl) hin1 rfl ?_
  refine z_iload_n dX8_placeIn_20 3 rfl rfl ?_
  refine z_icmp_eq (tgt := 30) dX8_placeIn_21 (by decide) (fun hb => ?_) (fun hb => ?_)
  · have h := h.1 hb
    refine z_iload dX8_placeIn_30 4 rfl ?_
    exact z_iretM dX8_placeIn_32 rfl h
  · have h := h.2 hb
    refine z_iinc (v := (x4 + 1)) (lv' := [(0, .ref 122), (1, .int x1), (2, .int x2), (3, .int x3), (4, .int (x4 + 1))]) dX8_placeIn_24 4 rfl rfl (by decide) rfl ?_
    refine z_goto (tgt := 3) dX8_placeIn_27 (by decide) ?_
    exact z_pick [0, 1, 2, 3, 4] rfl (h T G B hY)
set_option maxHeartbeats 4000000 in
set_option maxRecDepth 100000 in
theorem vX8_placeNow_0 {l : Launch} {w : Nat → Nat} {nb : Nat} {Q : PM} {x1 : Int32} {F A : MI}  (h : ZM l mX8_placeNow 1 w nb Q 2 [(0, .ref 122), (1, .int x1), (2, .int 0)] [] F A) : ZM l mX8_placeNow 1 w nb Q 0 [(0, .ref 122), (1, .int x1)] [] F A := by
  intro T G B hY
  refine z_iconst (v := 0) dX8_placeNow_0 rfl ?_
  refine z_istore_n (lv' := [(0, .ref 122), (1, .int x1), (2, .int 0)]) dX8_placeNow_1 rfl (by decide) rfl ?_
  exact z_pick [0, 1, 2] rfl (h T G B hY)
theorem kX8_placeNow {l : Launch} {w : Nat → Nat} {nb : Nat} {Q : PM} {x1 : Int32} {F A : MI}  (h : ZM l mX8_placeNow 1 w nb Q 2 [(0, .ref 122), (1, .int x1), (2, .int 0)] [] F A) : CM l mX8_placeNow 1 w nb [.ref 122, .int x1] F A Q := CM.ofZ (by decide) (fun _ _ => rfl) (fun _ _ => Nat.le_of_ble_eq_true rfl) (vX8_placeNow_0  h)
set_option maxHeartbeats 4000000 in
set_option maxRecDepth 100000 in
theorem vX8_placeNow_2 {l : Launch} {w : Nat → Nat} {nb : Nat} {Q : PM} {x1 x2 : Int32} {F A : MI}  (h : (((F 345 122) ≤ x2 → Q (some (.int (-1))) F A) ∧ (¬ (F 345 122) ≤ x2 → (vp_in x2 8 ∧ ((¬ (A 143 x2.toNatClampNeg) = x1 → ZM l mX8_placeNow 1 w nb Q 2 [(0, .ref 122), (1, .int x1), (2, .int (x2 + 1))] [] F A) ∧ ((A 143 x2.toNatClampNeg) = x1 → Q (some (.int (x2 + 1))) F A)))))) : ZM l mX8_placeNow 1 w nb Q 2 [(0, .ref 122), (1, .int x1), (2, .int x2)] [] F A := by
  intro T G B hY
  refine z_iload_n dX8_placeNow_2 2 rfl rfl ?_
  refine z_aload_n dX8_placeNow_3 0 rfl rfl ?_
  refine z_geti' (k := 25) (fc := 345) (x := (F 345 122)) dX8_placeNow_4 ckX8 (by decide) fk_X8_176 rfl rfl (lat hY rfl) rfl ?_
  refine z_icmp_ge (tgt := 30) dX8_placeNow_7 (by decide) (fun hb => ?_) (fun hb => ?_)
  · have h := h.1 hb
    refine z_iconst (v := (-1)) dX8_placeNow_30 rfl ?_
    exact z_iretM dX8_placeNow_31 rfl h
  · have h := h.2 hb
    refine z_aload_n dX8_placeNow_10 0 rfl rfl ?_
    refine z_getr (k := 29) (fc := 349) (r := 143) dX8_placeNow_11 ckX8 (by decide) fk_X8_75 rfl rfl (lat hY rfl) (lgg hY rfl) (by decide) ?_
    refine z_iload_n dX8_placeNow_14 2 rfl rfl ?_
    have hin1 := h.1
    have h := h.2
    refine z_iald' (n := 8) (x := (A 143 x2.toNatClampNeg)) dX8_placeNow_15 (lat hY rfl) (lln hY rfl) hin1 rfl ?_
    refine z_iload_n dX8_placeNow_16 1 rfl rfl ?_
    refine z_icmp_ne (tgt := 24) dX8_placeNow_17 (by decide) (fun hb => ?_) (fun hb => ?_)
    · have h := h.1 hb
      refine z_iinc (v := (x2 + 1)) (lv' := [(0, .ref 122), (1, .int x1), (2, .int (x2 + 1))]) dX8_placeNow_24 2 rfl rfl (by decide) rfl ?_
      refine z_goto (tgt := 2) dX8_placeNow_27 (by decide) ?_
      exact z_pick [0, 1, 2] rfl (h T G B hY)
    · have h := h.2 hb
      refine z_iload_n dX8_placeNow_20 2 rfl rfl ?_
      refine z_iconst (v := 1) dX8_placeNow_21 rfl ?_
      refine z_iadd dX8_placeNow_22 ?_
      exact z_iretM dX8_placeNow_23 rfl h
set_option maxHeartbeats 4000000 in
set_option maxRecDepth 100000 in
theorem vX8_push_0 {l : Launch} {w : Nat → Nat} {nb : Nat} {Q : PM} {x1 : Int32} {F A : MI}  (h : ZM l mX8_push 1 w nb Q 3 [(0, .ref 122), (1, .int x1), (2, .int 24)] [] F A) : ZM l mX8_push 1 w nb Q 0 [(0, .ref 122), (1, .int x1)] [] F A := by
  intro T G B hY
  refine z_bipush (v := 24) dX8_push_0 rfl ?_
  refine z_istore_n (lv' := [(0, .ref 122), (1, .int x1), (2, .int 24)]) dX8_push_2 rfl (by decide) rfl ?_
  exact z_pick [0, 1, 2] rfl (h T G B hY)
theorem kX8_push {l : Launch} {w : Nat → Nat} {nb : Nat} {Q : PM} {x1 : Int32} {F A : MI}  (h : ZM l mX8_push 1 w nb Q 3 [(0, .ref 122), (1, .int x1), (2, .int 24)] [] F A) : CM l mX8_push 1 w nb [.ref 122, .int x1] F A Q := CM.ofZ (by decide) (fun _ _ => rfl) (fun _ _ => Nat.le_of_ble_eq_true rfl) (vX8_push_0  h)
set_option maxHeartbeats 4000000 in
set_option maxRecDepth 100000 in
theorem vX8_push_3 {l : Launch} {w : Nat → Nat} {nb : Nat} {Q : PM} {x1 x2 : Int32} {F A : MI}  (h : ((x2 < 0 → Q none F A) ∧ (¬ x2 < 0 → (vp_in (F 321 122) 80 ∧ ZM l mX8_push 1 w nb Q 3 [(0, .ref 122), (1, .int x1), (2, .int (x2 + (-8)))] [] (u2 F 321 122 ((F 321 122) + 1)) (u2 A 123 (F 321 122).toNatClampNeg (((x1 >>> (x2 &&& 31)).toInt8.toInt32).toInt8.toInt32)))))) : ZM l mX8_push 1 w nb Q 3 [(0, .ref 122), (1, .int x1), (2, .int x2)] [] F A := by
  intro T G B hY
  refine z_iload_n dX8_push_3 2 rfl rfl ?_
  refine z_if_lt (tgt := 36) dX8_push_4 (by decide) (fun hb => ?_) (fun hb => ?_)
  · have h := h.1 hb
    exact z_vretM dX8_push_36 rfl h
  · have h := h.2 hb
    refine z_aload_n dX8_push_7 0 rfl rfl ?_
    refine z_getr (k := 0) (fc := 320) (r := 123) dX8_push_8 ckX8 (by decide) fk_X8_7 rfl rfl (lat hY rfl) (lgg hY rfl) (by decide) ?_
    refine z_aload_n dX8_push_11 0 rfl rfl ?_
    refine z_geti' (k := 1) (fc := 321) (x := (F 321 122)) dX8_push_12 ckX8 (by decide) fk_X8_94 rfl rfl (lat hY rfl) rfl ?_
    refine z_iload_n dX8_push_15 1 rfl rfl ?_
    refine z_iload_n dX8_push_16 2 rfl rfl ?_
    refine z_ishr dX8_push_17 ?_
    refine z_i2b dX8_push_18 ?_
    have hin1 := h.1
    have h := h.2
    refine z_bast' (n := 80) dX8_push_19 (lat hY rfl) (lln hY rfl) hin1 ?_
    refine z_aload_n dX8_push_20 0 rfl rfl ?_
    refine z_dup dX8_push_21 ?_
    refine z_geti' (k := 1) (fc := 321) (x := (F 321 122)) dX8_push_22 ckX8 (by decide) fk_X8_94 rfl rfl (lat hY rfl) rfl ?_
    refine z_iconst (v := 1) dX8_push_25 rfl ?_
    refine z_iadd dX8_push_26 ?_
    refine z_puti (k := 1) (fc := 321) dX8_push_27 ckX8 (by decide) fk_X8_94 rfl rfl rfl (lat hY rfl) ?_
    refine z_iinc (v := (x2 + (-8))) (lv' := [(0, .ref 122), (1, .int x1), (2, .int (x2 + (-8)))]) dX8_push_30 2 rfl rfl (by decide) rfl ?_
    refine z_goto (tgt := 3) dX8_push_33 (by decide) ?_
    exact z_pick [0, 1, 2] rfl (h T G B hY)
set_option maxHeartbeats 4000000 in
set_option maxRecDepth 100000 in
theorem vX8_sizeOf_0 {l : Launch} {w : Nat → Nat} {nb : Nat} {Q : PM} {x0 : Int32} {F A : MI}  (h : ZM l mX8_sizeOf 1 w nb Q 4 [(1, .int 0), (2, .int x0)] [] F A) : ZM l mX8_sizeOf 1 w nb Q 0 [(0, .int x0)] [] F A := by
  intro T G B hY
  refine z_iconst (v := 0) dX8_sizeOf_0 rfl ?_
  refine z_istore_n (lv' := [(0, .int x0), (1, .int 0)]) dX8_sizeOf_1 rfl (by decide) rfl ?_
  refine z_iload_n dX8_sizeOf_2 0 rfl rfl ?_
  refine z_istore_n (lv' := [(0, .int x0), (1, .int 0), (2, .int x0)]) dX8_sizeOf_3 rfl (by decide) rfl ?_
  exact z_pick [1, 2] rfl (h T G B hY)
theorem kX8_sizeOf {l : Launch} {w : Nat → Nat} {nb : Nat} {Q : PM} {x0 : Int32} {F A : MI}  (h : ZM l mX8_sizeOf 1 w nb Q 4 [(1, .int 0), (2, .int x0)] [] F A) : CM l mX8_sizeOf 1 w nb [.int x0] F A Q := CM.ofZ (by decide) (fun _ _ => rfl) (fun _ _ => Nat.le_of_ble_eq_true rfl) (vX8_sizeOf_0  h)
set_option maxHeartbeats 4000000 in
set_option maxRecDepth 100000 in
theorem vX8_sizeOf_4 {l : Launch} {w : Nat → Nat} {nb : Nat} {Q : PM} {x1 x2 : Int32} {F A : MI}  (h : ((x2 = 0 → Q (some (.int x1)) F A) ∧ (¬ x2 = 0 → ZM l mX8_sizeOf 1 w nb Q 4 [(1, .int (x1 + 1)), (2, .int (x2 &&& (x2 - 1)))] [] F A))) : ZM l mX8_sizeOf 1 w nb Q 4 [(1, .int x1), (2, .int x2)] [] F A := by
  intro T G B hY
  refine z_iload_n dX8_sizeOf_4 1 rfl rfl ?_
  refine z_if_eq (tgt := 20) dX8_sizeOf_5 (by decide) (fun hb => ?_) (fun hb => ?_)
  · have h := h.1 hb
    refine z_iload_n dX8_sizeOf_20 0 rfl rfl ?_
    exact z_iretM dX8_sizeOf_21 rfl h
  · have h := h.2 hb
    refine z_iinc (v := (x1 + 1)) (lv' := [(1, .int (x1 + 1)), (2, .int x2)]) dX8_sizeOf_8 0 rfl rfl (by decide) rfl ?_
    refine z_iload_n dX8_sizeOf_11 1 rfl rfl ?_
    refine z_iload_n dX8_sizeOf_12 1 rfl rfl ?_
    refine z_iconst (v := 1) dX8_sizeOf_13 rfl ?_
    refine z_isub dX8_sizeOf_14 ?_
    refine z_iand dX8_sizeOf_15 ?_
    refine z_istore_n (lv' := [(1, .int (x1 + 1)), (2, .int (x2 &&& (x2 - 1)))]) dX8_sizeOf_16 rfl (by decide) rfl ?_
    refine z_goto (tgt := 4) dX8_sizeOf_17 (by decide) ?_
    exact z_pick [0, 1] rfl (h T G B hY)
set_option maxHeartbeats 4000000 in
set_option maxRecDepth 100000 in
theorem vX8_ahead_0 {l : Launch} {w : Nat → Nat} {nb : Nat} {Q : PM} {x1 x2 x3 : Int32} {F A : MI}  (h : ZM l mX8_ahead 2 w nb Q 6 [(0, .ref 122), (1, .int x1), (2, .int x2), (3, .int x3), (4, .int 0), (5, .int 0)] [] F A) : ZM l mX8_ahead 2 w nb Q 0 [(0, .ref 122), (1, .int x1), (2, .int x2), (3, .int x3)] [] F A := by
  intro T G B hY
  refine z_iconst (v := 0) dX8_ahead_0 rfl ?_
  refine z_istore (lv' := [(0, .ref 122), (1, .int x1), (2, .int x2), (3, .int x3), (4, .int 0)]) dX8_ahead_1 (by decide) rfl ?_
  refine z_iconst (v := 0) dX8_ahead_3 rfl ?_
  refine z_istore (lv' := [(0, .ref 122), (1, .int x1), (2, .int x2), (3, .int x3), (4, .int 0), (5, .int 0)]) dX8_ahead_4 (by decide) rfl ?_
  exact z_pick [0, 1, 2, 3, 4, 5] rfl (h T G B hY)
theorem kX8_ahead {l : Launch} {w : Nat → Nat} {nb : Nat} {Q : PM} {x1 x2 x3 : Int32} {F A : MI}  (h : ZM l mX8_ahead 2 w nb Q 6 [(0, .ref 122), (1, .int x1), (2, .int x2), (3, .int x3), (4, .int 0), (5, .int 0)] [] F A) : CM l mX8_ahead 2 w nb [.ref 122, .int x1, .int x2, .int x3] F A Q := CM.ofZ (by decide) (fun _ _ => rfl) (fun _ _ => Nat.le_of_ble_eq_true rfl) (vX8_ahead_0  h)
set_option maxHeartbeats 4000000 in
set_option maxRecDepth 100000 in
theorem vX8_ahead_6 {l : Launch} {w : Nat → Nat} {nb : Nat} {Q : PM} {x1 x2 x3 x4 x5 : Int32} {F A : MI}  (h : ((6 ≤ x5 → Q (some (.int x4)) F A) ∧ (¬ 6 ≤ x5 → CM l mX8_counts 1 w nb [.ref 122, .int x5, .int x1] F A (qi fun r1 F1 A1 => ((r1 = 0 → ZM l mX8_ahead 2 w nb Q 48 [(0, .ref 122), (1, .int x1), (2, .int x2), (3, .int x3), (5, .int x5)] [.int x4] F1 A1) ∧ (¬ r1 = 0 → CM l mX8_placeIn 1 w nb [.ref 122, .int x5, .int x1, .int x2] F1 A1 (qi fun r2 F2 A2 => CM l mX8_placeIn 1 w nb [.ref 122, .int x5, .int x1, .int x3] F2 A2 (qi fun r3 F3 A3 => ((r3 ≤ r2 → ZM l mX8_ahead 2 w nb Q 48 [(0, .ref 122), (1, .int x1), (2, .int x2), (3, .int x3), (5, .int x5)] [.int x4] F3 A3) ∧ (¬ r3 ≤ r2 → ZM l mX8_ahead 2 w nb Q 49 [(0, .ref 122), (1, .int x1), (2, .int x2), (3, .int x3), (5, .int x5)] [.int 1, .int x4] F3 A3)))))))))) : ZM l mX8_ahead 2 w nb Q 6 [(0, .ref 122), (1, .int x1), (2, .int x2), (3, .int x3), (4, .int x4), (5, .int x5)] [] F A := by
  intro T G B hY
  refine z_iload dX8_ahead_6 5 rfl ?_
  refine z_bipush (v := 6) dX8_ahead_8 rfl ?_
  refine z_icmp_ge (tgt := 58) dX8_ahead_10 (by decide) (fun hb => ?_) (fun hb => ?_)
  · have h := h.1 hb
    refine z_iload dX8_ahead_58 4 rfl ?_
    exact z_iretM dX8_ahead_60 rfl h
  · have h := h.2 hb
    refine z_iload dX8_ahead_13 4 rfl ?_
    refine z_aload_n dX8_ahead_15 0 rfl rfl ?_
    refine z_iload dX8_ahead_16 5 rfl ?_
    refine z_iload_n dX8_ahead_18 1 rfl rfl ?_
    refine zm_Vi (As := [.int x5, .int x1]) (rest := [.int x4]) dX8_ahead_19 okX8_counts ioX8_counts mk_X8_169 (ci := 8) rfl (by decide) (lat hY rfl) rfl rfl (Nat.le_of_ble_eq_true rfl) (by decide) hY (CM.monoi h fun r1 F1 A1 h => ?_)
    refine z_if_eq (tgt := 48) dX8_ahead_22 (by decide) (fun hb => ?_) (fun hb => ?_)
    · have h := h.1 hb
      exact z_pick [0, 1, 2, 3, 5] rfl (h T G B hY)
    · have h := h.2 hb
      refine z_aload_n dX8_ahead_25 0 rfl rfl ?_
      refine z_iload dX8_ahead_26 5 rfl ?_
      refine z_iload_n dX8_ahead_28 1 rfl rfl ?_
      refine z_iload_n dX8_ahead_29 2 rfl rfl ?_
      refine zm_Vi (As := [.int x5, .int x1, .int x2]) (rest := [.int x4]) dX8_ahead_30 okX8_placeIn ioX8_placeIn mk_X8_172 (ci := 8) rfl (by decide) (lat hY rfl) rfl rfl (Nat.le_of_ble_eq_true rfl) (by decide) hY (CM.monoi h fun r2 F2 A2 h => ?_)
      refine z_aload_n dX8_ahead_33 0 rfl rfl ?_
      refine z_iload dX8_ahead_34 5 rfl ?_
      refine z_iload_n dX8_ahead_36 1 rfl rfl ?_
      refine z_iload_n dX8_ahead_37 3 rfl rfl ?_
      refine zm_Vi (As := [.int x5, .int x1, .int x3]) (rest := [.int r2, .int x4]) dX8_ahead_38 okX8_placeIn ioX8_placeIn mk_X8_172 (ci := 8) rfl (by decide) (lat hY rfl) rfl rfl (Nat.le_of_ble_eq_true rfl) (by decide) hY (CM.monoi h fun r3 F3 A3 h => ?_)
      refine z_icmp_ge (tgt := 48) dX8_ahead_41 (by decide) (fun hb => ?_) (fun hb => ?_)
      · have h := h.1 hb
        exact z_pick [0, 1, 2, 3, 5] rfl (h T G B hY)
      · have h := h.2 hb
        refine z_iconst (v := 1) dX8_ahead_44 rfl ?_
        refine z_goto (tgt := 49) dX8_ahead_45 (by decide) ?_
        exact z_pick [0, 1, 2, 3, 5] rfl (h T G B hY)
set_option maxHeartbeats 4000000 in
set_option maxRecDepth 100000 in
theorem vX8_ahead_48 {l : Launch} {w : Nat → Nat} {nb : Nat} {Q : PM} {x1 x2 x3 x5 s0 : Int32} {F A : MI}  (h : ZM l mX8_ahead 2 w nb Q 49 [(0, .ref 122), (1, .int x1), (2, .int x2), (3, .int x3), (5, .int x5)] [.int 0, .int s0] F A) : ZM l mX8_ahead 2 w nb Q 48 [(0, .ref 122), (1, .int x1), (2, .int x2), (3, .int x3), (5, .int x5)] [.int s0] F A := by
  intro T G B hY
  refine z_iconst (v := 0) dX8_ahead_48 rfl ?_
  exact z_pick [0, 1, 2, 3, 4] rfl (h T G B hY)
set_option maxHeartbeats 4000000 in
set_option maxRecDepth 100000 in
theorem vX8_ahead_49 {l : Launch} {w : Nat → Nat} {nb : Nat} {Q : PM} {x1 x2 x3 x5 s0 s1 : Int32} {F A : MI}  (h : ZM l mX8_ahead 2 w nb Q 6 [(0, .ref 122), (1, .int x1), (2, .int x2), (3, .int x3), (4, .int (s1 + s0)), (5, .int (x5 + 1))] [] F A) : ZM l mX8_ahead 2 w nb Q 49 [(0, .ref 122), (1, .int x1), (2, .int x2), (3, .int x3), (5, .int x5)] [.int s0, .int s1] F A := by
  intro T G B hY
  refine z_iadd dX8_ahead_49 ?_
  refine z_istore (lv' := [(0, .ref 122), (1, .int x1), (2, .int x2), (3, .int x3), (4, .int (s1 + s0)), (5, .int x5)]) dX8_ahead_50 (by decide) rfl ?_
  refine z_iinc (v := (x5 + 1)) (lv' := [(0, .ref 122), (1, .int x1), (2, .int x2), (3, .int x3), (4, .int (s1 + s0)), (5, .int (x5 + 1))]) dX8_ahead_52 5 rfl rfl (by decide) rfl ?_
  refine z_goto (tgt := 6) dX8_ahead_55 (by decide) ?_
  exact z_pick [0, 1, 2, 3, 4, 5] rfl (h T G B hY)
set_option maxHeartbeats 4000000 in
set_option maxRecDepth 100000 in
theorem vX8_beast_0 {l : Launch} {w : Nat → Nat} {nb : Nat} {Q : PM} {x1 x2 x3 x4 : Int32} {F A : MI}  (h : CM l mX8_lies 1 w nb [.int x1, .int 0, .int 3] F A (qi fun r1 F1 A1 => ((r1 = 0 → Q (some (.int (-1))) F1 A1) ∧ (¬ r1 = 0 → CM l mX8_lies 1 w nb [.int x2, .int 0, .int 200] F1 A1 (qi fun r2 F2 A2 => ((r2 = 0 → Q (some (.int (-1))) F2 A2) ∧ (¬ r2 = 0 → CM l mX8_lies 1 w nb [.int x3, .int 0, .int 9] F2 A2 (qi fun r3 F3 A3 => ((r3 = 0 → Q (some (.int (-1))) F3 A3) ∧ (¬ r3 = 0 → CM l mX8_lies 1 w nb [.int x4, .int 0, .int 9] F3 A3 (qi fun r4 F4 A4 => ((r4 = 0 → Q (some (.int (-1))) F4 A4) ∧ (¬ r4 = 0 → ((¬ (F4 322 122) = 20 → (vp_in (F4 322 122) 20 ∧ (vp_in (F4 322 122) 20 ∧ (vp_in (F4 322 122) 20 ∧ (vp_in (F4 322 122) 20 ∧ Q (some (.int (((F4 322 122) + 1) - 1))) (u2 F4 322 122 ((F4 322 122) + 1)) (u2 (u2 (u2 (u2 A4 124 (F4 322 122).toNatClampNeg x1) 125 (F4 322 122).toNatClampNeg x2) 126 (F4 322 122).toNatClampNeg x3) 127 (F4 322 122).toNatClampNeg x4)))))) ∧ ((F4 322 122) = 20 → Q (some (.int (-1))) F4 A4))))))))))))))) : ZM l mX8_beast 2 w nb Q 0 [(0, .ref 122), (1, .int x1), (2, .int x2), (3, .int x3), (4, .int x4)] [] F A := by
  intro T G B hY
  refine z_iload_n dX8_beast_0 1 rfl rfl ?_
  refine z_iconst (v := 0) dX8_beast_1 rfl ?_
  refine z_iconst (v := 3) dX8_beast_2 rfl ?_
  refine zm_Si (As := [.int x1, .int 0, .int 3]) (rest := []) dX8_beast_3 okX8_lies smX8_lies mk_X8_87 rfl rfl (Nat.le_of_ble_eq_true rfl) (by decide) hY (CM.monoi h fun r1 F1 A1 h => ?_)
  refine z_if_eq (tgt := 50) dX8_beast_6 (by decide) (fun hb => ?_) (fun hb => ?_)
  · have h := h.1 hb
    refine z_iconst (v := (-1)) dX8_beast_50 rfl ?_
    exact z_iretM dX8_beast_51 rfl h
  · have h := h.2 hb
    refine z_iload_n dX8_beast_9 2 rfl rfl ?_
    refine z_iconst (v := 0) dX8_beast_10 rfl ?_
    refine z_sipush (v := 200) dX8_beast_11 rfl ?_
    refine zm_Si (As := [.int x2, .int 0, .int 200]) (rest := []) dX8_beast_14 okX8_lies smX8_lies mk_X8_87 rfl rfl (Nat.le_of_ble_eq_true rfl) (by decide) hY (CM.monoi h fun r2 F2 A2 h => ?_)
    refine z_if_eq (tgt := 50) dX8_beast_17 (by decide) (fun hb => ?_) (fun hb => ?_)
    · have h := h.1 hb
      refine z_iconst (v := (-1)) dX8_beast_50 rfl ?_
      exact z_iretM dX8_beast_51 rfl h
    · have h := h.2 hb
      refine z_iload_n dX8_beast_20 3 rfl rfl ?_
      refine z_iconst (v := 0) dX8_beast_21 rfl ?_
      refine z_bipush (v := 9) dX8_beast_22 rfl ?_
      refine zm_Si (As := [.int x3, .int 0, .int 9]) (rest := []) dX8_beast_24 okX8_lies smX8_lies mk_X8_87 rfl rfl (Nat.le_of_ble_eq_true rfl) (by decide) hY (CM.monoi h fun r3 F3 A3 h => ?_)
      refine z_if_eq (tgt := 50) dX8_beast_27 (by decide) (fun hb => ?_) (fun hb => ?_)
      · have h := h.1 hb
        refine z_iconst (v := (-1)) dX8_beast_50 rfl ?_
        exact z_iretM dX8_beast_51 rfl h
      · have h := h.2 hb
        refine z_iload dX8_beast_30 4 rfl ?_
        refine z_iconst (v := 0) dX8_beast_32 rfl ?_
        refine z_bipush (v := 9) dX8_beast_33 rfl ?_
        refine zm_Si (As := [.int x4, .int 0, .int 9]) (rest := []) dX8_beast_35 okX8_lies smX8_lies mk_X8_87 rfl rfl (Nat.le_of_ble_eq_true rfl) (by decide) hY (CM.monoi h fun r4 F4 A4 h => ?_)
        refine z_if_eq (tgt := 50) dX8_beast_38 (by decide) (fun hb => ?_) (fun hb => ?_)
        · have h := h.1 hb
          refine z_iconst (v := (-1)) dX8_beast_50 rfl ?_
          exact z_iretM dX8_beast_51 rfl h
        · have h := h.2 hb
          refine z_aload_n dX8_beast_41 0 rfl rfl ?_
          refine z_geti' (k := 2) (fc := 322) (x := (F4 322 122)) dX8_beast_42 ckX8 (by decide) fk_X8_91 rfl rfl (lat hY rfl) rfl ?_
          refine z_bipush (v := 20) dX8_beast_45 rfl ?_
          refine z_icmp_ne (tgt := 52) dX8_beast_47 (by decide) (fun hb => ?_) (fun hb => ?_)
          · have h := h.1 hb
            refine z_aload_n dX8_beast_52 0 rfl rfl ?_
            refine z_getr (k := 4) (fc := 324) (r := 124) dX8_beast_53 ckX8 (by decide) fk_X8_17 rfl rfl (lat hY rfl) (lgg hY rfl) (by decide) ?_
            refine z_aload_n dX8_beast_56 0 rfl rfl ?_
            refine z_geti' (k := 2) (fc := 322) (x := (F4 322 122)) dX8_beast_57 ckX8 (by decide) fk_X8_91 rfl rfl (lat hY rfl) rfl ?_
            refine z_iload_n dX8_beast_60 1 rfl rfl ?_
            have hin5 := h.1
            have h := h.2
            refine z_iast' (n := 20) dX8_beast_61 (lat hY rfl) (lln hY rfl) hin5 ?_
            refine z_aload_n dX8_beast_62 0 rfl rfl ?_
            refine z_getr (k := 5) (fc := 325) (r := 125) dX8_beast_63 ckX8 (by decide) fk_X8_21 rfl rfl (lat hY rfl) (lgg hY rfl) (by decide) ?_
            refine z_aload_n dX8_beast_66 0 rfl rfl ?_
            refine z_geti' (k := 2) (fc := 322) (x := (F4 322 122)) dX8_beast_67 ckX8 (by decide) fk_X8_91 rfl rfl (lat hY rfl) rfl ?_
            refine z_iload_n dX8_beast_70 2 rfl rfl ?_
            have hin6 := h.1
            have h := h.2
            refine z_iast' (n := 20) dX8_beast_71 (lat hY rfl) (lln hY rfl) hin6 ?_
            refine z_aload_n dX8_beast_72 0 rfl rfl ?_
            refine z_getr (k := 6) (fc := 326) (r := 126) dX8_beast_73 ckX8 (by decide) fk_X8_24 rfl rfl (lat hY rfl) (lgg hY rfl) (by decide) ?_
            refine z_aload_n dX8_beast_76 0 rfl rfl ?_
            refine z_geti' (k := 2) (fc := 322) (x := (F4 322 122)) dX8_beast_77 ckX8 (by decide) fk_X8_91 rfl rfl (lat hY rfl) rfl ?_
            refine z_iload_n dX8_beast_80 3 rfl rfl ?_
            have hin7 := h.1
            have h := h.2
            refine z_iast' (n := 20) dX8_beast_81 (lat hY rfl) (lln hY rfl) hin7 ?_
            refine z_aload_n dX8_beast_82 0 rfl rfl ?_
            refine z_getr (k := 7) (fc := 327) (r := 127) dX8_beast_83 ckX8 (by decide) fk_X8_27 rfl rfl (lat hY rfl) (lgg hY rfl) (by decide) ?_
            refine z_aload_n dX8_beast_86 0 rfl rfl ?_
            refine z_geti' (k := 2) (fc := 322) (x := (F4 322 122)) dX8_beast_87 ckX8 (by decide) fk_X8_91 rfl rfl (lat hY rfl) rfl ?_
            refine z_iload dX8_beast_90 4 rfl ?_
            have hin8 := h.1
            have h := h.2
            refine z_iast' (n := 20) dX8_beast_92 (lat hY rfl) (lln hY rfl) hin8 ?_
            refine z_aload_n dX8_beast_93 0 rfl rfl ?_
            refine z_dup dX8_beast_94 ?_
            refine z_geti' (k := 2) (fc := 322) (x := (F4 322 122)) dX8_beast_95 ckX8 (by decide) fk_X8_91 rfl rfl (lat hY rfl) rfl ?_
            refine z_iconst (v := 1) dX8_beast_98 rfl ?_
            refine z_iadd dX8_beast_99 ?_
            refine z_puti (k := 2) (fc := 322) dX8_beast_100 ckX8 (by decide) fk_X8_91 rfl rfl rfl (lat hY rfl) ?_
            refine z_aload_n dX8_beast_103 0 rfl rfl ?_
            refine z_geti' (k := 2) (fc := 322) (x := ((F4 322 122) + 1)) dX8_beast_104 ckX8 (by decide) fk_X8_91 rfl rfl (lat hY rfl) u2_s ?_
            refine z_iconst (v := 1) dX8_beast_107 rfl ?_
            refine z_isub dX8_beast_108 ?_
            exact z_iretM dX8_beast_109 rfl h
          · have h := h.2 hb
            refine z_iconst (v := (-1)) dX8_beast_50 rfl ?_
            exact z_iretM dX8_beast_51 rfl h
theorem kX8_beast {l : Launch} {w : Nat → Nat} {nb : Nat} {Q : PM} {x1 x2 x3 x4 : Int32} {F A : MI}  (h : CM l mX8_lies 1 w nb [.int x1, .int 0, .int 3] F A (qi fun r1 F1 A1 => ((r1 = 0 → Q (some (.int (-1))) F1 A1) ∧ (¬ r1 = 0 → CM l mX8_lies 1 w nb [.int x2, .int 0, .int 200] F1 A1 (qi fun r2 F2 A2 => ((r2 = 0 → Q (some (.int (-1))) F2 A2) ∧ (¬ r2 = 0 → CM l mX8_lies 1 w nb [.int x3, .int 0, .int 9] F2 A2 (qi fun r3 F3 A3 => ((r3 = 0 → Q (some (.int (-1))) F3 A3) ∧ (¬ r3 = 0 → CM l mX8_lies 1 w nb [.int x4, .int 0, .int 9] F3 A3 (qi fun r4 F4 A4 => ((r4 = 0 → Q (some (.int (-1))) F4 A4) ∧ (¬ r4 = 0 → ((¬ (F4 322 122) = 20 → (vp_in (F4 322 122) 20 ∧ (vp_in (F4 322 122) 20 ∧ (vp_in (F4 322 122) 20 ∧ (vp_in (F4 322 122) 20 ∧ Q (some (.int (((F4 322 122) + 1) - 1))) (u2 F4 322 122 ((F4 322 122) + 1)) (u2 (u2 (u2 (u2 A4 124 (F4 322 122).toNatClampNeg x1) 125 (F4 322 122).toNatClampNeg x2) 126 (F4 322 122).toNatClampNeg x3) 127 (F4 322 122).toNatClampNeg x4)))))) ∧ ((F4 322 122) = 20 → Q (some (.int (-1))) F4 A4))))))))))))))) : CM l mX8_beast 2 w nb [.ref 122, .int x1, .int x2, .int x3, .int x4] F A Q := CM.ofZ (by decide) (fun _ _ => rfl) (fun _ _ => Nat.le_of_ble_eq_true rfl) (vX8_beast_0  h)
set_option maxHeartbeats 4000000 in
set_option maxRecDepth 100000 in
theorem vX8_cost_0 {l : Launch} {w : Nat → Nat} {nb : Nat} {Q : PM} {x1 x2 : Int32} {F A : MI}  (h : ZM l mX8_cost 2 w nb Q 5 [(0, .ref 122), (1, .int x1), (2, .int x2), (3, .int 0), (4, .int 0)] [] F A) : ZM l mX8_cost 2 w nb Q 0 [(0, .ref 122), (1, .int x1), (2, .int x2)] [] F A := by
  intro T G B hY
  refine z_iconst (v := 0) dX8_cost_0 rfl ?_
  refine z_istore_n (lv' := [(0, .ref 122), (1, .int x1), (2, .int x2), (3, .int 0)]) dX8_cost_1 rfl (by decide) rfl ?_
  refine z_iconst (v := 0) dX8_cost_2 rfl ?_
  refine z_istore (lv' := [(0, .ref 122), (1, .int x1), (2, .int x2), (3, .int 0), (4, .int 0)]) dX8_cost_3 (by decide) rfl ?_
  exact z_pick [0, 1, 2, 3, 4] rfl (h T G B hY)
theorem kX8_cost {l : Launch} {w : Nat → Nat} {nb : Nat} {Q : PM} {x1 x2 : Int32} {F A : MI}  (h : ZM l mX8_cost 2 w nb Q 5 [(0, .ref 122), (1, .int x1), (2, .int x2), (3, .int 0), (4, .int 0)] [] F A) : CM l mX8_cost 2 w nb [.ref 122, .int x1, .int x2] F A Q := CM.ofZ (by decide) (fun _ _ => rfl) (fun _ _ => Nat.le_of_ble_eq_true rfl) (vX8_cost_0  h)
set_option maxHeartbeats 4000000 in
set_option maxRecDepth 100000 in
theorem vX8_cost_5 {l : Launch} {w : Nat → Nat} {nb : Nat} {Q : PM} {x1 x2 x3 x4 : Int32} {F A : MI}  (h : (((F 345 122) ≤ x4 → Q (some (.int x3)) F A) ∧ (¬ (F 345 122) ≤ x4 → ((x4 = x1 → ZM l mX8_cost 2 w nb Q 45 [(0, .ref 122), (1, .int x1), (2, .int x2), (4, .int x4)] [.int x3] F A) ∧ (¬ x4 = x1 → CM l mX8_has 1 w nb [.int x2, .int x4] F A (qi fun r1 F1 A1 => ((r1 = 0 → ZM l mX8_cost 2 w nb Q 45 [(0, .ref 122), (1, .int x1), (2, .int x2), (4, .int x4)] [.int x3] F1 A1) ∧ (¬ r1 = 0 → (vp_in ((8 * x4) + x1) 64 ∧ ZM l mX8_cost 2 w nb Q 46 [(0, .ref 122), (1, .int x1), (2, .int x2), (4, .int x4)] [.int (A1 141 ((8 * x4) + x1).toNatClampNeg), .int x3] F1 A1))))))))) : ZM l mX8_cost 2 w nb Q 5 [(0, .ref 122), (1, .int x1), (2, .int x2), (3, .int x3), (4, .int x4)] [] F A := by
  intro T G B hY
  refine z_iload dX8_cost_5 4 rfl ?_
  refine z_aload_n dX8_cost_7 0 rfl rfl ?_
  refine z_geti' (k := 25) (fc := 345) (x := (F 345 122)) dX8_cost_8 ckX8 (by decide) fk_X8_176 rfl rfl (lat hY rfl) rfl ?_
  refine z_icmp_ge (tgt := 54) dX8_cost_11 (by decide) (fun hb => ?_) (fun hb => ?_)
  · have h := h.1 hb
    refine z_iload_n dX8_cost_54 3 rfl rfl ?_
    exact z_iretM dX8_cost_55 rfl h
  · have h := h.2 hb
    refine z_iload_n dX8_cost_14 3 rfl rfl ?_
    refine z_iload dX8_cost_15 4 rfl ?_
    refine z_iload_n dX8_cost_17 1 rfl rfl ?_
    refine z_icmp_eq (tgt := 45) dX8_cost_18 (by decide) (fun hb => ?_) (fun hb => ?_)
    · have h := h.1 hb
      exact z_pick [0, 1, 2, 4] rfl (h T G B hY)
    · have h := h.2 hb
      refine z_iload_n dX8_cost_21 2 rfl rfl ?_
      refine z_iload dX8_cost_22 4 rfl ?_
      refine zm_Si (As := [.int x2, .int x4]) (rest := [.int x3]) dX8_cost_24 okX8_has smX8_has mk_X8_152 rfl rfl (Nat.le_of_ble_eq_true rfl) (by decide) hY (CM.monoi h fun r1 F1 A1 h => ?_)
      refine z_if_eq (tgt := 45) dX8_cost_27 (by decide) (fun hb => ?_) (fun hb => ?_)
      · have h := h.1 hb
        exact z_pick [0, 1, 2, 4] rfl (h T G B hY)
      · have h := h.2 hb
        refine z_aload_n dX8_cost_30 0 rfl rfl ?_
        refine z_getr (k := 27) (fc := 347) (r := 141) dX8_cost_31 ckX8 (by decide) fk_X8_69 rfl rfl (lat hY rfl) (lgg hY rfl) (by decide) ?_
        refine z_bipush (v := 8) dX8_cost_34 rfl ?_
        refine z_iload dX8_cost_36 4 rfl ?_
        refine z_imul dX8_cost_38 ?_
        refine z_iload_n dX8_cost_39 1 rfl rfl ?_
        refine z_iadd dX8_cost_40 ?_
        have hin2 := h.1
        have h := h.2
        refine z_iald' (n := 64) (x := (A1 141 ((8 * x4) + x1).toNatClampNeg)) dX8_cost_41 (lat hY rfl) (lln hY rfl) hin2 rfl ?_
        refine z_goto (tgt := 46) dX8_cost_42 (by decide) ?_
        exact z_pick [0, 1, 2, 4] rfl (h T G B hY)
set_option maxHeartbeats 4000000 in
set_option maxRecDepth 100000 in
theorem vX8_cost_45 {l : Launch} {w : Nat → Nat} {nb : Nat} {Q : PM} {x1 x2 x4 s0 : Int32} {F A : MI}  (h : ZM l mX8_cost 2 w nb Q 46 [(0, .ref 122), (1, .int x1), (2, .int x2), (4, .int x4)] [.int 0, .int s0] F A) : ZM l mX8_cost 2 w nb Q 45 [(0, .ref 122), (1, .int x1), (2, .int x2), (4, .int x4)] [.int s0] F A := by
  intro T G B hY
  refine z_iconst (v := 0) dX8_cost_45 rfl ?_
  exact z_pick [0, 1, 2, 3] rfl (h T G B hY)
set_option maxHeartbeats 4000000 in
set_option maxRecDepth 100000 in
theorem vX8_cost_46 {l : Launch} {w : Nat → Nat} {nb : Nat} {Q : PM} {x1 x2 x4 s0 s1 : Int32} {F A : MI}  (h : ZM l mX8_cost 2 w nb Q 5 [(0, .ref 122), (1, .int x1), (2, .int x2), (3, .int (s1 + s0)), (4, .int (x4 + 1))] [] F A) : ZM l mX8_cost 2 w nb Q 46 [(0, .ref 122), (1, .int x1), (2, .int x2), (4, .int x4)] [.int s0, .int s1] F A := by
  intro T G B hY
  refine z_iadd dX8_cost_46 ?_
  refine z_istore_n (lv' := [(0, .ref 122), (1, .int x1), (2, .int x2), (3, .int (s1 + s0)), (4, .int x4)]) dX8_cost_47 rfl (by decide) rfl ?_
  refine z_iinc (v := (x4 + 1)) (lv' := [(0, .ref 122), (1, .int x1), (2, .int x2), (3, .int (s1 + s0)), (4, .int (x4 + 1))]) dX8_cost_48 4 rfl rfl (by decide) rfl ?_
  refine z_goto (tgt := 5) dX8_cost_51 (by decide) ?_
  exact z_pick [0, 1, 2, 3, 4] rfl (h T G B hY)
set_option maxHeartbeats 4000000 in
set_option maxRecDepth 100000 in
theorem vX8_feed_0 {l : Launch} {w : Nat → Nat} {nb : Nat} {Q : PM} {x1 x2 x3 x4 x5 : Int32} {F A : MI}  (h : ((((F 321 122) + 20) ≤ 80 → CM l mX8_push 1 w nb [.ref 122, .int x1] F A (qv fun F1 A1 => CM l mX8_push 1 w nb [.ref 122, .int x2] F1 A1 (qv fun F2 A2 => CM l mX8_push 1 w nb [.ref 122, .int x3] F2 A2 (qv fun F3 A3 => CM l mX8_push 1 w nb [.ref 122, .int x4] F3 A3 (qv fun F4 A4 => CM l mX8_push 1 w nb [.ref 122, .int x5] F4 A4 (qv fun F5 A5 => Q (some (.int (F5 321 122))) F5 A5)))))) ∧ (¬ ((F 321 122) + 20) ≤ 80 → Q (some (.int (-1))) F A))) : ZM l mX8_feed 2 w nb Q 0 [(0, .ref 122), (1, .int x1), (2, .int x2), (3, .int x3), (4, .int x4), (5, .int x5)] [] F A := by
  intro T G B hY
  refine z_aload_n dX8_feed_0 0 rfl rfl ?_
  refine z_geti' (k := 1) (fc := 321) (x := (F 321 122)) dX8_feed_1 ckX8 (by decide) fk_X8_94 rfl rfl (lat hY rfl) rfl ?_
  refine z_bipush (v := 20) dX8_feed_4 rfl ?_
  refine z_iadd dX8_feed_6 ?_
  refine z_bipush (v := 80) dX8_feed_7 rfl ?_
  refine z_icmp_le (tgt := 14) dX8_feed_9 (by decide) (fun hb => ?_) (fun hb => ?_)
  · have h := h.1 hb
    refine z_aload_n dX8_feed_14 0 rfl rfl ?_
    refine z_iload_n dX8_feed_15 1 rfl rfl ?_
    refine zm_Vv (As := [.int x1]) (rest := []) dX8_feed_16 okX8_push ioX8_push mk_X8_97 (ci := 8) rfl (by decide) (lat hY rfl) rfl rfl (Nat.le_of_ble_eq_true rfl) (by decide) hY (CM.monov h fun F1 A1 h => ?_)
    refine z_aload_n dX8_feed_19 0 rfl rfl ?_
    refine z_iload_n dX8_feed_20 2 rfl rfl ?_
    refine zm_Vv (As := [.int x2]) (rest := []) dX8_feed_21 okX8_push ioX8_push mk_X8_97 (ci := 8) rfl (by decide) (lat hY rfl) rfl rfl (Nat.le_of_ble_eq_true rfl) (by decide) hY (CM.monov h fun F2 A2 h => ?_)
    refine z_aload_n dX8_feed_24 0 rfl rfl ?_
    refine z_iload_n dX8_feed_25 3 rfl rfl ?_
    refine zm_Vv (As := [.int x3]) (rest := []) dX8_feed_26 okX8_push ioX8_push mk_X8_97 (ci := 8) rfl (by decide) (lat hY rfl) rfl rfl (Nat.le_of_ble_eq_true rfl) (by decide) hY (CM.monov h fun F3 A3 h => ?_)
    refine z_aload_n dX8_feed_29 0 rfl rfl ?_
    refine z_iload dX8_feed_30 4 rfl ?_
    refine zm_Vv (As := [.int x4]) (rest := []) dX8_feed_32 okX8_push ioX8_push mk_X8_97 (ci := 8) rfl (by decide) (lat hY rfl) rfl rfl (Nat.le_of_ble_eq_true rfl) (by decide) hY (CM.monov h fun F4 A4 h => ?_)
    refine z_aload_n dX8_feed_35 0 rfl rfl ?_
    refine z_iload dX8_feed_36 5 rfl ?_
    refine zm_Vv (As := [.int x5]) (rest := []) dX8_feed_38 okX8_push ioX8_push mk_X8_97 (ci := 8) rfl (by decide) (lat hY rfl) rfl rfl (Nat.le_of_ble_eq_true rfl) (by decide) hY (CM.monov h fun F5 A5 h => ?_)
    refine z_aload_n dX8_feed_41 0 rfl rfl ?_
    refine z_geti' (k := 1) (fc := 321) (x := (F5 321 122)) dX8_feed_42 ckX8 (by decide) fk_X8_94 rfl rfl (lat hY rfl) rfl ?_
    exact z_iretM dX8_feed_45 rfl h
  · have h := h.2 hb
    refine z_iconst (v := (-1)) dX8_feed_12 rfl ?_
    exact z_iretM dX8_feed_13 rfl h
theorem kX8_feed {l : Launch} {w : Nat → Nat} {nb : Nat} {Q : PM} {x1 x2 x3 x4 x5 : Int32} {F A : MI}  (h : ((((F 321 122) + 20) ≤ 80 → CM l mX8_push 1 w nb [.ref 122, .int x1] F A (qv fun F1 A1 => CM l mX8_push 1 w nb [.ref 122, .int x2] F1 A1 (qv fun F2 A2 => CM l mX8_push 1 w nb [.ref 122, .int x3] F2 A2 (qv fun F3 A3 => CM l mX8_push 1 w nb [.ref 122, .int x4] F3 A3 (qv fun F4 A4 => CM l mX8_push 1 w nb [.ref 122, .int x5] F4 A4 (qv fun F5 A5 => Q (some (.int (F5 321 122))) F5 A5)))))) ∧ (¬ ((F 321 122) + 20) ≤ 80 → Q (some (.int (-1))) F A))) : CM l mX8_feed 2 w nb [.ref 122, .int x1, .int x2, .int x3, .int x4, .int x5] F A Q := CM.ofZ (by decide) (fun _ _ => rfl) (fun _ _ => Nat.le_of_ble_eq_true rfl) (vX8_feed_0  h)
set_option maxHeartbeats 4000000 in
set_option maxRecDepth 100000 in
theorem vX8_holds_0 {l : Launch} {w : Nat → Nat} {nb : Nat} {Q : PM} {x1 x2 x3 : Int32} {F A : MI}  (h : ((¬ x1 = 0 → ((¬ x1 = 1 → ((¬ x1 = 2 → ((6 ≤ x1 → (vp_in (((3 * x3) + x1) - 6) 60 ∧ ((x2 ≤ (A 128 (((3 * x3) + x1) - 6).toNatClampNeg) → Q (some (.int 0)) F A) ∧ (¬ x2 ≤ (A 128 (((3 * x3) + x1) - 6).toNatClampNeg) → Q (some (.int 1)) F A)))) ∧ (¬ 6 ≤ x1 → (vp_in (((3 * x3) + x1) - 3) 60 ∧ (((A 128 (((3 * x3) + x1) - 3).toNatClampNeg) ≤ x2 → Q (some (.int 0)) F A) ∧ (¬ (A 128 (((3 * x3) + x1) - 3).toNatClampNeg) ≤ x2 → Q (some (.int 1)) F A)))))) ∧ (x1 = 2 → (vp_in x3 20 ∧ ((x2 < (A 125 x3.toNatClampNeg) → Q (some (.int 0)) F A) ∧ (¬ x2 < (A 125 x3.toNatClampNeg) → Q (some (.int 1)) F A)))))) ∧ (x1 = 1 → (vp_in x3 20 ∧ (((A 125 x3.toNatClampNeg) < x2 → Q (some (.int 0)) F A) ∧ (¬ (A 125 x3.toNatClampNeg) < x2 → Q (some (.int 1)) F A)))))) ∧ (x1 = 0 → (vp_in x3 20 ∧ CM l mX8_has 1 w nb [.int x2, .int (A 124 x3.toNatClampNeg)] F A (qi fun r6 F6 A6 => ((r6 = 0 ∨ r6 = 1) ∧ Q (some (.int r6)) F6 A6)))))) : ZM l mX8_holds 2 w nb Q 0 [(0, .ref 122), (1, .int x1), (2, .int x2), (3, .int x3)] [] F A := by
  intro T G B hY
  refine z_iload_n dX8_holds_0 1 rfl rfl ?_
  refine z_if_ne (tgt := 15) dX8_holds_1 (by decide) (fun hb => ?_) (fun hb => ?_)
  · have h := h.1 hb
    refine z_iload_n dX8_holds_15 1 rfl rfl ?_
    refine z_iconst (v := 1) dX8_holds_16 rfl ?_
    refine z_icmp_ne (tgt := 36) dX8_holds_17 (by decide) (fun hb => ?_) (fun hb => ?_)
    · have h := h.1 hb
      refine z_iload_n dX8_holds_36 1 rfl rfl ?_
      refine z_iconst (v := 2) dX8_holds_37 rfl ?_
      refine z_icmp_ne (tgt := 57) dX8_holds_38 (by decide) (fun hb => ?_) (fun hb => ?_)
      · have h := h.1 hb
        refine z_iload_n dX8_holds_57 1 rfl rfl ?_
        refine z_bipush (v := 6) dX8_holds_58 rfl ?_
        refine z_icmp_ge (tgt := 87) dX8_holds_60 (by decide) (fun hb => ?_) (fun hb => ?_)
        · have h := h.1 hb
          refine z_aload_n dX8_holds_87 0 rfl rfl ?_
          refine z_getr (k := 8) (fc := 328) (r := 128) dX8_holds_88 ckX8 (by decide) fk_X8_30 rfl rfl (lat hY rfl) (lgg hY rfl) (by decide) ?_
          refine z_iconst (v := 3) dX8_holds_91 rfl ?_
          refine z_iload_n dX8_holds_92 3 rfl rfl ?_
          refine z_imul dX8_holds_93 ?_
          refine z_iload_n dX8_holds_94 1 rfl rfl ?_
          refine z_iadd dX8_holds_95 ?_
          refine z_bipush (v := 6) dX8_holds_96 rfl ?_
          refine z_isub dX8_holds_98 ?_
          have hin1 := h.1
          have h := h.2
          refine z_iald' (n := 60) (x := (A 128 (((3 * x3) + x1) - 6).toNatClampNeg)) dX8_holds_99 (lat hY rfl) (lln hY rfl) hin1 rfl ?_
          refine z_iload_n dX8_holds_100 2 rfl rfl ?_
          refine z_icmp_ge (tgt := 108) dX8_holds_101 (by decide) (fun hb => ?_) (fun hb => ?_)
          · have h := h.1 hb
            refine z_iconst (v := 0) dX8_holds_108 rfl ?_
            exact z_zretM dX8_holds_109 rfl (by decide) h
          · have h := h.2 hb
            refine z_iconst (v := 1) dX8_holds_104 rfl ?_
            refine z_goto (tgt := 109) dX8_holds_105 (by decide) ?_
            exact z_zretM dX8_holds_109 rfl (by decide) h
        · have h := h.2 hb
          refine z_aload_n dX8_holds_63 0 rfl rfl ?_
          refine z_getr (k := 8) (fc := 328) (r := 128) dX8_holds_64 ckX8 (by decide) fk_X8_30 rfl rfl (lat hY rfl) (lgg hY rfl) (by decide) ?_
          refine z_iconst (v := 3) dX8_holds_67 rfl ?_
          refine z_iload_n dX8_holds_68 3 rfl rfl ?_
          refine z_imul dX8_holds_69 ?_
          refine z_iload_n dX8_holds_70 1 rfl rfl ?_
          refine z_iadd dX8_holds_71 ?_
          refine z_iconst (v := 3) dX8_holds_72 rfl ?_
          refine z_isub dX8_holds_73 ?_
          have hin2 := h.1
          have h := h.2
          refine z_iald' (n := 60) (x := (A 128 (((3 * x3) + x1) - 3).toNatClampNeg)) dX8_holds_74 (lat hY rfl) (lln hY rfl) hin2 rfl ?_
          refine z_iload_n dX8_holds_75 2 rfl rfl ?_
          refine z_icmp_le (tgt := 83) dX8_holds_76 (by decide) (fun hb => ?_) (fun hb => ?_)
          · have h := h.1 hb
            refine z_iconst (v := 0) dX8_holds_83 rfl ?_
            refine z_goto (tgt := 109) dX8_holds_84 (by decide) ?_
            exact z_zretM dX8_holds_109 rfl (by decide) h
          · have h := h.2 hb
            refine z_iconst (v := 1) dX8_holds_79 rfl ?_
            refine z_goto (tgt := 109) dX8_holds_80 (by decide) ?_
            exact z_zretM dX8_holds_109 rfl (by decide) h
      · have h := h.2 hb
        refine z_aload_n dX8_holds_41 0 rfl rfl ?_
        refine z_getr (k := 5) (fc := 325) (r := 125) dX8_holds_42 ckX8 (by decide) fk_X8_21 rfl rfl (lat hY rfl) (lgg hY rfl) (by decide) ?_
        refine z_iload_n dX8_holds_45 3 rfl rfl ?_
        have hin3 := h.1
        have h := h.2
        refine z_iald' (n := 20) (x := (A 125 x3.toNatClampNeg)) dX8_holds_46 (lat hY rfl) (lln hY rfl) hin3 rfl ?_
        refine z_iload_n dX8_holds_47 2 rfl rfl ?_
        refine z_icmp_gt (tgt := 55) dX8_holds_48 (by decide) (fun hb => ?_) (fun hb => ?_)
        · have h := h.1 hb
          refine z_iconst (v := 0) dX8_holds_55 rfl ?_
          exact z_zretM dX8_holds_56 rfl (by decide) h
        · have h := h.2 hb
          refine z_iconst (v := 1) dX8_holds_51 rfl ?_
          refine z_goto (tgt := 56) dX8_holds_52 (by decide) ?_
          exact z_zretM dX8_holds_56 rfl (by decide) h
    · have h := h.2 hb
      refine z_aload_n dX8_holds_20 0 rfl rfl ?_
      refine z_getr (k := 5) (fc := 325) (r := 125) dX8_holds_21 ckX8 (by decide) fk_X8_21 rfl rfl (lat hY rfl) (lgg hY rfl) (by decide) ?_
      refine z_iload_n dX8_holds_24 3 rfl rfl ?_
      have hin4 := h.1
      have h := h.2
      refine z_iald' (n := 20) (x := (A 125 x3.toNatClampNeg)) dX8_holds_25 (lat hY rfl) (lln hY rfl) hin4 rfl ?_
      refine z_iload_n dX8_holds_26 2 rfl rfl ?_
      refine z_icmp_lt (tgt := 34) dX8_holds_27 (by decide) (fun hb => ?_) (fun hb => ?_)
      · have h := h.1 hb
        refine z_iconst (v := 0) dX8_holds_34 rfl ?_
        exact z_zretM dX8_holds_35 rfl (by decide) h
      · have h := h.2 hb
        refine z_iconst (v := 1) dX8_holds_30 rfl ?_
        refine z_goto (tgt := 35) dX8_holds_31 (by decide) ?_
        exact z_zretM dX8_holds_35 rfl (by decide) h
  · have h := h.2 hb
    refine z_iload_n dX8_holds_4 2 rfl rfl ?_
    refine z_aload_n dX8_holds_5 0 rfl rfl ?_
    refine z_getr (k := 4) (fc := 324) (r := 124) dX8_holds_6 ckX8 (by decide) fk_X8_17 rfl rfl (lat hY rfl) (lgg hY rfl) (by decide) ?_
    refine z_iload_n dX8_holds_9 3 rfl rfl ?_
    have hin5 := h.1
    have h := h.2
    refine z_iald' (n := 20) (x := (A 124 x3.toNatClampNeg)) dX8_holds_10 (lat hY rfl) (lln hY rfl) hin5 rfl ?_
    refine zm_Si (As := [.int x2, .int (A 124 x3.toNatClampNeg)]) (rest := []) dX8_holds_11 okX8_has smX8_has mk_X8_152 rfl rfl (Nat.le_of_ble_eq_true rfl) (by decide) hY (CM.monoi h fun r6 F6 A6 h => ?_)
    exact z_zretM dX8_holds_14 rfl h.1 h.2
theorem kX8_holds {l : Launch} {w : Nat → Nat} {nb : Nat} {Q : PM} {x1 x2 x3 : Int32} {F A : MI}  (h : ((¬ x1 = 0 → ((¬ x1 = 1 → ((¬ x1 = 2 → ((6 ≤ x1 → (vp_in (((3 * x3) + x1) - 6) 60 ∧ ((x2 ≤ (A 128 (((3 * x3) + x1) - 6).toNatClampNeg) → Q (some (.int 0)) F A) ∧ (¬ x2 ≤ (A 128 (((3 * x3) + x1) - 6).toNatClampNeg) → Q (some (.int 1)) F A)))) ∧ (¬ 6 ≤ x1 → (vp_in (((3 * x3) + x1) - 3) 60 ∧ (((A 128 (((3 * x3) + x1) - 3).toNatClampNeg) ≤ x2 → Q (some (.int 0)) F A) ∧ (¬ (A 128 (((3 * x3) + x1) - 3).toNatClampNeg) ≤ x2 → Q (some (.int 1)) F A)))))) ∧ (x1 = 2 → (vp_in x3 20 ∧ ((x2 < (A 125 x3.toNatClampNeg) → Q (some (.int 0)) F A) ∧ (¬ x2 < (A 125 x3.toNatClampNeg) → Q (some (.int 1)) F A)))))) ∧ (x1 = 1 → (vp_in x3 20 ∧ (((A 125 x3.toNatClampNeg) < x2 → Q (some (.int 0)) F A) ∧ (¬ (A 125 x3.toNatClampNeg) < x2 → Q (some (.int 1)) F A)))))) ∧ (x1 = 0 → (vp_in x3 20 ∧ CM l mX8_has 1 w nb [.int x2, .int (A 124 x3.toNatClampNeg)] F A (qi fun r6 F6 A6 => ((r6 = 0 ∨ r6 = 1) ∧ Q (some (.int r6)) F6 A6)))))) : CM l mX8_holds 2 w nb [.ref 122, .int x1, .int x2, .int x3] F A Q := CM.ofZ (by decide) (fun _ _ => rfl) (fun _ _ => Nat.le_of_ble_eq_true rfl) (vX8_holds_0  h)
set_option maxHeartbeats 4000000 in
set_option maxRecDepth 100000 in
theorem vX8_isBeast_0 {l : Launch} {w : Nat → Nat} {nb : Nat} {Q : PM} {x1 : Int32} {F A : MI}  (h : CM l mX8_lies 1 w nb [.int x1, .int 0, .int ((F 322 122) - 1)] F A (qi fun r1 F1 A1 => ((r1 = 0 ∨ r1 = 1) ∧ Q (some (.int r1)) F1 A1))) : ZM l mX8_isBeast 2 w nb Q 0 [(0, .ref 122), (1, .int x1)] [] F A := by
  intro T G B hY
  refine z_iload_n dX8_isBeast_0 1 rfl rfl ?_
  refine z_iconst (v := 0) dX8_isBeast_1 rfl ?_
  refine z_aload_n dX8_isBeast_2 0 rfl rfl ?_
  refine z_geti' (k := 2) (fc := 322) (x := (F 322 122)) dX8_isBeast_3 ckX8 (by decide) fk_X8_91 rfl rfl (lat hY rfl) rfl ?_
  refine z_iconst (v := 1) dX8_isBeast_6 rfl ?_
  refine z_isub dX8_isBeast_7 ?_
  refine zm_Si (As := [.int x1, .int 0, .int ((F 322 122) - 1)]) (rest := []) dX8_isBeast_8 okX8_lies smX8_lies mk_X8_87 rfl rfl (Nat.le_of_ble_eq_true rfl) (by decide) hY (CM.monoi h fun r1 F1 A1 h => ?_)
  exact z_zretM dX8_isBeast_11 rfl h.1 h.2
theorem kX8_isBeast {l : Launch} {w : Nat → Nat} {nb : Nat} {Q : PM} {x1 : Int32} {F A : MI}  (h : CM l mX8_lies 1 w nb [.int x1, .int 0, .int ((F 322 122) - 1)] F A (qi fun r1 F1 A1 => ((r1 = 0 ∨ r1 = 1) ∧ Q (some (.int r1)) F1 A1))) : CM l mX8_isBeast 2 w nb [.ref 122, .int x1] F A Q := CM.ofZ (by decide) (fun _ _ => rfl) (fun _ _ => Nat.le_of_ble_eq_true rfl) (vX8_isBeast_0  h)
set_option maxHeartbeats 4000000 in
set_option maxRecDepth 100000 in
theorem vX8_isClass_0 {l : Launch} {w : Nat → Nat} {nb : Nat} {Q : PM} {x0 : Int32} {F A : MI}  (h : CM l mX8_lies 1 w nb [.int x0, .int 0, .int 5] F A (qi fun r1 F1 A1 => ((r1 = 0 ∨ r1 = 1) ∧ Q (some (.int r1)) F1 A1))) : ZM l mX8_isClass 2 w nb Q 0 [(0, .int x0)] [] F A := by
  intro T G B hY
  refine z_iload_n dX8_isClass_0 0 rfl rfl ?_
  refine z_iconst (v := 0) dX8_isClass_1 rfl ?_
  refine z_iconst (v := 5) dX8_isClass_2 rfl ?_
  refine zm_Si (As := [.int x0, .int 0, .int 5]) (rest := []) dX8_isClass_3 okX8_lies smX8_lies mk_X8_87 rfl rfl (Nat.le_of_ble_eq_true rfl) (by decide) hY (CM.monoi h fun r1 F1 A1 h => ?_)
  exact z_zretM dX8_isClass_6 rfl h.1 h.2
theorem kX8_isClass {l : Launch} {w : Nat → Nat} {nb : Nat} {Q : PM} {x0 : Int32} {F A : MI}  (h : CM l mX8_lies 1 w nb [.int x0, .int 0, .int 5] F A (qi fun r1 F1 A1 => ((r1 = 0 ∨ r1 = 1) ∧ Q (some (.int r1)) F1 A1))) : CM l mX8_isClass 2 w nb [.int x0] F A Q := CM.ofZ (by decide) (fun _ _ => rfl) (fun _ _ => Nat.le_of_ble_eq_true rfl) (vX8_isClass_0  h)
set_option maxHeartbeats 4000000 in
set_option maxRecDepth 100000 in
theorem vX8_isRowOf_0 {l : Launch} {w : Nat → Nat} {nb : Nat} {Q : PM} {x1 : Int32} {F A : MI}  (h : ZM l mX8_isRowOf 2 w nb Q 4 [(0, .ref 122), (1, .int x1), (2, .int 0), (3, .int 0)] [] F A) : ZM l mX8_isRowOf 2 w nb Q 0 [(0, .ref 122), (1, .int x1)] [] F A := by
  intro T G B hY
  refine z_iconst (v := 0) dX8_isRowOf_0 rfl ?_
  refine z_istore_n (lv' := [(0, .ref 122), (1, .int x1), (2, .int 0)]) dX8_isRowOf_1 rfl (by decide) rfl ?_
  refine z_iconst (v := 0) dX8_isRowOf_2 rfl ?_
  refine z_istore_n (lv' := [(0, .ref 122), (1, .int x1), (2, .int 0), (3, .int 0)]) dX8_isRowOf_3 rfl (by decide) rfl ?_
  exact z_pick [0, 1, 2, 3] rfl (h T G B hY)
theorem kX8_isRowOf {l : Launch} {w : Nat → Nat} {nb : Nat} {Q : PM} {x1 : Int32} {F A : MI}  (h : ZM l mX8_isRowOf 2 w nb Q 4 [(0, .ref 122), (1, .int x1), (2, .int 0), (3, .int 0)] [] F A) : CM l mX8_isRowOf 2 w nb [.ref 122, .int x1] F A Q := CM.ofZ (by decide) (fun _ _ => rfl) (fun _ _ => Nat.le_of_ble_eq_true rfl) (vX8_isRowOf_0  h)
set_option maxHeartbeats 4000000 in
set_option maxRecDepth 100000 in
theorem vX8_isRowOf_4 {l : Launch} {w : Nat → Nat} {nb : Nat} {Q : PM} {x1 x2 x3 : Int32} {F A : MI}  (h : CM l mX8_sizeOf 1 w nb [.int x1] F A (qi fun r1 F1 A1 => ((r1 ≤ x3 → Q (some (.int 1)) F1 A1) ∧ (¬ r1 ≤ x3 → (vp_in x3 80 ∧ ((20 ≤ ((A1 123 x3.toNatClampNeg) &&& 255) → Q (some (.int 0)) F1 A1) ∧ (¬ 20 ≤ ((A1 123 x3.toNatClampNeg) &&& 255) → CM l mX8_has 1 w nb [.int x1, .int ((A1 123 x3.toNatClampNeg) &&& 255)] F1 A1 (qi fun r3 F3 A3 => ((r3 = 0 → Q (some (.int 0)) F3 A3) ∧ (¬ r3 = 0 → CM l mX8_has 1 w nb [.int x2, .int ((A1 123 x3.toNatClampNeg) &&& 255)] F3 A3 (qi fun r4 F4 A4 => ((r4 = 0 → ZM l mX8_isRowOf 2 w nb Q 4 [(0, .ref 122), (1, .int x1), (2, .int (x2 ||| (1 <<< (((A1 123 x3.toNatClampNeg) &&& 255) &&& 31)))), (3, .int (x3 + 1))] [] F4 A4) ∧ (¬ r4 = 0 → Q (some (.int 0)) F4 A4))))))))))))) : ZM l mX8_isRowOf 2 w nb Q 4 [(0, .ref 122), (1, .int x1), (2, .int x2), (3, .int x3)] [] F A := by
  intro T G B hY
  refine z_iload_n dX8_isRowOf_4 3 rfl rfl ?_
  refine z_iload_n dX8_isRowOf_5 1 rfl rfl ?_
  refine zm_Si (As := [.int x1]) (rest := [.int x3]) dX8_isRowOf_6 okX8_sizeOf smX8_sizeOf mk_X8_162 rfl rfl (Nat.le_of_ble_eq_true rfl) (by decide) hY (CM.monoi h fun r1 F1 A1 h => ?_)
  refine z_icmp_ge (tgt := 64) dX8_isRowOf_9 (by decide) (fun hb => ?_) (fun hb => ?_)
  · have h := h.1 hb
    refine z_iconst (v := 1) dX8_isRowOf_64 rfl ?_
    exact z_zretM dX8_isRowOf_65 rfl (by decide) h
  · have h := h.2 hb
    refine z_aload_n dX8_isRowOf_12 0 rfl rfl ?_
    refine z_getr (k := 0) (fc := 320) (r := 123) dX8_isRowOf_13 ckX8 (by decide) fk_X8_7 rfl rfl (lat hY rfl) (lgg hY rfl) (by decide) ?_
    refine z_iload_n dX8_isRowOf_16 3 rfl rfl ?_
    have hin2 := h.1
    have h := h.2
    refine z_bald' (n := 80) (x := (A1 123 x3.toNatClampNeg)) dX8_isRowOf_17 (lat hY rfl) (lln hY rfl) hin2 rfl ?_
    refine z_sipush (v := 255) dX8_isRowOf_18 rfl ?_
    refine z_iand dX8_isRowOf_21 ?_
    refine z_istore (lv' := [(0, .ref 122), (1, .int x1), (2, .int x2), (3, .int x3), (4, .int ((A1 123 x3.toNatClampNeg) &&& 255))]) dX8_isRowOf_22 (by decide) rfl ?_
    refine z_iload dX8_isRowOf_24 4 rfl ?_
    refine z_bipush (v := 20) dX8_isRowOf_26 rfl ?_
    refine z_icmp_ge (tgt := 49) dX8_isRowOf_28 (by decide) (fun hb => ?_) (fun hb => ?_)
    · have h := h.1 hb
      refine z_iconst (v := 0) dX8_isRowOf_49 rfl ?_
      exact z_zretM dX8_isRowOf_50 rfl (by decide) h
    · have h := h.2 hb
      refine z_iload_n dX8_isRowOf_31 1 rfl rfl ?_
      refine z_iload dX8_isRowOf_32 4 rfl ?_
      refine zm_Si (As := [.int x1, .int ((A1 123 x3.toNatClampNeg) &&& 255)]) (rest := []) dX8_isRowOf_34 okX8_has smX8_has mk_X8_152 rfl rfl (Nat.le_of_ble_eq_true rfl) (by decide) hY (CM.monoi h fun r3 F3 A3 h => ?_)
      refine z_if_eq (tgt := 49) dX8_isRowOf_37 (by decide) (fun hb => ?_) (fun hb => ?_)
      · have h := h.1 hb
        refine z_iconst (v := 0) dX8_isRowOf_49 rfl ?_
        exact z_zretM dX8_isRowOf_50 rfl (by decide) h
      · have h := h.2 hb
        refine z_iload_n dX8_isRowOf_40 2 rfl rfl ?_
        refine z_iload dX8_isRowOf_41 4 rfl ?_
        refine zm_Si (As := [.int x2, .int ((A1 123 x3.toNatClampNeg) &&& 255)]) (rest := []) dX8_isRowOf_43 okX8_has smX8_has mk_X8_152 rfl rfl (Nat.le_of_ble_eq_true rfl) (by decide) hY (CM.monoi h fun r4 F4 A4 h => ?_)
        refine z_if_eq (tgt := 51) dX8_isRowOf_46 (by decide) (fun hb => ?_) (fun hb => ?_)
        · have h := h.1 hb
          refine z_iload_n dX8_isRowOf_51 2 rfl rfl ?_
          refine z_iconst (v := 1) dX8_isRowOf_52 rfl ?_
          refine z_iload dX8_isRowOf_53 4 rfl ?_
          refine z_ishl dX8_isRowOf_55 ?_
          refine z_ior dX8_isRowOf_56 ?_
          refine z_istore_n (lv' := [(0, .ref 122), (1, .int x1), (2, .int (x2 ||| (1 <<< (((A1 123 x3.toNatClampNeg) &&& 255) &&& 31)))), (3, .int x3), (4, .int ((A1 123 x3.toNatClampNeg) &&& 255))]) dX8_isRowOf_57 rfl (by decide) rfl ?_
          refine z_iinc (v := (x3 + 1)) (lv' := [(0, .ref 122), (1, .int x1), (2, .int (x2 ||| (1 <<< (((A1 123 x3.toNatClampNeg) &&& 255) &&& 31)))), (3, .int (x3 + 1)), (4, .int ((A1 123 x3.toNatClampNeg) &&& 255))]) dX8_isRowOf_58 3 rfl rfl (by decide) rfl ?_
          refine z_goto (tgt := 4) dX8_isRowOf_61 (by decide) ?_
          exact z_pick [0, 1, 2, 3] rfl (h T G B hY)
        · have h := h.2 hb
          refine z_iconst (v := 0) dX8_isRowOf_49 rfl ?_
          exact z_zretM dX8_isRowOf_50 rfl (by decide) h
set_option maxHeartbeats 4000000 in
set_option maxRecDepth 100000 in
theorem vX8_lays_0 {l : Launch} {w : Nat → Nat} {nb : Nat} {Q : PM} {F A : MI}  (h : ZM l mX8_lays 2 w nb Q 4 [(0, .ref 122), (1, .int 0), (2, .int 0)] [] F A) : ZM l mX8_lays 2 w nb Q 0 [(0, .ref 122)] [] F A := by
  intro T G B hY
  refine z_iconst (v := 0) dX8_lays_0 rfl ?_
  refine z_istore_n (lv' := [(0, .ref 122), (1, .int 0)]) dX8_lays_1 rfl (by decide) rfl ?_
  refine z_iconst (v := 0) dX8_lays_2 rfl ?_
  refine z_istore_n (lv' := [(0, .ref 122), (1, .int 0), (2, .int 0)]) dX8_lays_3 rfl (by decide) rfl ?_
  exact z_pick [0, 1, 2] rfl (h T G B hY)
theorem kX8_lays {l : Launch} {w : Nat → Nat} {nb : Nat} {Q : PM} {F A : MI}  (h : ZM l mX8_lays 2 w nb Q 4 [(0, .ref 122), (1, .int 0), (2, .int 0)] [] F A) : CM l mX8_lays 2 w nb [.ref 122] F A Q := CM.ofZ (by decide) (fun _ _ => rfl) (fun _ _ => Nat.le_of_ble_eq_true rfl) (vX8_lays_0  h)
set_option maxHeartbeats 4000000 in
set_option maxRecDepth 100000 in
theorem vX8_lays_4 {l : Launch} {w : Nat → Nat} {nb : Nat} {Q : PM} {x1 x2 : Int32} {F A : MI}  (h : ((6 ≤ x2 → ZM l mX8_lays 2 w nb Q 90 [(0, .ref 122), (1, .int x1), (2, .int 0)] [] F A) ∧ (¬ 6 ≤ x2 → (vp_in x2 6 ∧ ((¬ x1 = 0 → ZM l mX8_lays 2 w nb Q 30 [(0, .ref 122), (2, .int x2)] [] F (u2 A 144 x2.toNatClampNeg 0)) ∧ (x1 = 0 → (vp_in x2 6 ∧ (((A 134 x2.toNatClampNeg) = 0 → ZM l mX8_lays 2 w nb Q 35 [(0, .ref 122), (2, .int x2)] [.int 0] F (u2 A 144 x2.toNatClampNeg 0)) ∧ (¬ (A 134 x2.toNatClampNeg) = 0 → ZM l mX8_lays 2 w nb Q 30 [(0, .ref 122), (2, .int x2)] [] F (u2 A 144 x2.toNatClampNeg 0)))))))))) : ZM l mX8_lays 2 w nb Q 4 [(0, .ref 122), (1, .int x1), (2, .int x2)] [] F A := by
  intro T G B hY
  refine z_iload_n dX8_lays_4 2 rfl rfl ?_
  refine z_bipush (v := 6) dX8_lays_5 rfl ?_
  refine z_icmp_ge (tgt := 88) dX8_lays_7 (by decide) (fun hb => ?_) (fun hb => ?_)
  · have h := h.1 hb
    refine z_iconst (v := 0) dX8_lays_88 rfl ?_
    refine z_istore_n (lv' := [(0, .ref 122), (1, .int x1), (2, .int 0)]) dX8_lays_89 rfl (by decide) rfl ?_
    exact z_pick [0, 1, 2] rfl (h T G B hY)
  · have h := h.2 hb
    refine z_aload_n dX8_lays_10 0 rfl rfl ?_
    refine z_getr (k := 31) (fc := 351) (r := 144) dX8_lays_11 ckX8 (by decide) fk_X8_78 rfl rfl (lat hY rfl) (lgg hY rfl) (by decide) ?_
    refine z_iload_n dX8_lays_14 2 rfl rfl ?_
    refine z_iconst (v := 0) dX8_lays_15 rfl ?_
    have hin1 := h.1
    have h := h.2
    refine z_iast' (n := 6) dX8_lays_16 (lat hY rfl) (lln hY rfl) hin1 ?_
    refine z_iload_n dX8_lays_17 1 rfl rfl ?_
    refine z_if_ne (tgt := 30) dX8_lays_18 (by decide) (fun hb => ?_) (fun hb => ?_)
    · have h := h.1 hb
      exact z_pick [0, 2] rfl (h T G B hY)
    · have h := h.2 hb
      refine z_aload_n dX8_lays_21 0 rfl rfl ?_
      refine z_getr (k := 15) (fc := 335) (r := 134) dX8_lays_22 ckX8 (by decide) fk_X8_48 rfl rfl (lat hY rfl) (lgg hY rfl) (by decide) ?_
      refine z_iload_n dX8_lays_25 2 rfl rfl ?_
      have hin2 := h.1
      have h := h.2
      refine z_iald' (n := 6) (x := (A 134 x2.toNatClampNeg)) dX8_lays_26 (lat hY rfl) (lln hY rfl) hin2 ((u2_n1 (by omega)).trans rfl) ?_
      refine z_if_eq (tgt := 34) dX8_lays_27 (by decide) (fun hb => ?_) (fun hb => ?_)
      · have h := h.1 hb
        refine z_iconst (v := 0) dX8_lays_34 rfl ?_
        exact z_pick [0, 2] rfl (h T G B hY)
      · have h := h.2 hb
        exact z_pick [0, 2] rfl (h T G B hY)
set_option maxHeartbeats 4000000 in
set_option maxRecDepth 100000 in
theorem vX8_lays_90 {l : Launch} {w : Nat → Nat} {nb : Nat} {Q : PM} {x1 x2 : Int32} {F A : MI}  (h : ((6 ≤ x2 → Q (some (.int (-1))) F A) ∧ (¬ 6 ≤ x2 → ((x1 = 0 → Q (some (.int (-1))) F A) ∧ (¬ x1 = 0 → ZM l mX8_lays 2 w nb Q 102 [(0, .ref 122), (1, .int x1), (2, .int x2), (3, .int 0)] [] F A))))) : ZM l mX8_lays 2 w nb Q 90 [(0, .ref 122), (1, .int x1), (2, .int x2)] [] F A := by
  intro T G B hY
  refine z_iload_n dX8_lays_90 2 rfl rfl ?_
  refine z_bipush (v := 6) dX8_lays_91 rfl ?_
  refine z_icmp_ge (tgt := 151) dX8_lays_93 (by decide) (fun hb => ?_) (fun hb => ?_)
  · have h := h.1 hb
    refine z_iconst (v := (-1)) dX8_lays_151 rfl ?_
    exact z_iretM dX8_lays_152 rfl h
  · have h := h.2 hb
    refine z_iload_n dX8_lays_96 1 rfl rfl ?_
    refine z_if_eq (tgt := 151) dX8_lays_97 (by decide) (fun hb => ?_) (fun hb => ?_)
    · have h := h.1 hb
      refine z_iconst (v := (-1)) dX8_lays_151 rfl ?_
      exact z_iretM dX8_lays_152 rfl h
    · have h := h.2 hb
      refine z_iconst (v := 0) dX8_lays_100 rfl ?_
      refine z_istore_n (lv' := [(0, .ref 122), (1, .int x1), (2, .int x2), (3, .int 0)]) dX8_lays_101 rfl (by decide) rfl ?_
      exact z_pick [0, 1, 2, 3] rfl (h T G B hY)
set_option maxHeartbeats 4000000 in
set_option maxRecDepth 100000 in
theorem vX8_lays_30 {l : Launch} {w : Nat → Nat} {nb : Nat} {Q : PM} {x2 : Int32} {F A : MI}  (h : ZM l mX8_lays 2 w nb Q 35 [(0, .ref 122), (2, .int x2)] [.int 1] F A) : ZM l mX8_lays 2 w nb Q 30 [(0, .ref 122), (2, .int x2)] [] F A := by
  intro T G B hY
  refine z_iconst (v := 1) dX8_lays_30 rfl ?_
  refine z_goto (tgt := 35) dX8_lays_31 (by decide) ?_
  exact z_pick [0, 1] rfl (h T G B hY)
set_option maxHeartbeats 4000000 in
set_option maxRecDepth 100000 in
theorem vX8_lays_35 {l : Launch} {w : Nat → Nat} {nb : Nat} {Q : PM} {x2 s0 : Int32} {F A : MI}  (h : ZM l mX8_lays 2 w nb Q 38 [(0, .ref 122), (1, .int s0), (2, .int x2), (3, .int 0)] [] F A) : ZM l mX8_lays 2 w nb Q 35 [(0, .ref 122), (2, .int x2)] [.int s0] F A := by
  intro T G B hY
  refine z_istore_n (lv' := [(0, .ref 122), (1, .int s0), (2, .int x2)]) dX8_lays_35 rfl (by decide) rfl ?_
  refine z_iconst (v := 0) dX8_lays_36 rfl ?_
  refine z_istore_n (lv' := [(0, .ref 122), (1, .int s0), (2, .int x2), (3, .int 0)]) dX8_lays_37 rfl (by decide) rfl ?_
  exact z_pick [0, 1, 2, 3] rfl (h T G B hY)
set_option maxHeartbeats 4000000 in
set_option maxRecDepth 100000 in
theorem vX8_lays_102 {l : Launch} {w : Nat → Nat} {nb : Nat} {Q : PM} {x1 x2 x3 : Int32} {F A : MI}  (h : ((6 ≤ x3 → ZM l mX8_lays 2 w nb Q 123 [(0, .ref 122), (1, .int x1), (2, .int x2), (3, .int 1)] [] F A) ∧ (¬ 6 ≤ x3 → (vp_in x3 6 ∧ ZM l mX8_lays 2 w nb Q 102 [(0, .ref 122), (1, .int x1), (2, .int x2), (3, .int (x3 + 1))] [] F (u2 A 145 x3.toNatClampNeg 0))))) : ZM l mX8_lays 2 w nb Q 102 [(0, .ref 122), (1, .int x1), (2, .int x2), (3, .int x3)] [] F A := by
  intro T G B hY
  refine z_iload_n dX8_lays_102 3 rfl rfl ?_
  refine z_bipush (v := 6) dX8_lays_103 rfl ?_
  refine z_icmp_ge (tgt := 121) dX8_lays_105 (by decide) (fun hb => ?_) (fun hb => ?_)
  · have h := h.1 hb
    refine z_iconst (v := 1) dX8_lays_121 rfl ?_
    refine z_istore_n (lv' := [(0, .ref 122), (1, .int x1), (2, .int x2), (3, .int 1)]) dX8_lays_122 rfl (by decide) rfl ?_
    exact z_pick [0, 1, 2, 3] rfl (h T G B hY)
  · have h := h.2 hb
    refine z_aload_n dX8_lays_108 0 rfl rfl ?_
    refine z_getr (k := 32) (fc := 352) (r := 145) dX8_lays_109 ckX8 (by decide) fk_X8_81 rfl rfl (lat hY rfl) (lgg hY rfl) (by decide) ?_
    refine z_iload_n dX8_lays_112 3 rfl rfl ?_
    refine z_iconst (v := 0) dX8_lays_113 rfl ?_
    have hin1 := h.1
    have h := h.2
    refine z_iast' (n := 6) dX8_lays_114 (lat hY rfl) (lln hY rfl) hin1 ?_
    refine z_iinc (v := (x3 + 1)) (lv' := [(0, .ref 122), (1, .int x1), (2, .int x2), (3, .int (x3 + 1))]) dX8_lays_115 3 rfl rfl (by decide) rfl ?_
    refine z_goto (tgt := 102) dX8_lays_118 (by decide) ?_
    exact z_pick [0, 1, 2, 3] rfl (h T G B hY)
set_option maxHeartbeats 4000000 in
set_option maxRecDepth 100000 in
theorem vX8_lays_38 {l : Launch} {w : Nat → Nat} {nb : Nat} {Q : PM} {x1 x2 x3 : Int32} {F A : MI}  (h : (((F 322 122) ≤ x3 → ZM l mX8_lays 2 w nb Q 4 [(0, .ref 122), (1, .int x1), (2, .int (x2 + 1))] [] F A) ∧ (¬ (F 322 122) ≤ x3 → (vp_in x2 6 ∧ CM l mX8_has 1 w nb [.int (A 134 x2.toNatClampNeg), .int x3] F A (qi fun r2 F2 A2 => ((r2 = 0 → ZM l mX8_lays 2 w nb Q 76 [(0, .ref 122), (1, .int x1), (2, .int x2), (3, .int x3)] [] F2 A2) ∧ (¬ r2 = 0 → (vp_in x2 6 ∧ (vp_in x3 20 ∧ (vp_in x2 6 ∧ ZM l mX8_lays 2 w nb Q 76 [(0, .ref 122), (1, .int x1), (2, .int x2), (3, .int x3)] [] F2 (u2 A2 144 x2.toNatClampNeg ((A2 144 x2.toNatClampNeg) ||| (1 <<< ((A2 127 x3.toNatClampNeg) &&& 31)))))))))))))) : ZM l mX8_lays 2 w nb Q 38 [(0, .ref 122), (1, .int x1), (2, .int x2), (3, .int x3)] [] F A := by
  intro T G B hY
  refine z_iload_n dX8_lays_38 3 rfl rfl ?_
  refine z_aload_n dX8_lays_39 0 rfl rfl ?_
  refine z_geti' (k := 2) (fc := 322) (x := (F 322 122)) dX8_lays_40 ckX8 (by decide) fk_X8_91 rfl rfl (lat hY rfl) rfl ?_
  refine z_icmp_ge (tgt := 82) dX8_lays_43 (by decide) (fun hb => ?_) (fun hb => ?_)
  · have h := h.1 hb
    refine z_iinc (v := (x2 + 1)) (lv' := [(0, .ref 122), (1, .int x1), (2, .int (x2 + 1)), (3, .int x3)]) dX8_lays_82 2 rfl rfl (by decide) rfl ?_
    refine z_goto (tgt := 4) dX8_lays_85 (by decide) ?_
    exact z_pick [0, 1, 2] rfl (h T G B hY)
  · have h := h.2 hb
    refine z_aload_n dX8_lays_46 0 rfl rfl ?_
    refine z_getr (k := 15) (fc := 335) (r := 134) dX8_lays_47 ckX8 (by decide) fk_X8_48 rfl rfl (lat hY rfl) (lgg hY rfl) (by decide) ?_
    refine z_iload_n dX8_lays_50 2 rfl rfl ?_
    have hin1 := h.1
    have h := h.2
    refine z_iald' (n := 6) (x := (A 134 x2.toNatClampNeg)) dX8_lays_51 (lat hY rfl) (lln hY rfl) hin1 rfl ?_
    refine z_iload_n dX8_lays_52 3 rfl rfl ?_
    refine zm_Si (As := [.int (A 134 x2.toNatClampNeg), .int x3]) (rest := []) dX8_lays_53 okX8_has smX8_has mk_X8_152 rfl rfl (Nat.le_of_ble_eq_true rfl) (by decide) hY (CM.monoi h fun r2 F2 A2 h => ?_)
    refine z_if_eq (tgt := 76) dX8_lays_56 (by decide) (fun hb => ?_) (fun hb => ?_)
    · have h := h.1 hb
      exact z_pick [0, 1, 2, 3] rfl (h T G B hY)
    · have h := h.2 hb
      refine z_aload_n dX8_lays_59 0 rfl rfl ?_
      refine z_getr (k := 31) (fc := 351) (r := 144) dX8_lays_60 ckX8 (by decide) fk_X8_78 rfl rfl (lat hY rfl) (lgg hY rfl) (by decide) ?_
      refine z_iload_n dX8_lays_63 2 rfl rfl ?_
      refine z_dup2 dX8_lays_64 ?_
      have hin3 := h.1
      have h := h.2
      refine z_iald' (n := 6) (x := (A2 144 x2.toNatClampNeg)) dX8_lays_65 (lat hY rfl) (lln hY rfl) hin3 rfl ?_
      refine z_iconst (v := 1) dX8_lays_66 rfl ?_
      refine z_aload_n dX8_lays_67 0 rfl rfl ?_
      refine z_getr (k := 7) (fc := 327) (r := 127) dX8_lays_68 ckX8 (by decide) fk_X8_27 rfl rfl (lat hY rfl) (lgg hY rfl) (by decide) ?_
      refine z_iload_n dX8_lays_71 3 rfl rfl ?_
      have hin4 := h.1
      have h := h.2
      refine z_iald' (n := 20) (x := (A2 127 x3.toNatClampNeg)) dX8_lays_72 (lat hY rfl) (lln hY rfl) hin4 rfl ?_
      refine z_ishl dX8_lays_73 ?_
      refine z_ior dX8_lays_74 ?_
      have hin5 := h.1
      have h := h.2
      refine z_iast' (n := 6) dX8_lays_75 (lat hY rfl) (lln hY rfl) hin5 ?_
      exact z_pick [0, 1, 2, 3] rfl (h T G B hY)
