set_option maxHeartbeats 4000000 in
set_option maxRecDepth 100000 in
theorem vX1_isClauseLetter_0 {l : Launch} {w : Nat → Nat} {nb : Nat} {Q : PM} {x0 : Int32} {F A : MI}  (h : ((x0 = 98 → Q (some (.int 1)) F A) ∧ (¬ x0 = 98 → ((x0 = 102 → Q (some (.int 1)) F A) ∧ (¬ x0 = 102 → ((x0 = 116 → Q (some (.int 1)) F A) ∧ (¬ x0 = 116 → ((¬ x0 = 109 → Q (some (.int 0)) F A) ∧ (x0 = 109 → Q (some (.int 1)) F A))))))))) : ZM l mX1_isClauseLetter 1 w nb Q 0 [(0, .int x0)] [] F A := by
  intro T G B hY
  refine z_iload_n dX1_isClauseLetter_0 0 rfl rfl ?_
  refine z_bipush (v := 98) dX1_isClauseLetter_1 rfl ?_
  refine z_icmp_eq (tgt := 24) dX1_isClauseLetter_3 (by decide) (fun hb => ?_) (fun hb => ?_)
  · have h := h.1 hb
    refine z_iconst (v := 1) dX1_isClauseLetter_24 rfl ?_
    refine z_goto (tgt := 29) dX1_isClauseLetter_25 (by decide) ?_
    exact z_zretM dX1_isClauseLetter_29 rfl (by decide) h
  · have h := h.2 hb
    refine z_iload_n dX1_isClauseLetter_6 0 rfl rfl ?_
    refine z_bipush (v := 102) dX1_isClauseLetter_7 rfl ?_
    refine z_icmp_eq (tgt := 24) dX1_isClauseLetter_9 (by decide) (fun hb => ?_) (fun hb => ?_)
    · have h := h.1 hb
      refine z_iconst (v := 1) dX1_isClauseLetter_24 rfl ?_
      refine z_goto (tgt := 29) dX1_isClauseLetter_25 (by decide) ?_
      exact z_zretM dX1_isClauseLetter_29 rfl (by decide) h
    · have h := h.2 hb
      refine z_iload_n dX1_isClauseLetter_12 0 rfl rfl ?_
      refine z_bipush (v := 116) dX1_isClauseLetter_13 rfl ?_
      refine z_icmp_eq (tgt := 24) dX1_isClauseLetter_15 (by decide) (fun hb => ?_) (fun hb => ?_)
      · have h := h.1 hb
        refine z_iconst (v := 1) dX1_isClauseLetter_24 rfl ?_
        refine z_goto (tgt := 29) dX1_isClauseLetter_25 (by decide) ?_
        exact z_zretM dX1_isClauseLetter_29 rfl (by decide) h
      · have h := h.2 hb
        refine z_iload_n dX1_isClauseLetter_18 0 rfl rfl ?_
        refine z_bipush (v := 109) dX1_isClauseLetter_19 rfl ?_
        refine z_icmp_ne (tgt := 28) dX1_isClauseLetter_21 (by decide) (fun hb => ?_) (fun hb => ?_)
        · have h := h.1 hb
          refine z_iconst (v := 0) dX1_isClauseLetter_28 rfl ?_
          exact z_zretM dX1_isClauseLetter_29 rfl (by decide) h
        · have h := h.2 hb
          refine z_iconst (v := 1) dX1_isClauseLetter_24 rfl ?_
          refine z_goto (tgt := 29) dX1_isClauseLetter_25 (by decide) ?_
          exact z_zretM dX1_isClauseLetter_29 rfl (by decide) h
theorem kX1_isClauseLetter {l : Launch} {w : Nat → Nat} {nb : Nat} {Q : PM} {x0 : Int32} {F A : MI}  (h : ((x0 = 98 → Q (some (.int 1)) F A) ∧ (¬ x0 = 98 → ((x0 = 102 → Q (some (.int 1)) F A) ∧ (¬ x0 = 102 → ((x0 = 116 → Q (some (.int 1)) F A) ∧ (¬ x0 = 116 → ((¬ x0 = 109 → Q (some (.int 0)) F A) ∧ (x0 = 109 → Q (some (.int 1)) F A))))))))) : CM l mX1_isClauseLetter 1 w nb [.int x0] F A Q := CM.ofZ (by decide) (fun _ _ => rfl) (fun _ _ => Nat.le_of_ble_eq_true rfl) (vX1_isClauseLetter_0  h)
set_option maxHeartbeats 4000000 in
set_option maxRecDepth 100000 in
theorem vX1_isWithin_0 {l : Launch} {w : Nat → Nat} {nb : Nat} {Q : PM} {x1 x2 : Int32} {F A : MI} {t : Nat} (ht : isTx t) (h : (vp_in x1 4 ∧ ((x2 < (A (t + 1) x1.toNatClampNeg) → Q (some (.int 0)) F A) ∧ (¬ x2 < (A (t + 1) x1.toNatClampNeg) → (vp_in x1 4 ∧ (((A (t + 2) x1.toNatClampNeg) < x2 → Q (some (.int 0)) F A) ∧ (¬ (A (t + 2) x1.toNatClampNeg) < x2 → Q (some (.int 1)) F A))))))) : ZM l mX1_isWithin 1 w nb Q 0 [(0, .ref t), (1, .int x1), (2, .int x2)] [] F A := by
  intro T G B hY
  refine z_aload_n dX1_isWithin_0 0 rfl rfl ?_
  refine z_getr (k := 0) (fc := 40) (r := (t + 1)) dX1_isWithin_1 ckX1 (by decide) fk_X1_11 rfl rfl (lat1 hY ht) (lgg1a hY ht) (by omega) ?_
  refine z_iload_n dX1_isWithin_4 1 rfl rfl ?_
  have hin1 := h.1
  have h := h.2
  refine z_iald' (n := 4) (x := (A (t + 1) x1.toNatClampNeg)) dX1_isWithin_5 (lat1a hY ht) (lln1a hY ht) hin1 rfl ?_
  refine z_iload_n dX1_isWithin_6 2 rfl rfl ?_
  refine z_icmp_gt (tgt := 24) dX1_isWithin_7 (by decide) (fun hb => ?_) (fun hb => ?_)
  · have h := h.1 hb
    refine z_iconst (v := 0) dX1_isWithin_24 rfl ?_
    exact z_zretM dX1_isWithin_25 rfl (by decide) h
  · have h := h.2 hb
    refine z_iload_n dX1_isWithin_10 2 rfl rfl ?_
    refine z_aload_n dX1_isWithin_11 0 rfl rfl ?_
    refine z_getr (k := 1) (fc := 41) (r := (t + 2)) dX1_isWithin_12 ckX1 (by decide) fk_X1_15 rfl rfl (lat1 hY ht) (lgg1b hY ht) (by omega) ?_
    refine z_iload_n dX1_isWithin_15 1 rfl rfl ?_
    have hin2 := h.1
    have h := h.2
    refine z_iald' (n := 4) (x := (A (t + 2) x1.toNatClampNeg)) dX1_isWithin_16 (lat1b hY ht) (lln1b hY ht) hin2 rfl ?_
    refine z_icmp_gt (tgt := 24) dX1_isWithin_17 (by decide) (fun hb => ?_) (fun hb => ?_)
    · have h := h.1 hb
      refine z_iconst (v := 0) dX1_isWithin_24 rfl ?_
      exact z_zretM dX1_isWithin_25 rfl (by decide) h
    · have h := h.2 hb
      refine z_iconst (v := 1) dX1_isWithin_20 rfl ?_
      refine z_goto (tgt := 25) dX1_isWithin_21 (by decide) ?_
      exact z_zretM dX1_isWithin_25 rfl (by decide) h
theorem kX1_isWithin {l : Launch} {w : Nat → Nat} {nb : Nat} {Q : PM} {x1 x2 : Int32} {F A : MI} {t : Nat} (ht : isTx t) (h : (vp_in x1 4 ∧ ((x2 < (A (t + 1) x1.toNatClampNeg) → Q (some (.int 0)) F A) ∧ (¬ x2 < (A (t + 1) x1.toNatClampNeg) → (vp_in x1 4 ∧ (((A (t + 2) x1.toNatClampNeg) < x2 → Q (some (.int 0)) F A) ∧ (¬ (A (t + 2) x1.toNatClampNeg) < x2 → Q (some (.int 1)) F A))))))) : CM l mX1_isWithin 1 w nb [.ref t, .int x1, .int x2] F A Q := CM.ofZ (by decide) (fun _ _ => rfl) (fun _ _ => Nat.le_of_ble_eq_true rfl) (vX1_isWithin_0 ht h)
set_option maxHeartbeats 4000000 in
set_option maxRecDepth 100000 in
theorem vX2_beats_0 {l : Launch} {w : Nat → Nat} {nb : Nat} {Q : PM} {x1 x2 : Int32} {F A : MI}  (h : (vp_in x1 8 ∧ (vp_in x2 8 ∧ (vp_in x2 8 ∧ (vp_in x1 8 ∧ (((A (11 + x1.toNatClampNeg) x2.toNatClampNeg) ≤ (A (11 + x2.toNatClampNeg) x1.toNatClampNeg) → Q (some (.int 0)) F A) ∧ (¬ (A (11 + x1.toNatClampNeg) x2.toNatClampNeg) ≤ (A (11 + x2.toNatClampNeg) x1.toNatClampNeg) → Q (some (.int 1)) F A))))))) : ZM l mX2_beats 1 w nb Q 0 [(0, .ref 7), (1, .int x1), (2, .int x2)] [] F A := by
  intro T G B hY
  refine z_aload_n dX2_beats_0 0 rfl rfl ?_
  refine z_getr (k := 3) (fc := 83) (r := 10) dX2_beats_1 ckX2 (by decide) fk_X2_24 rfl rfl (lat hY rfl) (lgg hY rfl) (by decide) ?_
  refine z_iload_n dX2_beats_4 1 rfl rfl ?_
  have hin1 := h.1
  have h := h.2
  refine z_aald' (ci := 13) (n := 8) (r := (11 + x1.toNatClampNeg)) dX2_beats_5 (lat hY rfl) (by decide) (lln hY rfl) hin1 (lbb10 hY (vin hin1)) (by omega) ?_
  refine z_iload_n dX2_beats_6 2 rfl rfl ?_
  have hin2 := h.1
  have h := h.2
  refine z_iald' (n := 8) (x := (A (11 + x1.toNatClampNeg) x2.toNatClampNeg)) dX2_beats_7 (lat11 hY (vin hin1)) (lln11 hY (vin hin1)) hin2 rfl ?_
  refine z_aload_n dX2_beats_8 0 rfl rfl ?_
  refine z_getr (k := 3) (fc := 83) (r := 10) dX2_beats_9 ckX2 (by decide) fk_X2_24 rfl rfl (lat hY rfl) (lgg hY rfl) (by decide) ?_
  refine z_iload_n dX2_beats_12 2 rfl rfl ?_
  have hin3 := h.1
  have h := h.2
  refine z_aald' (ci := 13) (n := 8) (r := (11 + x2.toNatClampNeg)) dX2_beats_13 (lat hY rfl) (by decide) (lln hY rfl) hin3 (lbb10 hY (vin hin3)) (by omega) ?_
  refine z_iload_n dX2_beats_14 1 rfl rfl ?_
  have hin4 := h.1
  have h := h.2
  refine z_iald' (n := 8) (x := (A (11 + x2.toNatClampNeg) x1.toNatClampNeg)) dX2_beats_15 (lat11 hY (vin hin3)) (lln11 hY (vin hin3)) hin4 rfl ?_
  refine z_icmp_le (tgt := 23) dX2_beats_16 (by decide) (fun hb => ?_) (fun hb => ?_)
  · have h := h.1 hb
    refine z_iconst (v := 0) dX2_beats_23 rfl ?_
    exact z_zretM dX2_beats_24 rfl (by decide) h
  · have h := h.2 hb
    refine z_iconst (v := 1) dX2_beats_19 rfl ?_
    refine z_goto (tgt := 24) dX2_beats_20 (by decide) ?_
    exact z_zretM dX2_beats_24 rfl (by decide) h
theorem kX2_beats {l : Launch} {w : Nat → Nat} {nb : Nat} {Q : PM} {x1 x2 : Int32} {F A : MI}  (h : (vp_in x1 8 ∧ (vp_in x2 8 ∧ (vp_in x2 8 ∧ (vp_in x1 8 ∧ (((A (11 + x1.toNatClampNeg) x2.toNatClampNeg) ≤ (A (11 + x2.toNatClampNeg) x1.toNatClampNeg) → Q (some (.int 0)) F A) ∧ (¬ (A (11 + x1.toNatClampNeg) x2.toNatClampNeg) ≤ (A (11 + x2.toNatClampNeg) x1.toNatClampNeg) → Q (some (.int 1)) F A))))))) : CM l mX2_beats 1 w nb [.ref 7, .int x1, .int x2] F A Q := CM.ofZ (by decide) (fun _ _ => rfl) (fun _ _ => Nat.le_of_ble_eq_true rfl) (vX2_beats_0  h)
set_option maxHeartbeats 4000000 in
set_option maxRecDepth 100000 in
theorem vX2_sumLost_0 {l : Launch} {w : Nat → Nat} {nb : Nat} {Q : PM} {F A : MI}  (h : ZM l mX2_sumLost 1 w nb Q 2 [(0, .ref 7), (1, .int 0)] [] F A) : ZM l mX2_sumLost 1 w nb Q 0 [(0, .ref 7)] [] F A := by
  intro T G B hY
  refine z_iconst (v := 0) dX2_sumLost_0 rfl ?_
  refine z_istore_n (lv' := [(0, .ref 7), (1, .int 0)]) dX2_sumLost_1 rfl (by decide) rfl ?_
  exact z_pick [0, 1] rfl (h T G B hY)
theorem kX2_sumLost {l : Launch} {w : Nat → Nat} {nb : Nat} {Q : PM} {F A : MI}  (h : ZM l mX2_sumLost 1 w nb Q 2 [(0, .ref 7), (1, .int 0)] [] F A) : CM l mX2_sumLost 1 w nb [.ref 7] F A Q := CM.ofZ (by decide) (fun _ _ => rfl) (fun _ _ => Nat.le_of_ble_eq_true rfl) (vX2_sumLost_0  h)
set_option maxHeartbeats 4000000 in
set_option maxRecDepth 100000 in
theorem vX2_sumLost_2 {l : Launch} {w : Nat → Nat} {nb : Nat} {Q : PM} {x1 : Int32} {F A : MI}  (h : (((F 82 7) ≤ x1 → Q none F A) ∧ (¬ (F 82 7) ≤ x1 → ZM l mX2_sumLost 1 w nb Q 12 [(0, .ref 7), (1, .int x1), (2, .int 0)] [] F A))) : ZM l mX2_sumLost 1 w nb Q 2 [(0, .ref 7), (1, .int x1)] [] F A := by
  intro T G B hY
  refine z_iload_n dX2_sumLost_2 1 rfl rfl ?_
  refine z_aload_n dX2_sumLost_3 0 rfl rfl ?_
  refine z_geti' (k := 2) (fc := 82) (x := (F 82 7)) dX2_sumLost_4 ckX2 (by decide) fk_X2_18 rfl rfl (lat hY rfl) rfl ?_
  refine z_icmp_ge (tgt := 76) dX2_sumLost_7 (by decide) (fun hb => ?_) (fun hb => ?_)
  · have h := h.1 hb
    exact z_vretM dX2_sumLost_76 rfl h
  · have h := h.2 hb
    refine z_iconst (v := 0) dX2_sumLost_10 rfl ?_
    refine z_istore_n (lv' := [(0, .ref 7), (1, .int x1), (2, .int 0)]) dX2_sumLost_11 rfl (by decide) rfl ?_
    exact z_pick [0, 1, 2] rfl (h T G B hY)
set_option maxHeartbeats 4000000 in
set_option maxRecDepth 100000 in
theorem vX2_sumLost_12 {l : Launch} {w : Nat → Nat} {nb : Nat} {Q : PM} {x1 x2 : Int32} {F A : MI}  (h : (((F 82 7) ≤ x2 → ZM l mX2_sumLost 1 w nb Q 2 [(0, .ref 7), (1, .int (x1 + 1))] [] F A) ∧ (¬ (F 82 7) ≤ x2 → ZM l mX2_sumLost 1 w nb Q 22 [(0, .ref 7), (1, .int x1), (2, .int x2), (3, .int 0)] [] F A))) : ZM l mX2_sumLost 1 w nb Q 12 [(0, .ref 7), (1, .int x1), (2, .int x2)] [] F A := by
  intro T G B hY
  refine z_iload_n dX2_sumLost_12 2 rfl rfl ?_
  refine z_aload_n dX2_sumLost_13 0 rfl rfl ?_
  refine z_geti' (k := 2) (fc := 82) (x := (F 82 7)) dX2_sumLost_14 ckX2 (by decide) fk_X2_18 rfl rfl (lat hY rfl) rfl ?_
  refine z_icmp_ge (tgt := 70) dX2_sumLost_17 (by decide) (fun hb => ?_) (fun hb => ?_)
  · have h := h.1 hb
    refine z_iinc (v := (x1 + 1)) (lv' := [(0, .ref 7), (1, .int (x1 + 1)), (2, .int x2)]) dX2_sumLost_70 1 rfl rfl (by decide) rfl ?_
    refine z_goto (tgt := 2) dX2_sumLost_73 (by decide) ?_
    exact z_pick [0, 1] rfl (h T G B hY)
  · have h := h.2 hb
    refine z_iconst (v := 0) dX2_sumLost_20 rfl ?_
    refine z_istore_n (lv' := [(0, .ref 7), (1, .int x1), (2, .int x2), (3, .int 0)]) dX2_sumLost_21 rfl (by decide) rfl ?_
    exact z_pick [0, 1, 2, 3] rfl (h T G B hY)
set_option maxHeartbeats 4000000 in
set_option maxRecDepth 100000 in
theorem vX2_sumLost_22 {l : Launch} {w : Nat → Nat} {nb : Nat} {Q : PM} {x1 x2 x3 : Int32} {F A : MI}  (h : (((1 <<< (x2 &&& 31)) ≤ x3 → ZM l mX2_sumLost 1 w nb Q 12 [(0, .ref 7), (1, .int x1), (2, .int (x2 + 1))] [] F A) ∧ (¬ (1 <<< (x2 &&& 31)) ≤ x3 → (vp_in x1 8 ∧ (vp_in x1 8 ∧ (vp_in x3 256 ∧ (vp_in x2 8 ∧ (vp_in x1 8 ∧ (vp_in (x3 ||| (1 <<< (x2 &&& 31))) 256 ∧ ZM l mX2_sumLost 1 w nb Q 22 [(0, .ref 7), (1, .int x1), (2, .int x2), (3, .int (x3 + 1))] [] F (u2 A (20 + x1.toNatClampNeg) (x3 ||| (1 <<< (x2 &&& 31))).toNatClampNeg ((A (20 + x1.toNatClampNeg) x3.toNatClampNeg) + (A (11 + x2.toNatClampNeg) x1.toNatClampNeg)))))))))))) : ZM l mX2_sumLost 1 w nb Q 22 [(0, .ref 7), (1, .int x1), (2, .int x2), (3, .int x3)] [] F A := by
  intro T G B hY
  refine z_iload_n dX2_sumLost_22 3 rfl rfl ?_
  refine z_iconst (v := 1) dX2_sumLost_23 rfl ?_
  refine z_iload_n dX2_sumLost_24 2 rfl rfl ?_
  refine z_ishl dX2_sumLost_25 ?_
  refine z_icmp_ge (tgt := 64) dX2_sumLost_26 (by decide) (fun hb => ?_) (fun hb => ?_)
  · have h := h.1 hb
    refine z_iinc (v := (x2 + 1)) (lv' := [(0, .ref 7), (1, .int x1), (2, .int (x2 + 1)), (3, .int x3)]) dX2_sumLost_64 2 rfl rfl (by decide) rfl ?_
    refine z_goto (tgt := 12) dX2_sumLost_67 (by decide) ?_
    exact z_pick [0, 1, 2] rfl (h T G B hY)
  · have h := h.2 hb
    refine z_aload_n dX2_sumLost_29 0 rfl rfl ?_
    refine z_getr (k := 4) (fc := 84) (r := 19) dX2_sumLost_30 ckX2 (by decide) fk_X2_27 rfl rfl (lat hY rfl) (lgg hY rfl) (by decide) ?_
    refine z_iload_n dX2_sumLost_33 1 rfl rfl ?_
    have hin1 := h.1
    have h := h.2
    refine z_aald' (ci := 13) (n := 8) (r := (20 + x1.toNatClampNeg)) dX2_sumLost_34 (lat hY rfl) (by decide) (lln hY rfl) hin1 (lbb19 hY (vin hin1)) (by omega) ?_
    refine z_iload_n dX2_sumLost_35 3 rfl rfl ?_
    refine z_iconst (v := 1) dX2_sumLost_36 rfl ?_
    refine z_iload_n dX2_sumLost_37 2 rfl rfl ?_
    refine z_ishl dX2_sumLost_38 ?_
    refine z_ior dX2_sumLost_39 ?_
    refine z_aload_n dX2_sumLost_40 0 rfl rfl ?_
    refine z_getr (k := 4) (fc := 84) (r := 19) dX2_sumLost_41 ckX2 (by decide) fk_X2_27 rfl rfl (lat hY rfl) (lgg hY rfl) (by decide) ?_
    refine z_iload_n dX2_sumLost_44 1 rfl rfl ?_
    have hin2 := h.1
    have h := h.2
    refine z_aald' (ci := 13) (n := 8) (r := (20 + x1.toNatClampNeg)) dX2_sumLost_45 (lat hY rfl) (by decide) (lln hY rfl) hin2 (lbb19 hY (vin hin2)) (by omega) ?_
    refine z_iload_n dX2_sumLost_46 3 rfl rfl ?_
    have hin3 := h.1
    have h := h.2
    refine z_iald' (n := 256) (x := (A (20 + x1.toNatClampNeg) x3.toNatClampNeg)) dX2_sumLost_47 (lat20 hY (vin hin2)) (lln20 hY (vin hin2)) hin3 rfl ?_
    refine z_aload_n dX2_sumLost_48 0 rfl rfl ?_
    refine z_getr (k := 3) (fc := 83) (r := 10) dX2_sumLost_49 ckX2 (by decide) fk_X2_24 rfl rfl (lat hY rfl) (lgg hY rfl) (by decide) ?_
    refine z_iload_n dX2_sumLost_52 2 rfl rfl ?_
    have hin4 := h.1
    have h := h.2
    refine z_aald' (ci := 13) (n := 8) (r := (11 + x2.toNatClampNeg)) dX2_sumLost_53 (lat hY rfl) (by decide) (lln hY rfl) hin4 (lbb10 hY (vin hin4)) (by omega) ?_
    refine z_iload_n dX2_sumLost_54 1 rfl rfl ?_
    have hin5 := h.1
    have h := h.2
    refine z_iald' (n := 8) (x := (A (11 + x2.toNatClampNeg) x1.toNatClampNeg)) dX2_sumLost_55 (lat11 hY (vin hin4)) (lln11 hY (vin hin4)) hin5 rfl ?_
    refine z_iadd dX2_sumLost_56 ?_
    have hin6 := h.1
    have h := h.2
    refine z_iast' (n := 256) dX2_sumLost_57 (lat20 hY (vin hin1)) (lln20 hY (vin hin1)) hin6 ?_
    refine z_iinc (v := (x3 + 1)) (lv' := [(0, .ref 7), (1, .int x1), (2, .int x2), (3, .int (x3 + 1))]) dX2_sumLost_58 3 rfl rfl (by decide) rfl ?_
    refine z_goto (tgt := 22) dX2_sumLost_61 (by decide) ?_
    exact z_pick [0, 1, 2, 3] rfl (h T G B hY)
set_option maxHeartbeats 4000000 in
set_option maxRecDepth 100000 in
theorem vX2_swapsWithFirst_0 {l : Launch} {w : Nat → Nat} {nb : Nat} {Q : PM} {x1 x2 : Int32} {F A : MI}  (h : (vp_in x2 8 ∧ (vp_in x1 256 ∧ (vp_in (x1 &&& ((1 <<< (x2 &&& 31)) ^^^ (-1))) 256 ∧ Q (some (.int ((A (20 + x2.toNatClampNeg) x1.toNatClampNeg) + (A 28 (x1 &&& ((1 <<< (x2 &&& 31)) ^^^ (-1))).toNatClampNeg)))) F A)))) : ZM l mX2_swapsWithFirst 1 w nb Q 0 [(0, .ref 7), (1, .int x1), (2, .int x2)] [] F A := by
  intro T G B hY
  refine z_aload_n dX2_swapsWithFirst_0 0 rfl rfl ?_
  refine z_getr (k := 4) (fc := 84) (r := 19) dX2_swapsWithFirst_1 ckX2 (by decide) fk_X2_27 rfl rfl (lat hY rfl) (lgg hY rfl) (by decide) ?_
  refine z_iload_n dX2_swapsWithFirst_4 2 rfl rfl ?_
  have hin1 := h.1
  have h := h.2
  refine z_aald' (ci := 13) (n := 8) (r := (20 + x2.toNatClampNeg)) dX2_swapsWithFirst_5 (lat hY rfl) (by decide) (lln hY rfl) hin1 (lbb19 hY (vin hin1)) (by omega) ?_
  refine z_iload_n dX2_swapsWithFirst_6 1 rfl rfl ?_
  have hin2 := h.1
  have h := h.2
  refine z_iald' (n := 256) (x := (A (20 + x2.toNatClampNeg) x1.toNatClampNeg)) dX2_swapsWithFirst_7 (lat20 hY (vin hin1)) (lln20 hY (vin hin1)) hin2 rfl ?_
  refine z_aload_n dX2_swapsWithFirst_8 0 rfl rfl ?_
  refine z_getr (k := 5) (fc := 85) (r := 28) dX2_swapsWithFirst_9 ckX2 (by decide) fk_X2_30 rfl rfl (lat hY rfl) (lgg hY rfl) (by decide) ?_
  refine z_iload_n dX2_swapsWithFirst_12 1 rfl rfl ?_
  refine z_iconst (v := 1) dX2_swapsWithFirst_13 rfl ?_
  refine z_iload_n dX2_swapsWithFirst_14 2 rfl rfl ?_
  refine z_ishl dX2_swapsWithFirst_15 ?_
  refine z_iconst (v := (-1)) dX2_swapsWithFirst_16 rfl ?_
  refine z_ixor dX2_swapsWithFirst_17 ?_
  refine z_iand dX2_swapsWithFirst_18 ?_
  have hin3 := h.1
  have h := h.2
  refine z_iald' (n := 256) (x := (A 28 (x1 &&& ((1 <<< (x2 &&& 31)) ^^^ (-1))).toNatClampNeg)) dX2_swapsWithFirst_19 (lat hY rfl) (lln hY rfl) hin3 rfl ?_
  refine z_iadd dX2_swapsWithFirst_20 ?_
  exact z_iretM dX2_swapsWithFirst_21 rfl h
theorem kX2_swapsWithFirst {l : Launch} {w : Nat → Nat} {nb : Nat} {Q : PM} {x1 x2 : Int32} {F A : MI}  (h : (vp_in x2 8 ∧ (vp_in x1 256 ∧ (vp_in (x1 &&& ((1 <<< (x2 &&& 31)) ^^^ (-1))) 256 ∧ Q (some (.int ((A (20 + x2.toNatClampNeg) x1.toNatClampNeg) + (A 28 (x1 &&& ((1 <<< (x2 &&& 31)) ^^^ (-1))).toNatClampNeg)))) F A)))) : CM l mX2_swapsWithFirst 1 w nb [.ref 7, .int x1, .int x2] F A Q := CM.ofZ (by decide) (fun _ _ => rfl) (fun _ _ => Nat.le_of_ble_eq_true rfl) (vX2_swapsWithFirst_0  h)
set_option maxHeartbeats 4000000 in
set_option maxRecDepth 100000 in
theorem vX2_tallyOrder_0 {l : Launch} {w : Nat → Nat} {nb : Nat} {Q : PM} {x2 : Int32} {F A : MI} {c j : Nat} (hc : c < 6) (hj : j < 6) (h : ZM l mX2_tallyOrder 1 w nb Q 2 [(0, .ref 7), (1, .ref (38 + 14 * c + 5 + j)), (2, .int x2), (3, .int 0)] [] F A) : ZM l mX2_tallyOrder 1 w nb Q 0 [(0, .ref 7), (1, .ref (38 + 14 * c + 5 + j)), (2, .int x2)] [] F A := by
  intro T G B hY
  refine z_iconst (v := 0) dX2_tallyOrder_0 rfl ?_
  refine z_istore_n (lv' := [(0, .ref 7), (1, .ref (38 + 14 * c + 5 + j)), (2, .int x2), (3, .int 0)]) dX2_tallyOrder_1 rfl (by decide) rfl ?_
  exact z_pick [0, 1, 2, 3] rfl (h T G B hY)
theorem kX2_tallyOrder {l : Launch} {w : Nat → Nat} {nb : Nat} {Q : PM} {x2 : Int32} {F A : MI} {c j : Nat} (hc : c < 6) (hj : j < 6) (h : ZM l mX2_tallyOrder 1 w nb Q 2 [(0, .ref 7), (1, .ref (38 + 14 * c + 5 + j)), (2, .int x2), (3, .int 0)] [] F A) : CM l mX2_tallyOrder 1 w nb [.ref 7, .ref (38 + 14 * c + 5 + j), .int x2] F A Q := CM.ofZ (by decide) (fun _ _ => rfl) (fun _ _ => Nat.le_of_ble_eq_true rfl) (vX2_tallyOrder_0 hc hj h)
set_option maxHeartbeats 4000000 in
set_option maxRecDepth 100000 in
theorem vX2_tallyOrder_2 {l : Launch} {w : Nat → Nat} {nb : Nat} {Q : PM} {x2 x3 : Int32} {F A : MI} {c j : Nat} (hc : c < 6) (hj : j < 6) (h : ((x2 ≤ x3 → Q none F A) ∧ (¬ x2 ≤ x3 → (vp_in x3 8 ∧ (vp_in (A (38 + 14 * c + 5 + j) x3.toNatClampNeg) 20 ∧ ZM l mX2_tallyOrder 1 w nb Q 22 [(0, .ref 7), (1, .ref (38 + 14 * c + 5 + j)), (2, .int x2), (3, .int x3), (4, .int (A 9 (A (38 + 14 * c + 5 + j) x3.toNatClampNeg).toNatClampNeg)), (5, .int (x3 + 1))] [] F A))))) : ZM l mX2_tallyOrder 1 w nb Q 2 [(0, .ref 7), (1, .ref (38 + 14 * c + 5 + j)), (2, .int x2), (3, .int x3)] [] F A := by
  intro T G B hY
  refine z_iload_n dX2_tallyOrder_2 3 rfl rfl ?_
  refine z_iload_n dX2_tallyOrder_3 2 rfl rfl ?_
  refine z_icmp_ge (tgt := 77) dX2_tallyOrder_4 (by decide) (fun hb => ?_) (fun hb => ?_)
  · have h := h.1 hb
    exact z_vretM dX2_tallyOrder_77 rfl h
  · have h := h.2 hb
    refine z_aload_n dX2_tallyOrder_7 0 rfl rfl ?_
    refine z_getr (k := 1) (fc := 81) (r := 9) dX2_tallyOrder_8 ckX2 (by decide) fk_X2_15 rfl rfl (lat hY rfl) (lgg hY rfl) (by decide) ?_
    refine z_aload_n dX2_tallyOrder_11 1 rfl rfl ?_
    refine z_iload_n dX2_tallyOrder_12 3 rfl rfl ?_
    have hin1 := h.1
    have h := h.2
    refine z_iald' (n := 8) (x := (A (38 + 14 * c + 5 + j) x3.toNatClampNeg)) dX2_tallyOrder_13 (lat43 hY hc hj) (lln43 hY hc hj) hin1 rfl ?_
    have hin2 := h.1
    have h := h.2
    refine z_iald' (n := 20) (x := (A 9 (A (38 + 14 * c + 5 + j) x3.toNatClampNeg).toNatClampNeg)) dX2_tallyOrder_14 (lat hY rfl) (lln hY rfl) hin2 rfl ?_
    refine z_istore (lv' := [(0, .ref 7), (1, .ref (38 + 14 * c + 5 + j)), (2, .int x2), (3, .int x3), (4, .int (A 9 (A (38 + 14 * c + 5 + j) x3.toNatClampNeg).toNatClampNeg))]) dX2_tallyOrder_15 (by decide) rfl ?_
    refine z_iload_n dX2_tallyOrder_17 3 rfl rfl ?_
    refine z_iconst (v := 1) dX2_tallyOrder_18 rfl ?_
    refine z_iadd dX2_tallyOrder_19 ?_
    refine z_istore (lv' := [(0, .ref 7), (1, .ref (38 + 14 * c + 5 + j)), (2, .int x2), (3, .int x3), (4, .int (A 9 (A (38 + 14 * c + 5 + j) x3.toNatClampNeg).toNatClampNeg)), (5, .int (x3 + 1))]) dX2_tallyOrder_20 (by decide) rfl ?_
    exact z_pick [0, 1, 2, 3, 4, 5] rfl (h T G B hY)
set_option maxHeartbeats 4000000 in
set_option maxRecDepth 100000 in
theorem vX2_tallyOrder_22 {l : Launch} {w : Nat → Nat} {nb : Nat} {Q : PM} {x2 x3 x4 x5 : Int32} {F A : MI} {c j : Nat} (hc : c < 6) (hj : j < 6) (h : ((x2 ≤ x5 → ZM l mX2_tallyOrder 1 w nb Q 71 [(0, .ref 7), (1, .ref (38 + 14 * c + 5 + j)), (2, .int x2), (3, .int x3)] [] F A) ∧ (¬ x2 ≤ x5 → ((x4 = (-1) → ZM l mX2_tallyOrder 1 w nb Q 71 [(0, .ref 7), (1, .ref (38 + 14 * c + 5 + j)), (2, .int x2), (3, .int x3)] [] F A) ∧ (¬ x4 = (-1) → (vp_in x5 8 ∧ (vp_in (A (38 + 14 * c + 5 + j) x5.toNatClampNeg) 20 ∧ (((A 9 (A (38 + 14 * c + 5 + j) x5.toNatClampNeg).toNatClampNeg) = (-1) → ZM l mX2_tallyOrder 1 w nb Q 65 [(0, .ref 7), (1, .ref (38 + 14 * c + 5 + j)), (2, .int x2), (3, .int x3), (4, .int x4), (5, .int x5)] [] F A) ∧ (¬ (A 9 (A (38 + 14 * c + 5 + j) x5.toNatClampNeg).toNatClampNeg) = (-1) → (vp_in x4 8 ∧ (vp_in (A 9 (A (38 + 14 * c + 5 + j) x5.toNatClampNeg).toNatClampNeg) 8 ∧ (vp_in (A 9 (A (38 + 14 * c + 5 + j) x5.toNatClampNeg).toNatClampNeg) 8 ∧ ZM l mX2_tallyOrder 1 w nb Q 65 [(0, .ref 7), (1, .ref (38 + 14 * c + 5 + j)), (2, .int x2), (3, .int x3), (4, .int x4), (5, .int x5)] [] F (u2 A (11 + x4.toNatClampNeg) (A 9 (A (38 + 14 * c + 5 + j) x5.toNatClampNeg).toNatClampNeg).toNatClampNeg ((A (11 + x4.toNatClampNeg) (A 9 (A (38 + 14 * c + 5 + j) x5.toNatClampNeg).toNatClampNeg).toNatClampNeg) + 1)))))))))))))) : ZM l mX2_tallyOrder 1 w nb Q 22 [(0, .ref 7), (1, .ref (38 + 14 * c + 5 + j)), (2, .int x2), (3, .int x3), (4, .int x4), (5, .int x5)] [] F A := by
  intro T G B hY
  refine z_iload dX2_tallyOrder_22 5 rfl ?_
  refine z_iload_n dX2_tallyOrder_24 2 rfl rfl ?_
  refine z_icmp_ge (tgt := 71) dX2_tallyOrder_25 (by decide) (fun hb => ?_) (fun hb => ?_)
  · have h := h.1 hb
    exact z_pick [0, 1, 2, 3] rfl (h T G B hY)
  · have h := h.2 hb
    refine z_iload dX2_tallyOrder_28 4 rfl ?_
    refine z_iconst (v := (-1)) dX2_tallyOrder_30 rfl ?_
    refine z_icmp_eq (tgt := 71) dX2_tallyOrder_31 (by decide) (fun hb => ?_) (fun hb => ?_)
    · have h := h.1 hb
      exact z_pick [0, 1, 2, 3] rfl (h T G B hY)
    · have h := h.2 hb
      refine z_aload_n dX2_tallyOrder_34 0 rfl rfl ?_
      refine z_getr (k := 1) (fc := 81) (r := 9) dX2_tallyOrder_35 ckX2 (by decide) fk_X2_15 rfl rfl (lat hY rfl) (lgg hY rfl) (by decide) ?_
      refine z_aload_n dX2_tallyOrder_38 1 rfl rfl ?_
      refine z_iload dX2_tallyOrder_39 5 rfl ?_
      have hin1 := h.1
      have h := h.2
      refine z_iald' (n := 8) (x := (A (38 + 14 * c + 5 + j) x5.toNatClampNeg)) dX2_tallyOrder_41 (lat43 hY hc hj) (lln43 hY hc hj) hin1 rfl ?_
      have hin2 := h.1
      have h := h.2
      refine z_iald' (n := 20) (x := (A 9 (A (38 + 14 * c + 5 + j) x5.toNatClampNeg).toNatClampNeg)) dX2_tallyOrder_42 (lat hY rfl) (lln hY rfl) hin2 rfl ?_
      refine z_istore (lv' := [(0, .ref 7), (1, .ref (38 + 14 * c + 5 + j)), (2, .int x2), (3, .int x3), (4, .int x4), (5, .int x5), (6, .int (A 9 (A (38 + 14 * c + 5 + j) x5.toNatClampNeg).toNatClampNeg))]) dX2_tallyOrder_43 (by decide) rfl ?_
      refine z_iload dX2_tallyOrder_45 6 rfl ?_
      refine z_iconst (v := (-1)) dX2_tallyOrder_47 rfl ?_
      refine z_icmp_eq (tgt := 65) dX2_tallyOrder_48 (by decide) (fun hb => ?_) (fun hb => ?_)
      · have h := h.1 hb
        exact z_pick [0, 1, 2, 3, 4, 5] rfl (h T G B hY)
      · have h := h.2 hb
        refine z_aload_n dX2_tallyOrder_51 0 rfl rfl ?_
        refine z_getr (k := 3) (fc := 83) (r := 10) dX2_tallyOrder_52 ckX2 (by decide) fk_X2_24 rfl rfl (lat hY rfl) (lgg hY rfl) (by decide) ?_
        refine z_iload dX2_tallyOrder_55 4 rfl ?_
        have hin3 := h.1
        have h := h.2
        refine z_aald' (ci := 13) (n := 8) (r := (11 + x4.toNatClampNeg)) dX2_tallyOrder_57 (lat hY rfl) (by decide) (lln hY rfl) hin3 (lbb10 hY (vin hin3)) (by omega) ?_
        refine z_iload dX2_tallyOrder_58 6 rfl ?_
        refine z_dup2 dX2_tallyOrder_60 ?_
        have hin4 := h.1
        have h := h.2
        refine z_iald' (n := 8) (x := (A (11 + x4.toNatClampNeg) (A 9 (A (38 + 14 * c + 5 + j) x5.toNatClampNeg).toNatClampNeg).toNatClampNeg)) dX2_tallyOrder_61 (lat11 hY (vin hin3)) (lln11 hY (vin hin3)) hin4 rfl ?_
        refine z_iconst (v := 1) dX2_tallyOrder_62 rfl ?_
        refine z_iadd dX2_tallyOrder_63 ?_
        have hin5 := h.1
        have h := h.2
        refine z_iast' (n := 8) dX2_tallyOrder_64 (lat11 hY (vin hin3)) (lln11 hY (vin hin3)) hin5 ?_
        exact z_pick [0, 1, 2, 3, 4, 5] rfl (h T G B hY)
set_option maxHeartbeats 4000000 in
set_option maxRecDepth 100000 in
theorem vX2_tallyOrder_71 {l : Launch} {w : Nat → Nat} {nb : Nat} {Q : PM} {x2 x3 : Int32} {F A : MI} {c j : Nat} (hc : c < 6) (hj : j < 6) (h : ZM l mX2_tallyOrder 1 w nb Q 2 [(0, .ref 7), (1, .ref (38 + 14 * c + 5 + j)), (2, .int x2), (3, .int (x3 + 1))] [] F A) : ZM l mX2_tallyOrder 1 w nb Q 71 [(0, .ref 7), (1, .ref (38 + 14 * c + 5 + j)), (2, .int x2), (3, .int x3)] [] F A := by
  intro T G B hY
  refine z_iinc (v := (x3 + 1)) (lv' := [(0, .ref 7), (1, .ref (38 + 14 * c + 5 + j)), (2, .int x2), (3, .int (x3 + 1))]) dX2_tallyOrder_71 3 rfl rfl (by decide) rfl ?_
  refine z_goto (tgt := 2) dX2_tallyOrder_74 (by decide) ?_
  exact z_pick [0, 1, 2, 3] rfl (h T G B hY)
set_option maxHeartbeats 4000000 in
set_option maxRecDepth 100000 in
theorem vX2_tallyOrder_65 {l : Launch} {w : Nat → Nat} {nb : Nat} {Q : PM} {x2 x3 x4 x5 : Int32} {F A : MI} {c j : Nat} (hc : c < 6) (hj : j < 6) (h : ZM l mX2_tallyOrder 1 w nb Q 22 [(0, .ref 7), (1, .ref (38 + 14 * c + 5 + j)), (2, .int x2), (3, .int x3), (4, .int x4), (5, .int (x5 + 1))] [] F A) : ZM l mX2_tallyOrder 1 w nb Q 65 [(0, .ref 7), (1, .ref (38 + 14 * c + 5 + j)), (2, .int x2), (3, .int x3), (4, .int x4), (5, .int x5)] [] F A := by
  intro T G B hY
  refine z_iinc (v := (x5 + 1)) (lv' := [(0, .ref 7), (1, .ref (38 + 14 * c + 5 + j)), (2, .int x2), (3, .int x3), (4, .int x4), (5, .int (x5 + 1))]) dX2_tallyOrder_65 5 rfl rfl (by decide) rfl ?_
  refine z_goto (tgt := 22) dX2_tallyOrder_68 (by decide) ?_
  exact z_pick [0, 1, 2, 3, 4, 5] rfl (h T G B hY)
set_option maxHeartbeats 4000000 in
set_option maxRecDepth 100000 in
theorem vX4_canTake_0 {l : Launch} {w : Nat → Nat} {nb : Nat} {Q : PM} {x1 : Int32} {F A : MI} {c : Nat} (hc : c < 6) (h : ((8 ≤ (F 161 (38 + 14 * c)) → Q (some (.int 0)) F A) ∧ (¬ 8 ≤ (F 161 (38 + 14 * c)) → ((¬ (((F 160 (38 + 14 * c)) ||| (F 162 (38 + 14 * c))) &&& (1 <<< (x1 &&& 31))) = 0 → Q (some (.int 0)) F A) ∧ ((((F 160 (38 + 14 * c)) ||| (F 162 (38 + 14 * c))) &&& (1 <<< (x1 &&& 31))) = 0 → Q (some (.int 1)) F A))))) : ZM l mX4_canTake 1 w nb Q 0 [(0, .ref (38 + 14 * c)), (1, .int x1)] [] F A := by
  intro T G B hY
  refine z_aload_n dX4_canTake_0 0 rfl rfl ?_
  refine z_geti' (k := 1) (fc := 161) (x := (F 161 (38 + 14 * c))) dX4_canTake_1 ckX4 (by decide) fk_X4_15 rfl rfl (lat4 hY hc) rfl ?_
  refine z_bipush (v := 8) dX4_canTake_4 rfl ?_
  refine z_icmp_ge (tgt := 29) dX4_canTake_6 (by decide) (fun hb => ?_) (fun hb => ?_)
  · have h := h.1 hb
    refine z_iconst (v := 0) dX4_canTake_29 rfl ?_
    exact z_zretM dX4_canTake_30 rfl (by decide) h
  · have h := h.2 hb
    refine z_aload_n dX4_canTake_9 0 rfl rfl ?_
    refine z_geti' (k := 0) (fc := 160) (x := (F 160 (38 + 14 * c))) dX4_canTake_10 ckX4 (by decide) fk_X4_9 rfl rfl (lat4 hY hc) rfl ?_
    refine z_aload_n dX4_canTake_13 0 rfl rfl ?_
    refine z_geti' (k := 2) (fc := 162) (x := (F 162 (38 + 14 * c))) dX4_canTake_14 ckX4 (by decide) fk_X4_18 rfl rfl (lat4 hY hc) rfl ?_
    refine z_ior dX4_canTake_17 ?_
    refine z_iconst (v := 1) dX4_canTake_18 rfl ?_
    refine z_iload_n dX4_canTake_19 1 rfl rfl ?_
    refine z_ishl dX4_canTake_20 ?_
    refine z_iand dX4_canTake_21 ?_
    refine z_if_ne (tgt := 29) dX4_canTake_22 (by decide) (fun hb => ?_) (fun hb => ?_)
    · have h := h.1 hb
      refine z_iconst (v := 0) dX4_canTake_29 rfl ?_
      exact z_zretM dX4_canTake_30 rfl (by decide) h
    · have h := h.2 hb
      refine z_iconst (v := 1) dX4_canTake_25 rfl ?_
      refine z_goto (tgt := 30) dX4_canTake_26 (by decide) ?_
      exact z_zretM dX4_canTake_30 rfl (by decide) h
theorem kX4_canTake {l : Launch} {w : Nat → Nat} {nb : Nat} {Q : PM} {x1 : Int32} {F A : MI} {c : Nat} (hc : c < 6) (h : ((8 ≤ (F 161 (38 + 14 * c)) → Q (some (.int 0)) F A) ∧ (¬ 8 ≤ (F 161 (38 + 14 * c)) → ((¬ (((F 160 (38 + 14 * c)) ||| (F 162 (38 + 14 * c))) &&& (1 <<< (x1 &&& 31))) = 0 → Q (some (.int 0)) F A) ∧ ((((F 160 (38 + 14 * c)) ||| (F 162 (38 + 14 * c))) &&& (1 <<< (x1 &&& 31))) = 0 → Q (some (.int 1)) F A))))) : CM l mX4_canTake 1 w nb [.ref (38 + 14 * c), .int x1] F A Q := CM.ofZ (by decide) (fun _ _ => rfl) (fun _ _ => Nat.le_of_ble_eq_true rfl) (vX4_canTake_0 hc h)
set_option maxHeartbeats 4000000 in
set_option maxRecDepth 100000 in
theorem vX4_countOrders_0 {l : Launch} {w : Nat → Nat} {nb : Nat} {Q : PM} {F A : MI} {c : Nat} (hc : c < 6) (h : ZM l mX4_countOrders 1 w nb Q 4 [(0, .ref (38 + 14 * c)), (1, .int 0), (2, .int 0)] [] F A) : ZM l mX4_countOrders 1 w nb Q 0 [(0, .ref (38 + 14 * c))] [] F A := by
  intro T G B hY
  refine z_iconst (v := 0) dX4_countOrders_0 rfl ?_
  refine z_istore_n (lv' := [(0, .ref (38 + 14 * c)), (1, .int 0)]) dX4_countOrders_1 rfl (by decide) rfl ?_
  refine z_iconst (v := 0) dX4_countOrders_2 rfl ?_
  refine z_istore_n (lv' := [(0, .ref (38 + 14 * c)), (1, .int 0), (2, .int 0)]) dX4_countOrders_3 rfl (by decide) rfl ?_
  exact z_pick [0, 1, 2] rfl (h T G B hY)
theorem kX4_countOrders {l : Launch} {w : Nat → Nat} {nb : Nat} {Q : PM} {F A : MI} {c : Nat} (hc : c < 6) (h : ZM l mX4_countOrders 1 w nb Q 4 [(0, .ref (38 + 14 * c)), (1, .int 0), (2, .int 0)] [] F A) : CM l mX4_countOrders 1 w nb [.ref (38 + 14 * c)] F A Q := CM.ofZ (by decide) (fun _ _ => rfl) (fun _ _ => Nat.le_of_ble_eq_true rfl) (vX4_countOrders_0 hc h)
set_option maxHeartbeats 4000000 in
set_option maxRecDepth 100000 in
theorem vX4_countOrders_4 {l : Launch} {w : Nat → Nat} {nb : Nat} {Q : PM} {x1 x2 : Int32} {F A : MI} {c : Nat} (hc : c < 6) (h : ((6 ≤ x2 → Q (some (.int x1)) F A) ∧ (¬ 6 ≤ x2 → (vp_in x2 6 ∧ (((A (38 + 14 * c + 11) x2.toNatClampNeg) ≤ 0 → ZM l mX4_countOrders 1 w nb Q 22 [(0, .ref (38 + 14 * c)), (1, .int x1), (2, .int x2)] [] F A) ∧ (¬ (A (38 + 14 * c + 11) x2.toNatClampNeg) ≤ 0 → ZM l mX4_countOrders 1 w nb Q 22 [(0, .ref (38 + 14 * c)), (1, .int (x1 + 1)), (2, .int x2)] [] F A)))))) : ZM l mX4_countOrders 1 w nb Q 4 [(0, .ref (38 + 14 * c)), (1, .int x1), (2, .int x2)] [] F A := by
  intro T G B hY
  refine z_iload_n dX4_countOrders_4 2 rfl rfl ?_
  refine z_bipush (v := 6) dX4_countOrders_5 rfl ?_
  refine z_icmp_ge (tgt := 28) dX4_countOrders_7 (by decide) (fun hb => ?_) (fun hb => ?_)
  · have h := h.1 hb
    refine z_iload_n dX4_countOrders_28 1 rfl rfl ?_
    exact z_iretM dX4_countOrders_29 rfl h
  · have h := h.2 hb
    refine z_aload_n dX4_countOrders_10 0 rfl rfl ?_
    refine z_getr (k := 5) (fc := 165) (r := (38 + 14 * c + 11)) dX4_countOrders_11 ckX4 (by decide) fk_X4_33 rfl rfl (lat4 hY hc) (lggc hY 165 11 hc (by decide)) (by omega) ?_
    refine z_iload_n dX4_countOrders_14 2 rfl rfl ?_
    have hin1 := h.1
    have h := h.2
    refine z_iald' (n := 6) (x := (A (38 + 14 * c + 11) x2.toNatClampNeg)) dX4_countOrders_15 (latc hY hc 11 (by decide)) (llnc hY hc 11 (by decide)) hin1 rfl ?_
    refine z_if_le (tgt := 22) dX4_countOrders_16 (by decide) (fun hb => ?_) (fun hb => ?_)
    · have h := h.1 hb
      exact z_pick [0, 1, 2] rfl (h T G B hY)
    · have h := h.2 hb
      refine z_iinc (v := (x1 + 1)) (lv' := [(0, .ref (38 + 14 * c)), (1, .int (x1 + 1)), (2, .int x2)]) dX4_countOrders_19 1 rfl rfl (by decide) rfl ?_
      exact z_pick [0, 1, 2] rfl (h T G B hY)
set_option maxHeartbeats 4000000 in
set_option maxRecDepth 100000 in
theorem vX4_countOrders_22 {l : Launch} {w : Nat → Nat} {nb : Nat} {Q : PM} {x1 x2 : Int32} {F A : MI} {c : Nat} (hc : c < 6) (h : ZM l mX4_countOrders 1 w nb Q 4 [(0, .ref (38 + 14 * c)), (1, .int x1), (2, .int (x2 + 1))] [] F A) : ZM l mX4_countOrders 1 w nb Q 22 [(0, .ref (38 + 14 * c)), (1, .int x1), (2, .int x2)] [] F A := by
  intro T G B hY
  refine z_iinc (v := (x2 + 1)) (lv' := [(0, .ref (38 + 14 * c)), (1, .int x1), (2, .int (x2 + 1))]) dX4_countOrders_22 2 rfl rfl (by decide) rfl ?_
  refine z_goto (tgt := 4) dX4_countOrders_25 (by decide) ?_
  exact z_pick [0, 1, 2] rfl (h T G B hY)
set_option maxHeartbeats 4000000 in
set_option maxRecDepth 100000 in
theorem vX4_holds_0 {l : Launch} {w : Nat → Nat} {nb : Nat} {Q : PM} {x1 : Int32} {F A : MI} {c : Nat} (hc : c < 6) (h : ((((F 160 (38 + 14 * c)) &&& (1 <<< (x1 &&& 31))) = 0 → Q (some (.int 0)) F A) ∧ (¬ ((F 160 (38 + 14 * c)) &&& (1 <<< (x1 &&& 31))) = 0 → Q (some (.int 1)) F A))) : ZM l mX4_holds 1 w nb Q 0 [(0, .ref (38 + 14 * c)), (1, .int x1)] [] F A := by
  intro T G B hY
  refine z_aload_n dX4_holds_0 0 rfl rfl ?_
  refine z_geti' (k := 0) (fc := 160) (x := (F 160 (38 + 14 * c))) dX4_holds_1 ckX4 (by decide) fk_X4_9 rfl rfl (lat4 hY hc) rfl ?_
  refine z_iconst (v := 1) dX4_holds_4 rfl ?_
  refine z_iload_n dX4_holds_5 1 rfl rfl ?_
  refine z_ishl dX4_holds_6 ?_
  refine z_iand dX4_holds_7 ?_
  refine z_if_eq (tgt := 15) dX4_holds_8 (by decide) (fun hb => ?_) (fun hb => ?_)
  · have h := h.1 hb
    refine z_iconst (v := 0) dX4_holds_15 rfl ?_
    exact z_zretM dX4_holds_16 rfl (by decide) h
  · have h := h.2 hb
    refine z_iconst (v := 1) dX4_holds_11 rfl ?_
    refine z_goto (tgt := 16) dX4_holds_12 (by decide) ?_
    exact z_zretM dX4_holds_16 rfl (by decide) h
theorem kX4_holds {l : Launch} {w : Nat → Nat} {nb : Nat} {Q : PM} {x1 : Int32} {F A : MI} {c : Nat} (hc : c < 6) (h : ((((F 160 (38 + 14 * c)) &&& (1 <<< (x1 &&& 31))) = 0 → Q (some (.int 0)) F A) ∧ (¬ ((F 160 (38 + 14 * c)) &&& (1 <<< (x1 &&& 31))) = 0 → Q (some (.int 1)) F A))) : CM l mX4_holds 1 w nb [.ref (38 + 14 * c), .int x1] F A Q := CM.ofZ (by decide) (fun _ _ => rfl) (fun _ _ => Nat.le_of_ble_eq_true rfl) (vX4_holds_0 hc h)
set_option maxHeartbeats 4000000 in
set_option maxRecDepth 100000 in
theorem vX4_placeOf_0 {l : Launch} {w : Nat → Nat} {nb : Nat} {Q : PM} {x1 : Int32} {F A : MI} {c : Nat} (hc : c < 6) (h : ZM l mX4_placeOf 1 w nb Q 2 [(0, .ref (38 + 14 * c)), (1, .int x1), (2, .int 0)] [] F A) : ZM l mX4_placeOf 1 w nb Q 0 [(0, .ref (38 + 14 * c)), (1, .int x1)] [] F A := by
  intro T G B hY
  refine z_iconst (v := 0) dX4_placeOf_0 rfl ?_
  refine z_istore_n (lv' := [(0, .ref (38 + 14 * c)), (1, .int x1), (2, .int 0)]) dX4_placeOf_1 rfl (by decide) rfl ?_
  exact z_pick [0, 1, 2] rfl (h T G B hY)
theorem kX4_placeOf {l : Launch} {w : Nat → Nat} {nb : Nat} {Q : PM} {x1 : Int32} {F A : MI} {c : Nat} (hc : c < 6) (h : ZM l mX4_placeOf 1 w nb Q 2 [(0, .ref (38 + 14 * c)), (1, .int x1), (2, .int 0)] [] F A) : CM l mX4_placeOf 1 w nb [.ref (38 + 14 * c), .int x1] F A Q := CM.ofZ (by decide) (fun _ _ => rfl) (fun _ _ => Nat.le_of_ble_eq_true rfl) (vX4_placeOf_0 hc h)
set_option maxHeartbeats 4000000 in
set_option maxRecDepth 100000 in
theorem vX4_placeOf_2 {l : Launch} {w : Nat → Nat} {nb : Nat} {Q : PM} {x1 x2 : Int32} {F A : MI} {c : Nat} (hc : c < 6) (h : (((F 161 (38 + 14 * c)) ≤ x2 → Q (some (.int (-1))) F A) ∧ (¬ (F 161 (38 + 14 * c)) ≤ x2 → (vp_in x2 8 ∧ ((¬ (A (38 + 14 * c + 12) x2.toNatClampNeg) = x1 → ZM l mX4_placeOf 1 w nb Q 2 [(0, .ref (38 + 14 * c)), (1, .int x1), (2, .int (x2 + 1))] [] F A) ∧ ((A (38 + 14 * c + 12) x2.toNatClampNeg) = x1 → Q (some (.int (x2 + 1))) F A)))))) : ZM l mX4_placeOf 1 w nb Q 2 [(0, .ref (38 + 14 * c)), (1, .int x1), (2, .int x2)] [] F A := by
  intro T G B hY
  refine z_iload_n dX4_placeOf_2 2 rfl rfl ?_
  refine z_aload_n dX4_placeOf_3 0 rfl rfl ?_
  refine z_geti' (k := 1) (fc := 161) (x := (F 161 (38 + 14 * c))) dX4_placeOf_4 ckX4 (by decide) fk_X4_15 rfl rfl (lat4 hY hc) rfl ?_
  refine z_icmp_ge (tgt := 30) dX4_placeOf_7 (by decide) (fun hb => ?_) (fun hb => ?_)
  · have h := h.1 hb
    refine z_iconst (v := (-1)) dX4_placeOf_30 rfl ?_
    exact z_iretM dX4_placeOf_31 rfl h
  · have h := h.2 hb
    refine z_aload_n dX4_placeOf_10 0 rfl rfl ?_
    refine z_getr (k := 6) (fc := 166) (r := (38 + 14 * c + 12)) dX4_placeOf_11 ckX4 (by decide) fk_X4_37 rfl rfl (lat4 hY hc) (lggc hY 166 12 hc (by decide)) (by omega) ?_
    refine z_iload_n dX4_placeOf_14 2 rfl rfl ?_
    have hin1 := h.1
    have h := h.2
    refine z_iald' (n := 8) (x := (A (38 + 14 * c + 12) x2.toNatClampNeg)) dX4_placeOf_15 (latc hY hc 12 (by decide)) (llnc hY hc 12 (by decide)) hin1 rfl ?_
    refine z_iload_n dX4_placeOf_16 1 rfl rfl ?_
    refine z_icmp_ne (tgt := 24) dX4_placeOf_17 (by decide) (fun hb => ?_) (fun hb => ?_)
    · have h := h.1 hb
      refine z_iinc (v := (x2 + 1)) (lv' := [(0, .ref (38 + 14 * c)), (1, .int x1), (2, .int (x2 + 1))]) dX4_placeOf_24 2 rfl rfl (by decide) rfl ?_
      refine z_goto (tgt := 2) dX4_placeOf_27 (by decide) ?_
      exact z_pick [0, 1, 2] rfl (h T G B hY)
    · have h := h.2 hb
      refine z_iload_n dX4_placeOf_20 2 rfl rfl ?_
      refine z_iconst (v := 1) dX4_placeOf_21 rfl ?_
      refine z_iadd dX4_placeOf_22 ?_
      exact z_iretM dX4_placeOf_23 rfl h
set_option maxHeartbeats 4000000 in
set_option maxRecDepth 100000 in
theorem vX4_putOut_0 {l : Launch} {w : Nat → Nat} {nb : Nat} {Q : PM} {x1 : Int32} {F A : MI} {c : Nat} (hc : c < 6) (h : Q none (u2 (u2 (u2 F 160 (38 + 14 * c) ((F 160 (38 + 14 * c)) &&& ((1 <<< (x1 &&& 31)) ^^^ (-1)))) 162 (38 + 14 * c) ((F 162 (38 + 14 * c)) ||| (1 <<< (x1 &&& 31)))) 161 (38 + 14 * c) ((F 161 (38 + 14 * c)) - 1)) A) : ZM l mX4_putOut 1 w nb Q 0 [(0, .ref (38 + 14 * c)), (1, .int x1)] [] F A := by
  intro T G B hY
  refine z_aload_n dX4_putOut_0 0 rfl rfl ?_
  refine z_dup dX4_putOut_1 ?_
  refine z_geti' (k := 0) (fc := 160) (x := (F 160 (38 + 14 * c))) dX4_putOut_2 ckX4 (by decide) fk_X4_9 rfl rfl (lat4 hY hc) rfl ?_
  refine z_iconst (v := 1) dX4_putOut_5 rfl ?_
  refine z_iload_n dX4_putOut_6 1 rfl rfl ?_
  refine z_ishl dX4_putOut_7 ?_
  refine z_iconst (v := (-1)) dX4_putOut_8 rfl ?_
  refine z_ixor dX4_putOut_9 ?_
  refine z_iand dX4_putOut_10 ?_
  refine z_puti (k := 0) (fc := 160) dX4_putOut_11 ckX4 (by decide) fk_X4_9 rfl rfl rfl (lat4 hY hc) ?_
  refine z_aload_n dX4_putOut_14 0 rfl rfl ?_
  refine z_dup dX4_putOut_15 ?_
  refine z_geti' (k := 2) (fc := 162) (x := (F 162 (38 + 14 * c))) dX4_putOut_16 ckX4 (by decide) fk_X4_18 rfl rfl (lat4 hY hc) ((u2_n1 (by decide)).trans rfl) ?_
  refine z_iconst (v := 1) dX4_putOut_19 rfl ?_
  refine z_iload_n dX4_putOut_20 1 rfl rfl ?_
  refine z_ishl dX4_putOut_21 ?_
  refine z_ior dX4_putOut_22 ?_
  refine z_puti (k := 2) (fc := 162) dX4_putOut_23 ckX4 (by decide) fk_X4_18 rfl rfl rfl (lat4 hY hc) ?_
  refine z_aload_n dX4_putOut_26 0 rfl rfl ?_
  refine z_dup dX4_putOut_27 ?_
  refine z_geti' (k := 1) (fc := 161) (x := (F 161 (38 + 14 * c))) dX4_putOut_28 ckX4 (by decide) fk_X4_15 rfl rfl (lat4 hY hc) ((u2_n1 (by decide)).trans ((u2_n1 (by decide)).trans rfl)) ?_
  refine z_iconst (v := 1) dX4_putOut_31 rfl ?_
  refine z_isub dX4_putOut_32 ?_
  refine z_puti (k := 1) (fc := 161) dX4_putOut_33 ckX4 (by decide) fk_X4_15 rfl rfl rfl (lat4 hY hc) ?_
  exact z_vretM dX4_putOut_36 rfl h
theorem kX4_putOut {l : Launch} {w : Nat → Nat} {nb : Nat} {Q : PM} {x1 : Int32} {F A : MI} {c : Nat} (hc : c < 6) (h : Q none (u2 (u2 (u2 F 160 (38 + 14 * c) ((F 160 (38 + 14 * c)) &&& ((1 <<< (x1 &&& 31)) ^^^ (-1)))) 162 (38 + 14 * c) ((F 162 (38 + 14 * c)) ||| (1 <<< (x1 &&& 31)))) 161 (38 + 14 * c) ((F 161 (38 + 14 * c)) - 1)) A) : CM l mX4_putOut 1 w nb [.ref (38 + 14 * c), .int x1] F A Q := CM.ofZ (by decide) (fun _ _ => rfl) (fun _ _ => Nat.le_of_ble_eq_true rfl) (vX4_putOut_0 hc h)
set_option maxHeartbeats 4000000 in
set_option maxRecDepth 100000 in
theorem vX5_append_0 {l : Launch} {w : Nat → Nat} {nb : Nat} {Q : PM} {x1 : Int32} {F A : MI}  (h : ZM l mX5_append 1 w nb Q 3 [(0, .ref 2), (1, .int x1), (2, .int 24)] [] F A) : ZM l mX5_append 1 w nb Q 0 [(0, .ref 2), (1, .int x1)] [] F A := by
  intro T G B hY
  refine z_bipush (v := 24) dX5_append_0 rfl ?_
  refine z_istore_n (lv' := [(0, .ref 2), (1, .int x1), (2, .int 24)]) dX5_append_2 rfl (by decide) rfl ?_
  exact z_pick [0, 1, 2] rfl (h T G B hY)
theorem kX5_append {l : Launch} {w : Nat → Nat} {nb : Nat} {Q : PM} {x1 : Int32} {F A : MI}  (h : ZM l mX5_append 1 w nb Q 3 [(0, .ref 2), (1, .int x1), (2, .int 24)] [] F A) : CM l mX5_append 1 w nb [.ref 2, .int x1] F A Q := CM.ofZ (by decide) (fun _ _ => rfl) (fun _ _ => Nat.le_of_ble_eq_true rfl) (vX5_append_0  h)
set_option maxHeartbeats 4000000 in
set_option maxRecDepth 100000 in
theorem vX5_append_3 {l : Launch} {w : Nat → Nat} {nb : Nat} {Q : PM} {x1 x2 : Int32} {F A : MI}  (h : ((x2 < 0 → Q none F A) ∧ (¬ x2 < 0 → ((80 ≤ (F 201 2) → Q none F A) ∧ (¬ 80 ≤ (F 201 2) → (vp_in (F 201 2) 80 ∧ ZM l mX5_append 1 w nb Q 3 [(0, .ref 2), (1, .int x1), (2, .int (x2 + (-8)))] [] (u2 F 201 2 ((F 201 2) + 1)) (u2 A 3 (F 201 2).toNatClampNeg (((x1.toUInt32 >>> ((x2 : Int32).toUInt32 &&& Int32.toUInt32 31)).toInt32) &&& 255)))))))) : ZM l mX5_append 1 w nb Q 3 [(0, .ref 2), (1, .int x1), (2, .int x2)] [] F A := by
  intro T G B hY
  refine z_iload_n dX5_append_3 2 rfl rfl ?_
  refine z_if_lt (tgt := 48) dX5_append_4 (by decide) (fun hb => ?_) (fun hb => ?_)
  · have h := h.1 hb
    exact z_vretM dX5_append_48 rfl h
  · have h := h.2 hb
    refine z_aload_n dX5_append_7 0 rfl rfl ?_
    refine z_geti' (k := 1) (fc := 201) (x := (F 201 2)) dX5_append_8 ckX5 (by decide) fk_X5_15 rfl rfl (lat hY rfl) rfl ?_
    refine z_bipush (v := 80) dX5_append_11 rfl ?_
    refine z_icmp_ge (tgt := 48) dX5_append_13 (by decide) (fun hb => ?_) (fun hb => ?_)
    · have h := h.1 hb
      exact z_vretM dX5_append_48 rfl h
    · have h := h.2 hb
      refine z_aload_n dX5_append_16 0 rfl rfl ?_
      refine z_getr (k := 0) (fc := 200) (r := 3) dX5_append_17 ckX5 (by decide) fk_X5_9 rfl rfl (lat hY rfl) (lgg hY rfl) (by decide) ?_
      refine z_aload_n dX5_append_20 0 rfl rfl ?_
      refine z_geti' (k := 1) (fc := 201) (x := (F 201 2)) dX5_append_21 ckX5 (by decide) fk_X5_15 rfl rfl (lat hY rfl) rfl ?_
      refine z_iload_n dX5_append_24 1 rfl rfl ?_
      refine z_iload_n dX5_append_25 2 rfl rfl ?_
      refine z_iushr dX5_append_26 ?_
      refine z_sipush (v := 255) dX5_append_27 rfl ?_
      refine z_iand dX5_append_30 ?_
      have hin1 := h.1
      have h := h.2
      refine z_iast' (n := 80) dX5_append_31 (lat hY rfl) (lln hY rfl) hin1 ?_
      refine z_aload_n dX5_append_32 0 rfl rfl ?_
      refine z_dup dX5_append_33 ?_
      refine z_geti' (k := 1) (fc := 201) (x := (F 201 2)) dX5_append_34 ckX5 (by decide) fk_X5_15 rfl rfl (lat hY rfl) rfl ?_
      refine z_iconst (v := 1) dX5_append_37 rfl ?_
      refine z_iadd dX5_append_38 ?_
      refine z_puti (k := 1) (fc := 201) dX5_append_39 ckX5 (by decide) fk_X5_15 rfl rfl rfl (lat hY rfl) ?_
      refine z_iinc (v := (x2 + (-8))) (lv' := [(0, .ref 2), (1, .int x1), (2, .int (x2 + (-8)))]) dX5_append_42 2 rfl rfl (by decide) rfl ?_
      refine z_goto (tgt := 3) dX5_append_45 (by decide) ?_
      exact z_pick [0, 1, 2] rfl (h T G B hY)
set_option maxHeartbeats 4000000 in
set_option maxRecDepth 100000 in
theorem vX5_faultAt_0 {l : Launch} {w : Nat → Nat} {nb : Nat} {Q : PM} {x1 x2 : Int32} {F A : MI}  (h : Q (some (.int ((100 * x1) + x2))) F A) : ZM l mX5_faultAt 1 w nb Q 0 [(0, .ref 2), (1, .int x1), (2, .int x2)] [] F A := by
  intro T G B hY
  refine z_bipush (v := 100) dX5_faultAt_0 rfl ?_
  refine z_iload_n dX5_faultAt_2 1 rfl rfl ?_
  refine z_imul dX5_faultAt_3 ?_
  refine z_iload_n dX5_faultAt_4 2 rfl rfl ?_
  refine z_iadd dX5_faultAt_5 ?_
  exact z_iretM dX5_faultAt_6 rfl h
theorem kX5_faultAt {l : Launch} {w : Nat → Nat} {nb : Nat} {Q : PM} {x1 x2 : Int32} {F A : MI}  (h : Q (some (.int ((100 * x1) + x2))) F A) : CM l mX5_faultAt 1 w nb [.ref 2, .int x1, .int x2] F A Q := CM.ofZ (by decide) (fun _ _ => rfl) (fun _ _ => Nat.le_of_ble_eq_true rfl) (vX5_faultAt_0  h)
set_option maxHeartbeats 4000000 in
set_option maxRecDepth 100000 in
theorem vX5_has_0 {l : Launch} {w : Nat → Nat} {nb : Nat} {Q : PM} {x1 : Int32} {F A : MI}  (h : ((x1 < 0 → Q (some (.int 0)) F A) ∧ (¬ x1 < 0 → (((F 201 2) < x1 → Q (some (.int 0)) F A) ∧ (¬ (F 201 2) < x1 → Q (some (.int 1)) F A))))) : ZM l mX5_has 1 w nb Q 0 [(0, .ref 2), (1, .int x1)] [] F A := by
  intro T G B hY
  refine z_iload_n dX5_has_0 1 rfl rfl ?_
  refine z_if_lt (tgt := 16) dX5_has_1 (by decide) (fun hb => ?_) (fun hb => ?_)
  · have h := h.1 hb
    refine z_iconst (v := 0) dX5_has_16 rfl ?_
    exact z_zretM dX5_has_17 rfl (by decide) h
  · have h := h.2 hb
    refine z_iload_n dX5_has_4 1 rfl rfl ?_
    refine z_aload_n dX5_has_5 0 rfl rfl ?_
    refine z_geti' (k := 1) (fc := 201) (x := (F 201 2)) dX5_has_6 ckX5 (by decide) fk_X5_15 rfl rfl (lat hY rfl) rfl ?_
    refine z_icmp_gt (tgt := 16) dX5_has_9 (by decide) (fun hb => ?_) (fun hb => ?_)
    · have h := h.1 hb
      refine z_iconst (v := 0) dX5_has_16 rfl ?_
      exact z_zretM dX5_has_17 rfl (by decide) h
    · have h := h.2 hb
      refine z_iconst (v := 1) dX5_has_12 rfl ?_
      refine z_goto (tgt := 17) dX5_has_13 (by decide) ?_
      exact z_zretM dX5_has_17 rfl (by decide) h
theorem kX5_has {l : Launch} {w : Nat → Nat} {nb : Nat} {Q : PM} {x1 : Int32} {F A : MI}  (h : ((x1 < 0 → Q (some (.int 0)) F A) ∧ (¬ x1 < 0 → (((F 201 2) < x1 → Q (some (.int 0)) F A) ∧ (¬ (F 201 2) < x1 → Q (some (.int 1)) F A))))) : CM l mX5_has 1 w nb [.ref 2, .int x1] F A Q := CM.ofZ (by decide) (fun _ _ => rfl) (fun _ _ => Nat.le_of_ble_eq_true rfl) (vX5_has_0  h)
set_option maxHeartbeats 4000000 in
set_option maxRecDepth 100000 in
theorem vX5_hasRoom_0 {l : Launch} {w : Nat → Nat} {nb : Nat} {Q : PM} {F A : MI}  (h : ((80 < ((F 201 2) + 20) → Q (some (.int 0)) F A) ∧ (¬ 80 < ((F 201 2) + 20) → Q (some (.int 1)) F A))) : ZM l mX5_hasRoom 1 w nb Q 0 [(0, .ref 2)] [] F A := by
  intro T G B hY
  refine z_aload_n dX5_hasRoom_0 0 rfl rfl ?_
  refine z_geti' (k := 1) (fc := 201) (x := (F 201 2)) dX5_hasRoom_1 ckX5 (by decide) fk_X5_15 rfl rfl (lat hY rfl) rfl ?_
  refine z_bipush (v := 20) dX5_hasRoom_4 rfl ?_
  refine z_iadd dX5_hasRoom_6 ?_
  refine z_bipush (v := 80) dX5_hasRoom_7 rfl ?_
  refine z_icmp_gt (tgt := 16) dX5_hasRoom_9 (by decide) (fun hb => ?_) (fun hb => ?_)
  · have h := h.1 hb
    refine z_iconst (v := 0) dX5_hasRoom_16 rfl ?_
    exact z_zretM dX5_hasRoom_17 rfl (by decide) h
  · have h := h.2 hb
    refine z_iconst (v := 1) dX5_hasRoom_12 rfl ?_
    refine z_goto (tgt := 17) dX5_hasRoom_13 (by decide) ?_
    exact z_zretM dX5_hasRoom_17 rfl (by decide) h
theorem kX5_hasRoom {l : Launch} {w : Nat → Nat} {nb : Nat} {Q : PM} {F A : MI}  (h : ((80 < ((F 201 2) + 20) → Q (some (.int 0)) F A) ∧ (¬ 80 < ((F 201 2) + 20) → Q (some (.int 1)) F A))) : CM l mX5_hasRoom 1 w nb [.ref 2] F A Q := CM.ofZ (by decide) (fun _ _ => rfl) (fun _ _ => Nat.le_of_ble_eq_true rfl) (vX5_hasRoom_0  h)
set_option maxHeartbeats 4000000 in
set_option maxRecDepth 100000 in
theorem vX5_isAtEnd_0 {l : Launch} {w : Nat → Nat} {nb : Nat} {Q : PM} {F A : MI}  (h : (((F 203 2) < (F 202 2) → Q (some (.int 0)) F A) ∧ (¬ (F 203 2) < (F 202 2) → Q (some (.int 1)) F A))) : ZM l mX5_isAtEnd 1 w nb Q 0 [(0, .ref 2)] [] F A := by
  intro T G B hY
  refine z_aload_n dX5_isAtEnd_0 0 rfl rfl ?_
  refine z_geti' (k := 3) (fc := 203) (x := (F 203 2)) dX5_isAtEnd_1 ckX5 (by decide) fk_X5_22 rfl rfl (lat hY rfl) rfl ?_
  refine z_aload_n dX5_isAtEnd_4 0 rfl rfl ?_
  refine z_geti' (k := 2) (fc := 202) (x := (F 202 2)) dX5_isAtEnd_5 ckX5 (by decide) fk_X5_19 rfl rfl (lat hY rfl) rfl ?_
  refine z_icmp_lt (tgt := 15) dX5_isAtEnd_8 (by decide) (fun hb => ?_) (fun hb => ?_)
  · have h := h.1 hb
    refine z_iconst (v := 0) dX5_isAtEnd_15 rfl ?_
    exact z_zretM dX5_isAtEnd_16 rfl (by decide) h
  · have h := h.2 hb
    refine z_iconst (v := 1) dX5_isAtEnd_11 rfl ?_
    refine z_goto (tgt := 16) dX5_isAtEnd_12 (by decide) ?_
    exact z_zretM dX5_isAtEnd_16 rfl (by decide) h
theorem kX5_isAtEnd {l : Launch} {w : Nat → Nat} {nb : Nat} {Q : PM} {F A : MI}  (h : (((F 203 2) < (F 202 2) → Q (some (.int 0)) F A) ∧ (¬ (F 203 2) < (F 202 2) → Q (some (.int 1)) F A))) : CM l mX5_isAtEnd 1 w nb [.ref 2] F A Q := CM.ofZ (by decide) (fun _ _ => rfl) (fun _ _ => Nat.le_of_ble_eq_true rfl) (vX5_isAtEnd_0  h)
set_option maxHeartbeats 4000000 in
set_option maxRecDepth 100000 in
theorem vX5_length_0 {l : Launch} {w : Nat → Nat} {nb : Nat} {Q : PM} {F A : MI}  (h : Q (some (.int (F 201 2))) F A) : ZM l mX5_length 1 w nb Q 0 [(0, .ref 2)] [] F A := by
  intro T G B hY
  refine z_aload_n dX5_length_0 0 rfl rfl ?_
  refine z_geti' (k := 1) (fc := 201) (x := (F 201 2)) dX5_length_1 ckX5 (by decide) fk_X5_15 rfl rfl (lat hY rfl) rfl ?_
  exact z_iretM dX5_length_4 rfl h
theorem kX5_length {l : Launch} {w : Nat → Nat} {nb : Nat} {Q : PM} {F A : MI}  (h : Q (some (.int (F 201 2))) F A) : CM l mX5_length 1 w nb [.ref 2] F A Q := CM.ofZ (by decide) (fun _ _ => rfl) (fun _ _ => Nat.le_of_ble_eq_true rfl) (vX5_length_0  h)
set_option maxHeartbeats 4000000 in
set_option maxRecDepth 100000 in
theorem vX5_peek_0 {l : Launch} {w : Nat → Nat} {nb : Nat} {Q : PM} {F A : MI}  (h : (((F 202 2) ≤ (F 203 2) → Q (some (.int (-1))) F A) ∧ (¬ (F 202 2) ≤ (F 203 2) → (vp_in (F 203 2) 80 ∧ Q (some (.int (A 3 (F 203 2).toNatClampNeg))) F A)))) : ZM l mX5_peek 1 w nb Q 0 [(0, .ref 2)] [] F A := by
  intro T G B hY
  refine z_aload_n dX5_peek_0 0 rfl rfl ?_
  refine z_geti' (k := 3) (fc := 203) (x := (F 203 2)) dX5_peek_1 ckX5 (by decide) fk_X5_22 rfl rfl (lat hY rfl) rfl ?_
  refine z_aload_n dX5_peek_4 0 rfl rfl ?_
  refine z_geti' (k := 2) (fc := 202) (x := (F 202 2)) dX5_peek_5 ckX5 (by decide) fk_X5_19 rfl rfl (lat hY rfl) rfl ?_
  refine z_icmp_ge (tgt := 23) dX5_peek_8 (by decide) (fun hb => ?_) (fun hb => ?_)
  · have h := h.1 hb
    refine z_iconst (v := (-1)) dX5_peek_23 rfl ?_
    exact z_iretM dX5_peek_24 rfl h
  · have h := h.2 hb
    refine z_aload_n dX5_peek_11 0 rfl rfl ?_
    refine z_getr (k := 0) (fc := 200) (r := 3) dX5_peek_12 ckX5 (by decide) fk_X5_9 rfl rfl (lat hY rfl) (lgg hY rfl) (by decide) ?_
    refine z_aload_n dX5_peek_15 0 rfl rfl ?_
    refine z_geti' (k := 3) (fc := 203) (x := (F 203 2)) dX5_peek_16 ckX5 (by decide) fk_X5_22 rfl rfl (lat hY rfl) rfl ?_
    have hin1 := h.1
    have h := h.2
    refine z_iald' (n := 80) (x := (A 3 (F 203 2).toNatClampNeg)) dX5_peek_19 (lat hY rfl) (lln hY rfl) hin1 rfl ?_
    refine z_goto (tgt := 24) dX5_peek_20 (by decide) ?_
    exact z_iretM dX5_peek_24 rfl h
theorem kX5_peek {l : Launch} {w : Nat → Nat} {nb : Nat} {Q : PM} {F A : MI}  (h : (((F 202 2) ≤ (F 203 2) → Q (some (.int (-1))) F A) ∧ (¬ (F 202 2) ≤ (F 203 2) → (vp_in (F 203 2) 80 ∧ Q (some (.int (A 3 (F 203 2).toNatClampNeg))) F A)))) : CM l mX5_peek 1 w nb [.ref 2] F A Q := CM.ofZ (by decide) (fun _ _ => rfl) (fun _ _ => Nat.le_of_ble_eq_true rfl) (vX5_peek_0  h)
set_option maxHeartbeats 4000000 in
set_option maxRecDepth 100000 in
theorem vX5_place_0 {l : Launch} {w : Nat → Nat} {nb : Nat} {Q : PM} {F A : MI}  (h : Q (some (.int (F 203 2))) F A) : ZM l mX5_place 1 w nb Q 0 [(0, .ref 2)] [] F A := by
  intro T G B hY
  refine z_aload_n dX5_place_0 0 rfl rfl ?_
  refine z_geti' (k := 3) (fc := 203) (x := (F 203 2)) dX5_place_1 ckX5 (by decide) fk_X5_22 rfl rfl (lat hY rfl) rfl ?_
  exact z_iretM dX5_place_4 rfl h
theorem kX5_place {l : Launch} {w : Nat → Nat} {nb : Nat} {Q : PM} {F A : MI}  (h : Q (some (.int (F 203 2))) F A) : CM l mX5_place 1 w nb [.ref 2] F A Q := CM.ofZ (by decide) (fun _ _ => rfl) (fun _ _ => Nat.le_of_ble_eq_true rfl) (vX5_place_0  h)
set_option maxHeartbeats 4000000 in
set_option maxRecDepth 100000 in
theorem vX5_skip_0 {l : Launch} {w : Nat → Nat} {nb : Nat} {Q : PM} {F A : MI}  (h : (((F 202 2) ≤ (F 203 2) → Q none F A) ∧ (¬ (F 202 2) ≤ (F 203 2) → Q none (u2 F 203 2 ((F 203 2) + 1)) A))) : ZM l mX5_skip 1 w nb Q 0 [(0, .ref 2)] [] F A := by
  intro T G B hY
  refine z_aload_n dX5_skip_0 0 rfl rfl ?_
  refine z_geti' (k := 3) (fc := 203) (x := (F 203 2)) dX5_skip_1 ckX5 (by decide) fk_X5_22 rfl rfl (lat hY rfl) rfl ?_
  refine z_aload_n dX5_skip_4 0 rfl rfl ?_
  refine z_geti' (k := 2) (fc := 202) (x := (F 202 2)) dX5_skip_5 ckX5 (by decide) fk_X5_19 rfl rfl (lat hY rfl) rfl ?_
  refine z_icmp_ge (tgt := 21) dX5_skip_8 (by decide) (fun hb => ?_) (fun hb => ?_)
  · have h := h.1 hb
    exact z_vretM dX5_skip_21 rfl h
  · have h := h.2 hb
    refine z_aload_n dX5_skip_11 0 rfl rfl ?_
    refine z_dup dX5_skip_12 ?_
    refine z_geti' (k := 3) (fc := 203) (x := (F 203 2)) dX5_skip_13 ckX5 (by decide) fk_X5_22 rfl rfl (lat hY rfl) rfl ?_
    refine z_iconst (v := 1) dX5_skip_16 rfl ?_
    refine z_iadd dX5_skip_17 ?_
    refine z_puti (k := 3) (fc := 203) dX5_skip_18 ckX5 (by decide) fk_X5_22 rfl rfl rfl (lat hY rfl) ?_
    exact z_vretM dX5_skip_21 rfl h
theorem kX5_skip {l : Launch} {w : Nat → Nat} {nb : Nat} {Q : PM} {F A : MI}  (h : (((F 202 2) ≤ (F 203 2) → Q none F A) ∧ (¬ (F 202 2) ≤ (F 203 2) → Q none (u2 F 203 2 ((F 203 2) + 1)) A))) : CM l mX5_skip 1 w nb [.ref 2] F A Q := CM.ofZ (by decide) (fun _ _ => rfl) (fun _ _ => Nat.le_of_ble_eq_true rfl) (vX5_skip_0  h)
set_option maxHeartbeats 4000000 in
set_option maxRecDepth 100000 in
theorem vX6_handlersOf_0 {l : Launch} {w : Nat → Nat} {nb : Nat} {Q : PM} {F A : MI} {c : Nat} (hc : c < 6) (h : ZM l mX6_handlersOf 1 w nb Q 4 [(0, .ref (38 + 14 * c)), (1, .ref 4), (2, .int 0), (3, .int 0)] [] F A) : ZM l mX6_handlersOf 1 w nb Q 0 [(0, .ref (38 + 14 * c)), (1, .ref 4)] [] F A := by
  intro T G B hY
  refine z_iconst (v := 0) dX6_handlersOf_0 rfl ?_
  refine z_istore_n (lv' := [(0, .ref (38 + 14 * c)), (1, .ref 4), (2, .int 0)]) dX6_handlersOf_1 rfl (by decide) rfl ?_
  refine z_iconst (v := 0) dX6_handlersOf_2 rfl ?_
  refine z_istore_n (lv' := [(0, .ref (38 + 14 * c)), (1, .ref 4), (2, .int 0), (3, .int 0)]) dX6_handlersOf_3 rfl (by decide) rfl ?_
  exact z_pick [0, 1, 2, 3] rfl (h T G B hY)
theorem kX6_handlersOf {l : Launch} {w : Nat → Nat} {nb : Nat} {Q : PM} {F A : MI} {c : Nat} (hc : c < 6) (h : ZM l mX6_handlersOf 1 w nb Q 4 [(0, .ref (38 + 14 * c)), (1, .ref 4), (2, .int 0), (3, .int 0)] [] F A) : CM l mX6_handlersOf 1 w nb [.ref (38 + 14 * c), .ref 4] F A Q := CM.ofZ (by decide) (fun _ _ => rfl) (fun _ _ => Nat.le_of_ble_eq_true rfl) (vX6_handlersOf_0 hc h)
set_option maxHeartbeats 4000000 in
set_option maxRecDepth 100000 in
theorem vX6_handlersOf_4 {l : Launch} {w : Nat → Nat} {nb : Nat} {Q : PM} {x2 x3 : Int32} {F A : MI} {c : Nat} (hc : c < 6) (h : (((F 161 (38 + 14 * c)) ≤ x3 → Q (some (.int x2)) F A) ∧ (¬ (F 161 (38 + 14 * c)) ≤ x3 → (vp_in x3 8 ∧ (vp_in (A (38 + 14 * c + 12) x3.toNatClampNeg) 20 ∧ (A (38 + 14 * c + 12) x3.toNatClampNeg).toNatClampNeg < nb ∧ ZM l mX6_handlersOf 1 w nb Q 4 [(0, .ref (38 + 14 * c)), (1, .ref 4), (2, .int (x2 ||| (1 <<< ((F 3 (147 + 2 * (A (38 + 14 * c + 12) x3.toNatClampNeg).toNatClampNeg)) &&& 31)))), (3, .int (x3 + 1))] [] F A))))) : ZM l mX6_handlersOf 1 w nb Q 4 [(0, .ref (38 + 14 * c)), (1, .ref 4), (2, .int x2), (3, .int x3)] [] F A := by
  intro T G B hY
  refine z_iload_n dX6_handlersOf_4 3 rfl rfl ?_
  refine z_aload_n dX6_handlersOf_5 0 rfl rfl ?_
  refine z_geti' (k := 1) (fc := 161) (x := (F 161 (38 + 14 * c))) dX6_handlersOf_6 ckX4 (by decide) fk_X6_38 rfl rfl (lat4 hY hc) rfl ?_
  refine z_icmp_ge (tgt := 34) dX6_handlersOf_9 (by decide) (fun hb => ?_) (fun hb => ?_)
  · have h := h.1 hb
    refine z_iload_n dX6_handlersOf_34 2 rfl rfl ?_
    exact z_iretM dX6_handlersOf_35 rfl h
  · have h := h.2 hb
    refine z_iload_n dX6_handlersOf_12 2 rfl rfl ?_
    refine z_iconst (v := 1) dX6_handlersOf_13 rfl ?_
    refine z_aload_n dX6_handlersOf_14 1 rfl rfl ?_
    refine z_aload_n dX6_handlersOf_15 0 rfl rfl ?_
    refine z_getr (k := 6) (fc := 166) (r := (38 + 14 * c + 12)) dX6_handlersOf_16 ckX4 (by decide) fk_X6_44 rfl rfl (lat4 hY hc) (lggc hY 166 12 hc (by decide)) (by omega) ?_
    refine z_iload_n dX6_handlersOf_19 3 rfl rfl ?_
    have hin1 := h.1
    have h := h.2
    refine z_iald' (n := 8) (x := (A (38 + 14 * c + 12) x3.toNatClampNeg)) dX6_handlersOf_20 (latc hY hc 12 (by decide)) (llnc hY hc 12 (by decide)) hin1 rfl ?_
    have hin2 := h.1
    have h := h.2
    have hi2 := h.1
    have h := h.2
    refine z_aald' (ci := 11) (n := 20) (r := (147 + 2 * (A (38 + 14 * c + 12) x3.toNatClampNeg).toNatClampNeg)) dX6_handlersOf_21 (lat hY rfl) (by decide) (lln hY rfl) hin2 (lbb0 hY hi2) (by omega) ?_
    refine z_geti' (k := 3) (fc := 3) (x := (F 3 (147 + 2 * (A (38 + 14 * c + 12) x3.toNatClampNeg).toNatClampNeg))) dX6_handlersOf_22 ckX0 (by decide) fk_X6_47 rfl rfl (lat0 hY hi2) rfl ?_
    refine z_ishl dX6_handlersOf_25 ?_
    refine z_ior dX6_handlersOf_26 ?_
    refine z_istore_n (lv' := [(0, .ref (38 + 14 * c)), (1, .ref 4), (2, .int (x2 ||| (1 <<< ((F 3 (147 + 2 * (A (38 + 14 * c + 12) x3.toNatClampNeg).toNatClampNeg)) &&& 31)))), (3, .int x3)]) dX6_handlersOf_27 rfl (by decide) rfl ?_
    refine z_iinc (v := (x3 + 1)) (lv' := [(0, .ref (38 + 14 * c)), (1, .ref 4), (2, .int (x2 ||| (1 <<< ((F 3 (147 + 2 * (A (38 + 14 * c + 12) x3.toNatClampNeg).toNatClampNeg)) &&& 31)))), (3, .int (x3 + 1))]) dX6_handlersOf_28 3 rfl rfl (by decide) rfl ?_
    refine z_goto (tgt := 4) dX6_handlersOf_31 (by decide) ?_
    exact z_pick [0, 1, 2, 3] rfl (h T G B hY)
set_option maxHeartbeats 4000000 in
set_option maxRecDepth 100000 in
theorem vX7_isBelow_0 {l : Launch} {w : Nat → Nat} {nb : Nat} {Q : PM} {x0 x1 : Int32} {F A : MI}  (h : ((x0 < 0 → Q (some (.int 0)) F A) ∧ (¬ x0 < 0 → ((x1 ≤ x0 → Q (some (.int 0)) F A) ∧ (¬ x1 ≤ x0 → Q (some (.int 1)) F A))))) : ZM l mX7_isBelow 1 w nb Q 0 [(0, .int x0), (1, .int x1)] [] F A := by
  intro T G B hY
  refine z_iload_n dX7_isBelow_0 0 rfl rfl ?_
  refine z_if_lt (tgt := 13) dX7_isBelow_1 (by decide) (fun hb => ?_) (fun hb => ?_)
  · have h := h.1 hb
    refine z_iconst (v := 0) dX7_isBelow_13 rfl ?_
    exact z_zretM dX7_isBelow_14 rfl (by decide) h
  · have h := h.2 hb
    refine z_iload_n dX7_isBelow_4 0 rfl rfl ?_
    refine z_iload_n dX7_isBelow_5 1 rfl rfl ?_
    refine z_icmp_ge (tgt := 13) dX7_isBelow_6 (by decide) (fun hb => ?_) (fun hb => ?_)
    · have h := h.1 hb
      refine z_iconst (v := 0) dX7_isBelow_13 rfl ?_
      exact z_zretM dX7_isBelow_14 rfl (by decide) h
    · have h := h.2 hb
      refine z_iconst (v := 1) dX7_isBelow_9 rfl ?_
      refine z_goto (tgt := 14) dX7_isBelow_10 (by decide) ?_
      exact z_zretM dX7_isBelow_14 rfl (by decide) h
theorem kX7_isBelow {l : Launch} {w : Nat → Nat} {nb : Nat} {Q : PM} {x0 x1 : Int32} {F A : MI}  (h : ((x0 < 0 → Q (some (.int 0)) F A) ∧ (¬ x0 < 0 → ((x1 ≤ x0 → Q (some (.int 0)) F A) ∧ (¬ x1 ≤ x0 → Q (some (.int 1)) F A))))) : CM l mX7_isBelow 1 w nb [.int x0, .int x1] F A Q := CM.ofZ (by decide) (fun _ _ => rfl) (fun _ _ => Nat.le_of_ble_eq_true rfl) (vX7_isBelow_0  h)
set_option maxHeartbeats 4000000 in
set_option maxRecDepth 100000 in
theorem vX7_sand_0 {l : Launch} {w : Nat → Nat} {nb : Nat} {Q : PM} {x1 : Int32} {F A : MI}  (h : ((x1 < 1 → Q (some (.int 0)) F A) ∧ (¬ x1 < 1 → ((x1 ≤ 3 → Q (some (.int 1)) (u2 F 289 1 x1) A) ∧ (¬ x1 ≤ 3 → Q (some (.int 0)) F A))))) : ZM l mX7_sand 1 w nb Q 0 [(0, .ref 1), (1, .int x1)] [] F A := by
  intro T G B hY
  refine z_iload_n dX7_sand_0 1 rfl rfl ?_
  refine z_iconst (v := 1) dX7_sand_1 rfl ?_
  refine z_icmp_lt (tgt := 10) dX7_sand_2 (by decide) (fun hb => ?_) (fun hb => ?_)
  · have h := h.1 hb
    refine z_iconst (v := 0) dX7_sand_10 rfl ?_
    exact z_zretM dX7_sand_11 rfl (by decide) h
  · have h := h.2 hb
    refine z_iload_n dX7_sand_5 1 rfl rfl ?_
    refine z_iconst (v := 3) dX7_sand_6 rfl ?_
    refine z_icmp_le (tgt := 12) dX7_sand_7 (by decide) (fun hb => ?_) (fun hb => ?_)
    · have h := h.1 hb
      refine z_aload_n dX7_sand_12 0 rfl rfl ?_
      refine z_iload_n dX7_sand_13 1 rfl rfl ?_
      refine z_puti (k := 9) (fc := 289) dX7_sand_14 ckX7 (by decide) fk_X7_64 rfl rfl rfl (lat hY rfl) ?_
      refine z_iconst (v := 1) dX7_sand_17 rfl ?_
      exact z_zretM dX7_sand_18 rfl (by decide) h
    · have h := h.2 hb
      refine z_iconst (v := 0) dX7_sand_10 rfl ?_
      exact z_zretM dX7_sand_11 rfl (by decide) h
theorem kX7_sand {l : Launch} {w : Nat → Nat} {nb : Nat} {Q : PM} {x1 : Int32} {F A : MI}  (h : ((x1 < 1 → Q (some (.int 0)) F A) ∧ (¬ x1 < 1 → ((x1 ≤ 3 → Q (some (.int 1)) (u2 F 289 1 x1) A) ∧ (¬ x1 ≤ 3 → Q (some (.int 0)) F A))))) : CM l mX7_sand 1 w nb [.ref 1, .int x1] F A Q := CM.ofZ (by decide) (fun _ _ => rfl) (fun _ _ => Nat.le_of_ble_eq_true rfl) (vX7_sand_0  h)
set_option maxHeartbeats 4000000 in
set_option maxRecDepth 100000 in
theorem vX1_admits_0 {l : Launch} {w : Nat → Nat} {nb : Nat} {Q : PM} {F A : MI} {t : Nat} (ht : isTx t) {i : Nat} (hi : i < nb) (h : ((((F 42 t) &&& (1 <<< ((F 0 (147 + 2 * i)) &&& 31))) = 0 → Q (some (.int 0)) F A) ∧ (¬ ((F 42 t) &&& (1 <<< ((F 0 (147 + 2 * i)) &&& 31))) = 0 → CM l mX1_isWithin 1 w nb [.ref t, .int 0, .int (F 1 (147 + 2 * i))] F A (qi fun r1 F1 A1 => ((¬ r1 = 0 → ZM l mX1_admits 2 w nb Q 30 [(0, .ref t), (1, .ref (147 + 2 * i)), (2, .int 0)] [] F1 A1) ∧ (r1 = 0 → Q (some (.int 0)) F1 A1)))))) : ZM l mX1_admits 2 w nb Q 0 [(0, .ref t), (1, .ref (147 + 2 * i))] [] F A := by
  intro T G B hY
  refine z_aload_n dX1_admits_0 0 rfl rfl ?_
  refine z_geti' (k := 2) (fc := 42) (x := (F 42 t)) dX1_admits_1 ckX1 (by decide) fk_X1_18 rfl rfl (lat1 hY ht) rfl ?_
  refine z_iconst (v := 1) dX1_admits_4 rfl ?_
  refine z_aload_n dX1_admits_5 1 rfl rfl ?_
  refine z_geti' (k := 0) (fc := 0) (x := (F 0 (147 + 2 * i))) dX1_admits_6 ckX0 (by decide) fk_X1_25 rfl rfl (lat0 hY hi) rfl ?_
  refine z_ishl dX1_admits_9 ?_
  refine z_iand dX1_admits_10 ?_
  refine z_if_eq (tgt := 26) dX1_admits_11 (by decide) (fun hb => ?_) (fun hb => ?_)
  · have h := h.1 hb
    refine z_iconst (v := 0) dX1_admits_26 rfl ?_
    exact z_zretM dX1_admits_27 rfl (by decide) h
  · have h := h.2 hb
    refine z_aload_n dX1_admits_14 0 rfl rfl ?_
    refine z_iconst (v := 0) dX1_admits_15 rfl ?_
    refine z_aload_n dX1_admits_16 1 rfl rfl ?_
    refine z_geti' (k := 1) (fc := 1) (x := (F 1 (147 + 2 * i))) dX1_admits_17 ckX0 (by decide) fk_X1_30 rfl rfl (lat0 hY hi) rfl ?_
    refine zm_Vi (As := [.int 0, .int (F 1 (147 + 2 * i))]) (rest := []) dX1_admits_20 okX1_isWithin ioX1_isWithin mk_X1_33 (ci := 1) rfl (by decide) (lat1 hY ht) rfl rfl (Nat.le_of_ble_eq_true rfl) (by decide) hY (CM.monoi h fun r1 F1 A1 h => ?_)
    refine z_if_ne (tgt := 28) dX1_admits_23 (by decide) (fun hb => ?_) (fun hb => ?_)
    · have h := h.1 hb
      refine z_iconst (v := 0) dX1_admits_28 rfl ?_
      refine z_istore_n (lv' := [(0, .ref t), (1, .ref (147 + 2 * i)), (2, .int 0)]) dX1_admits_29 rfl (by decide) rfl ?_
      exact z_pick [0, 1, 2] rfl (h T G B hY)
    · have h := h.2 hb
      refine z_iconst (v := 0) dX1_admits_26 rfl ?_
      exact z_zretM dX1_admits_27 rfl (by decide) h
theorem kX1_admits {l : Launch} {w : Nat → Nat} {nb : Nat} {Q : PM} {F A : MI} {t : Nat} (ht : isTx t) {i : Nat} (hi : i < nb) (h : ((((F 42 t) &&& (1 <<< ((F 0 (147 + 2 * i)) &&& 31))) = 0 → Q (some (.int 0)) F A) ∧ (¬ ((F 42 t) &&& (1 <<< ((F 0 (147 + 2 * i)) &&& 31))) = 0 → CM l mX1_isWithin 1 w nb [.ref t, .int 0, .int (F 1 (147 + 2 * i))] F A (qi fun r1 F1 A1 => ((¬ r1 = 0 → ZM l mX1_admits 2 w nb Q 30 [(0, .ref t), (1, .ref (147 + 2 * i)), (2, .int 0)] [] F1 A1) ∧ (r1 = 0 → Q (some (.int 0)) F1 A1)))))) : CM l mX1_admits 2 w nb [.ref t, .ref (147 + 2 * i)] F A Q := CM.ofZ (by decide) (fun _ _ => rfl) (fun _ _ => Nat.le_of_ble_eq_true rfl) (vX1_admits_0 ht hi h)
set_option maxHeartbeats 4000000 in
set_option maxRecDepth 100000 in
theorem vX1_admits_30 {l : Launch} {w : Nat → Nat} {nb : Nat} {Q : PM} {x2 : Int32} {F A : MI} {t : Nat} (ht : isTx t) {i : Nat} (hi : i < nb) (h : ((3 ≤ x2 → Q (some (.int 1)) F A) ∧ (¬ 3 ≤ x2 → (vp_in x2 3 ∧ CM l mX1_isWithin 1 w nb [.ref t, .int (1 + x2), .int (A (148 + 2 * i) x2.toNatClampNeg)] F A (qi fun r2 F2 A2 => ((¬ r2 = 0 → ZM l mX1_admits 2 w nb Q 30 [(0, .ref t), (1, .ref (147 + 2 * i)), (2, .int (x2 + 1))] [] F2 A2) ∧ (r2 = 0 → Q (some (.int 0)) F2 A2))))))) : ZM l mX1_admits 2 w nb Q 30 [(0, .ref t), (1, .ref (147 + 2 * i)), (2, .int x2)] [] F A := by
  intro T G B hY
  refine z_iload_n dX1_admits_30 2 rfl rfl ?_
  refine z_iconst (v := 3) dX1_admits_31 rfl ?_
  refine z_icmp_ge (tgt := 59) dX1_admits_32 (by decide) (fun hb => ?_) (fun hb => ?_)
  · have h := h.1 hb
    refine z_iconst (v := 1) dX1_admits_59 rfl ?_
    exact z_zretM dX1_admits_60 rfl (by decide) h
  · have h := h.2 hb
    refine z_aload_n dX1_admits_35 0 rfl rfl ?_
    refine z_iconst (v := 1) dX1_admits_36 rfl ?_
    refine z_iload_n dX1_admits_37 2 rfl rfl ?_
    refine z_iadd dX1_admits_38 ?_
    refine z_aload_n dX1_admits_39 1 rfl rfl ?_
    refine z_getr (k := 4) (fc := 4) (r := (148 + 2 * i)) dX1_admits_40 ckX0 (by decide) fk_X1_37 rfl rfl (lat0 hY hi) (lgg0 hY hi) (by omega) ?_
    refine z_iload_n dX1_admits_43 2 rfl rfl ?_
    have hin1 := h.1
    have h := h.2
    refine z_iald' (n := 3) (x := (A (148 + 2 * i) x2.toNatClampNeg)) dX1_admits_44 (lat0m hY hi) (lln0 hY hi) hin1 rfl ?_
    refine zm_Vi (As := [.int (1 + x2), .int (A (148 + 2 * i) x2.toNatClampNeg)]) (rest := []) dX1_admits_45 okX1_isWithin ioX1_isWithin mk_X1_33 (ci := 1) rfl (by decide) (lat1 hY ht) rfl rfl (Nat.le_of_ble_eq_true rfl) (by decide) hY (CM.monoi h fun r2 F2 A2 h => ?_)
    refine z_if_ne (tgt := 53) dX1_admits_48 (by decide) (fun hb => ?_) (fun hb => ?_)
    · have h := h.1 hb
      refine z_iinc (v := (x2 + 1)) (lv' := [(0, .ref t), (1, .ref (147 + 2 * i)), (2, .int (x2 + 1))]) dX1_admits_53 2 rfl rfl (by decide) rfl ?_
      refine z_goto (tgt := 30) dX1_admits_56 (by decide) ?_
      exact z_pick [0, 1, 2] rfl (h T G B hY)
    · have h := h.2 hb
      refine z_iconst (v := 0) dX1_admits_51 rfl ?_
      exact z_zretM dX1_admits_52 rfl (by decide) h
set_option maxHeartbeats 4000000 in
set_option maxRecDepth 100000 in
theorem vX1_letAll_0 {l : Launch} {w : Nat → Nat} {nb : Nat} {Q : PM} {F A : MI} {t : Nat} (ht : isTx t) (h : CM l mJ7_fill_53178 1 w nb [.ref (t + 1), .int 0] (u2 F 42 t 15) A (qv fun F1 A1 => CM l mJ7_fill_53178 1 w nb [.ref (t + 2), .int 9999] F1 A1 (qv fun F2 A2 => Q none F2 A2))) : ZM l mX1_letAll 2 w nb Q 0 [(0, .ref t)] [] F A := by
  intro T G B hY
  refine z_aload_n dX1_letAll_0 0 rfl rfl ?_
  refine z_bipush (v := 15) dX1_letAll_1 rfl ?_
  refine z_puti (k := 2) (fc := 42) dX1_letAll_3 ckX1 (by decide) fk_X1_18 rfl rfl rfl (lat1 hY ht) ?_
  refine z_aload_n dX1_letAll_6 0 rfl rfl ?_
  refine z_getr (k := 0) (fc := 40) (r := (t + 1)) dX1_letAll_7 ckX1 (by decide) fk_X1_11 rfl rfl (lat1 hY ht) (lgg1a hY ht) (by omega) ?_
  refine z_iconst (v := 0) dX1_letAll_10 rfl ?_
  refine zm_Sv (As := [.ref (t + 1), .int 0]) (rest := []) dX1_letAll_11 okJ7_fill_53178 smJ7_fill_53178 mk_X1_66 rfl rfl (Nat.le_of_ble_eq_true rfl) (by decide) hY (CM.monov h fun F1 A1 h => ?_)
  refine z_aload_n dX1_letAll_14 0 rfl rfl ?_
  refine z_getr (k := 1) (fc := 41) (r := (t + 2)) dX1_letAll_15 ckX1 (by decide) fk_X1_15 rfl rfl (lat1 hY ht) (lgg1b hY ht) (by omega) ?_
  refine z_sipush (v := 9999) dX1_letAll_18 rfl ?_
  refine zm_Sv (As := [.ref (t + 2), .int 9999]) (rest := []) dX1_letAll_21 okJ7_fill_53178 smJ7_fill_53178 mk_X1_66 rfl rfl (Nat.le_of_ble_eq_true rfl) (by decide) hY (CM.monov h fun F2 A2 h => ?_)
  exact z_vretM dX1_letAll_24 rfl h
theorem kX1_letAll {l : Launch} {w : Nat → Nat} {nb : Nat} {Q : PM} {F A : MI} {t : Nat} (ht : isTx t) (h : CM l mJ7_fill_53178 1 w nb [.ref (t + 1), .int 0] (u2 F 42 t 15) A (qv fun F1 A1 => CM l mJ7_fill_53178 1 w nb [.ref (t + 2), .int 9999] F1 A1 (qv fun F2 A2 => Q none F2 A2))) : CM l mX1_letAll 2 w nb [.ref t] F A Q := CM.ofZ (by decide) (fun _ _ => rfl) (fun _ _ => Nat.le_of_ble_eq_true rfl) (vX1_letAll_0 ht h)
set_option maxHeartbeats 4000000 in
set_option maxRecDepth 100000 in
theorem vX2_findFewest_0 {l : Launch} {w : Nat → Nat} {nb : Nat} {Q : PM} {F A : MI}  (h : ZM l mX2_findFewest 2 w nb Q 2 [(0, .ref 7), (1, .int 1)] [] F A) : ZM l mX2_findFewest 2 w nb Q 0 [(0, .ref 7)] [] F A := by
  intro T G B hY
  refine z_iconst (v := 1) dX2_findFewest_0 rfl ?_
  refine z_istore_n (lv' := [(0, .ref 7), (1, .int 1)]) dX2_findFewest_1 rfl (by decide) rfl ?_
  exact z_pick [0, 1] rfl (h T G B hY)
theorem kX2_findFewest {l : Launch} {w : Nat → Nat} {nb : Nat} {Q : PM} {F A : MI}  (h : ZM l mX2_findFewest 2 w nb Q 2 [(0, .ref 7), (1, .int 1)] [] F A) : CM l mX2_findFewest 2 w nb [.ref 7] F A Q := CM.ofZ (by decide) (fun _ _ => rfl) (fun _ _ => Nat.le_of_ble_eq_true rfl) (vX2_findFewest_0  h)
set_option maxHeartbeats 4000000 in
set_option maxRecDepth 100000 in
theorem vX2_findFewest_2 {l : Launch} {w : Nat → Nat} {nb : Nat} {Q : PM} {x1 : Int32} {F A : MI}  (h : (((1 <<< ((F 82 7) &&& 31)) ≤ x1 → Q none F A) ∧ (¬ (1 <<< ((F 82 7) &&& 31)) ≤ x1 → ZM l mX2_findFewest 2 w nb Q 18 [(0, .ref 7), (1, .int x1), (2, .int 384), (3, .int 0)] [] F A))) : ZM l mX2_findFewest 2 w nb Q 2 [(0, .ref 7), (1, .int x1)] [] F A := by
  intro T G B hY
  refine z_iload_n dX2_findFewest_2 1 rfl rfl ?_
  refine z_iconst (v := 1) dX2_findFewest_3 rfl ?_
  refine z_aload_n dX2_findFewest_4 0 rfl rfl ?_
  refine z_geti' (k := 2) (fc := 82) (x := (F 82 7)) dX2_findFewest_5 ckX2 (by decide) fk_X2_18 rfl rfl (lat hY rfl) rfl ?_
  refine z_ishl dX2_findFewest_8 ?_
  refine z_icmp_ge (tgt := 64) dX2_findFewest_9 (by decide) (fun hb => ?_) (fun hb => ?_)
  · have h := h.1 hb
    exact z_vretM dX2_findFewest_64 rfl h
  · have h := h.2 hb
    refine z_sipush (v := 384) dX2_findFewest_12 rfl ?_
    refine z_istore_n (lv' := [(0, .ref 7), (1, .int x1), (2, .int 384)]) dX2_findFewest_15 rfl (by decide) rfl ?_
    refine z_iconst (v := 0) dX2_findFewest_16 rfl ?_
    refine z_istore_n (lv' := [(0, .ref 7), (1, .int x1), (2, .int 384), (3, .int 0)]) dX2_findFewest_17 rfl (by decide) rfl ?_
    exact z_pick [0, 1, 2, 3] rfl (h T G B hY)
set_option maxHeartbeats 4000000 in
set_option maxRecDepth 100000 in
theorem vX2_findFewest_18 {l : Launch} {w : Nat → Nat} {nb : Nat} {Q : PM} {x1 x2 x3 : Int32} {F A : MI}  (h : (((F 82 7) ≤ x3 → (vp_in x1 256 ∧ ZM l mX2_findFewest 2 w nb Q 2 [(0, .ref 7), (1, .int (x1 + 1))] [] F (u2 A 28 x1.toNatClampNeg x2))) ∧ (¬ (F 82 7) ≤ x3 → (((x1 &&& (1 <<< (x3 &&& 31))) = 0 → ZM l mX2_findFewest 2 w nb Q 45 [(0, .ref 7), (1, .int x1), (2, .int x2), (3, .int x3)] [] F A) ∧ (¬ (x1 &&& (1 <<< (x3 &&& 31))) = 0 → CM l mX2_swapsWithFirst 1 w nb [.ref 7, .int x1, .int x3] F A (qi fun r2 F2 A2 => ZM l mX2_findFewest 2 w nb Q 45 [(0, .ref 7), (1, .int x1), (2, .int (if r2 < x2 then r2 else x2)), (3, .int x3)] [] F2 A2)))))) : ZM l mX2_findFewest 2 w nb Q 18 [(0, .ref 7), (1, .int x1), (2, .int x2), (3, .int x3)] [] F A := by
  intro T G B hY
  refine z_iload_n dX2_findFewest_18 3 rfl rfl ?_
  refine z_aload_n dX2_findFewest_19 0 rfl rfl ?_
  refine z_geti' (k := 2) (fc := 82) (x := (F 82 7)) dX2_findFewest_20 ckX2 (by decide) fk_X2_18 rfl rfl (lat hY rfl) rfl ?_
  refine z_icmp_ge (tgt := 51) dX2_findFewest_23 (by decide) (fun hb => ?_) (fun hb => ?_)
  · have h := h.1 hb
    refine z_aload_n dX2_findFewest_51 0 rfl rfl ?_
    refine z_getr (k := 5) (fc := 85) (r := 28) dX2_findFewest_52 ckX2 (by decide) fk_X2_30 rfl rfl (lat hY rfl) (lgg hY rfl) (by decide) ?_
    refine z_iload_n dX2_findFewest_55 1 rfl rfl ?_
    refine z_iload_n dX2_findFewest_56 2 rfl rfl ?_
    have hin1 := h.1
    have h := h.2
    refine z_iast' (n := 256) dX2_findFewest_57 (lat hY rfl) (lln hY rfl) hin1 ?_
    refine z_iinc (v := (x1 + 1)) (lv' := [(0, .ref 7), (1, .int (x1 + 1)), (2, .int x2), (3, .int x3)]) dX2_findFewest_58 1 rfl rfl (by decide) rfl ?_
    refine z_goto (tgt := 2) dX2_findFewest_61 (by decide) ?_
    exact z_pick [0, 1] rfl (h T G B hY)
  · have h := h.2 hb
    refine z_iload_n dX2_findFewest_26 1 rfl rfl ?_
    refine z_iconst (v := 1) dX2_findFewest_27 rfl ?_
    refine z_iload_n dX2_findFewest_28 3 rfl rfl ?_
    refine z_ishl dX2_findFewest_29 ?_
    refine z_iand dX2_findFewest_30 ?_
    refine z_if_eq (tgt := 45) dX2_findFewest_31 (by decide) (fun hb => ?_) (fun hb => ?_)
    · have h := h.1 hb
      exact z_pick [0, 1, 2, 3] rfl (h T G B hY)
    · have h := h.2 hb
      refine z_iload_n dX2_findFewest_34 2 rfl rfl ?_
      refine z_aload_n dX2_findFewest_35 0 rfl rfl ?_
      refine z_iload_n dX2_findFewest_36 1 rfl rfl ?_
      refine z_iload_n dX2_findFewest_37 3 rfl rfl ?_
      refine zm_Vi (As := [.int x1, .int x3]) (rest := [.int x2]) dX2_findFewest_38 okX2_swapsWithFirst ioX2_swapsWithFirst mk_X2_78 (ci := 2) rfl (by decide) (lat hY rfl) rfl rfl (Nat.le_of_ble_eq_true rfl) (by decide) hY (CM.monoi h fun r2 F2 A2 h => ?_)
      refine z_mmin dX2_findFewest_41 mk_X2_82 (by decide) (Nat.le_of_ble_eq_true rfl) ?_
      refine z_istore_n (lv' := [(0, .ref 7), (1, .int x1), (2, .int (if r2 < x2 then r2 else x2)), (3, .int x3)]) dX2_findFewest_44 rfl (by decide) rfl ?_
      exact z_pick [0, 1, 2, 3] rfl (h T G B hY)
set_option maxHeartbeats 4000000 in
set_option maxRecDepth 100000 in
theorem vX2_findFewest_45 {l : Launch} {w : Nat → Nat} {nb : Nat} {Q : PM} {x1 x2 x3 : Int32} {F A : MI}  (h : ZM l mX2_findFewest 2 w nb Q 18 [(0, .ref 7), (1, .int x1), (2, .int x2), (3, .int (x3 + 1))] [] F A) : ZM l mX2_findFewest 2 w nb Q 45 [(0, .ref 7), (1, .int x1), (2, .int x2), (3, .int x3)] [] F A := by
  intro T G B hY
  refine z_iinc (v := (x3 + 1)) (lv' := [(0, .ref 7), (1, .int x1), (2, .int x2), (3, .int (x3 + 1))]) dX2_findFewest_45 3 rfl rfl (by decide) rfl ?_
  refine z_goto (tgt := 18) dX2_findFewest_48 (by decide) ?_
  exact z_pick [0, 1, 2, 3] rfl (h T G B hY)
set_option maxHeartbeats 4000000 in
set_option maxRecDepth 100000 in
theorem vX2_leastFirst_0 {l : Launch} {w : Nat → Nat} {nb : Nat} {Q : PM} {x1 : Int32} {F A : MI}  (h : ZM l mX2_leastFirst 2 w nb Q 2 [(0, .ref 7), (1, .int x1), (2, .int 0)] [] F A) : ZM l mX2_leastFirst 2 w nb Q 0 [(0, .ref 7), (1, .int x1)] [] F A := by
  intro T G B hY
  refine z_iconst (v := 0) dX2_leastFirst_0 rfl ?_
  refine z_istore_n (lv' := [(0, .ref 7), (1, .int x1), (2, .int 0)]) dX2_leastFirst_1 rfl (by decide) rfl ?_
  exact z_pick [0, 1, 2] rfl (h T G B hY)
theorem kX2_leastFirst {l : Launch} {w : Nat → Nat} {nb : Nat} {Q : PM} {x1 : Int32} {F A : MI}  (h : ZM l mX2_leastFirst 2 w nb Q 2 [(0, .ref 7), (1, .int x1), (2, .int 0)] [] F A) : CM l mX2_leastFirst 2 w nb [.ref 7, .int x1] F A Q := CM.ofZ (by decide) (fun _ _ => rfl) (fun _ _ => Nat.le_of_ble_eq_true rfl) (vX2_leastFirst_0  h)
set_option maxHeartbeats 4000000 in
set_option maxRecDepth 100000 in
theorem vX2_leastFirst_2 {l : Launch} {w : Nat → Nat} {nb : Nat} {Q : PM} {x1 x2 : Int32} {F A : MI}  (h : (((F 82 7) ≤ x2 → Q (some (.int 0)) F A) ∧ (¬ (F 82 7) ≤ x2 → (((x1 &&& (1 <<< (x2 &&& 31))) = 0 → ZM l mX2_leastFirst 2 w nb Q 35 [(0, .ref 7), (1, .int x1), (2, .int x2)] [] F A) ∧ (¬ (x1 &&& (1 <<< (x2 &&& 31))) = 0 → CM l mX2_swapsWithFirst 1 w nb [.ref 7, .int x1, .int x2] F A (qi fun r1 F1 A1 => (vp_in x1 256 ∧ ((¬ r1 = (A1 28 x1.toNatClampNeg) → ZM l mX2_leastFirst 2 w nb Q 35 [(0, .ref 7), (1, .int x1), (2, .int x2)] [] F1 A1) ∧ (r1 = (A1 28 x1.toNatClampNeg) → Q (some (.int x2)) F1 A1))))))))) : ZM l mX2_leastFirst 2 w nb Q 2 [(0, .ref 7), (1, .int x1), (2, .int x2)] [] F A := by
  intro T G B hY
  refine z_iload_n dX2_leastFirst_2 2 rfl rfl ?_
  refine z_aload_n dX2_leastFirst_3 0 rfl rfl ?_
  refine z_geti' (k := 2) (fc := 82) (x := (F 82 7)) dX2_leastFirst_4 ckX2 (by decide) fk_X2_18 rfl rfl (lat hY rfl) rfl ?_
  refine z_icmp_ge (tgt := 41) dX2_leastFirst_7 (by decide) (fun hb => ?_) (fun hb => ?_)
  · have h := h.1 hb
    refine z_iconst (v := 0) dX2_leastFirst_41 rfl ?_
    exact z_iretM dX2_leastFirst_42 rfl h
  · have h := h.2 hb
    refine z_iload_n dX2_leastFirst_10 1 rfl rfl ?_
    refine z_iconst (v := 1) dX2_leastFirst_11 rfl ?_
    refine z_iload_n dX2_leastFirst_12 2 rfl rfl ?_
    refine z_ishl dX2_leastFirst_13 ?_
    refine z_iand dX2_leastFirst_14 ?_
    refine z_if_eq (tgt := 35) dX2_leastFirst_15 (by decide) (fun hb => ?_) (fun hb => ?_)
    · have h := h.1 hb
      exact z_pick [0, 1, 2] rfl (h T G B hY)
    · have h := h.2 hb
      refine z_aload_n dX2_leastFirst_18 0 rfl rfl ?_
      refine z_iload_n dX2_leastFirst_19 1 rfl rfl ?_
      refine z_iload_n dX2_leastFirst_20 2 rfl rfl ?_
      refine zm_Vi (As := [.int x1, .int x2]) (rest := []) dX2_leastFirst_21 okX2_swapsWithFirst ioX2_swapsWithFirst mk_X2_78 (ci := 2) rfl (by decide) (lat hY rfl) rfl rfl (Nat.le_of_ble_eq_true rfl) (by decide) hY (CM.monoi h fun r1 F1 A1 h => ?_)
      refine z_aload_n dX2_leastFirst_24 0 rfl rfl ?_
      refine z_getr (k := 5) (fc := 85) (r := 28) dX2_leastFirst_25 ckX2 (by decide) fk_X2_30 rfl rfl (lat hY rfl) (lgg hY rfl) (by decide) ?_
      refine z_iload_n dX2_leastFirst_28 1 rfl rfl ?_
      have hin2 := h.1
      have h := h.2
      refine z_iald' (n := 256) (x := (A1 28 x1.toNatClampNeg)) dX2_leastFirst_29 (lat hY rfl) (lln hY rfl) hin2 rfl ?_
      refine z_icmp_ne (tgt := 35) dX2_leastFirst_30 (by decide) (fun hb => ?_) (fun hb => ?_)
      · have h := h.1 hb
        exact z_pick [0, 1, 2] rfl (h T G B hY)
      · have h := h.2 hb
        refine z_iload_n dX2_leastFirst_33 2 rfl rfl ?_
        exact z_iretM dX2_leastFirst_34 rfl h
set_option maxHeartbeats 4000000 in
set_option maxRecDepth 100000 in
theorem vX2_leastFirst_35 {l : Launch} {w : Nat → Nat} {nb : Nat} {Q : PM} {x1 x2 : Int32} {F A : MI}  (h : ZM l mX2_leastFirst 2 w nb Q 2 [(0, .ref 7), (1, .int x1), (2, .int (x2 + 1))] [] F A) : ZM l mX2_leastFirst 2 w nb Q 35 [(0, .ref 7), (1, .int x1), (2, .int x2)] [] F A := by
  intro T G B hY
  refine z_iinc (v := (x2 + 1)) (lv' := [(0, .ref 7), (1, .int x1), (2, .int (x2 + 1))]) dX2_leastFirst_35 2 rfl rfl (by decide) rfl ?_
  refine z_goto (tgt := 2) dX2_leastFirst_38 (by decide) ?_
  exact z_pick [0, 1, 2] rfl (h T G B hY)
set_option maxHeartbeats 4000000 in
set_option maxRecDepth 100000 in
theorem vX2_tally_0 {l : Launch} {w : Nat → Nat} {nb : Nat} {Q : PM} {F A : MI} {c : Nat} (hc : c < 6) (h : ZM l mX2_tally 2 w nb Q 7 [(0, .ref 7), (1, .ref (38 + 14 * c)), (2, .int 0)] [] (u2 F 82 7 0) A) : ZM l mX2_tally 2 w nb Q 0 [(0, .ref 7), (1, .ref (38 + 14 * c))] [] F A := by
  intro T G B hY
  refine z_aload_n dX2_tally_0 0 rfl rfl ?_
  refine z_iconst (v := 0) dX2_tally_1 rfl ?_
  refine z_puti (k := 2) (fc := 82) dX2_tally_2 ckX2 (by decide) fk_X2_18 rfl rfl rfl (lat hY rfl) ?_
  refine z_iconst (v := 0) dX2_tally_5 rfl ?_
  refine z_istore_n (lv' := [(0, .ref 7), (1, .ref (38 + 14 * c)), (2, .int 0)]) dX2_tally_6 rfl (by decide) rfl ?_
  exact z_pick [0, 1, 2] rfl (h T G B hY)
theorem kX2_tally {l : Launch} {w : Nat → Nat} {nb : Nat} {Q : PM} {F A : MI} {c : Nat} (hc : c < 6) (h : ZM l mX2_tally 2 w nb Q 7 [(0, .ref 7), (1, .ref (38 + 14 * c)), (2, .int 0)] [] (u2 F 82 7 0) A) : CM l mX2_tally 2 w nb [.ref 7, .ref (38 + 14 * c)] F A Q := CM.ofZ (by decide) (fun _ _ => rfl) (fun _ _ => Nat.le_of_ble_eq_true rfl) (vX2_tally_0 hc h)
set_option maxHeartbeats 4000000 in
set_option maxRecDepth 100000 in
theorem vX2_tally_7 {l : Launch} {w : Nat → Nat} {nb : Nat} {Q : PM} {x2 : Int32} {F A : MI} {c : Nat} (hc : c < 6) (h : ((20 ≤ x2 → ZM l mX2_tally 2 w nb Q 75 [(0, .ref 7), (1, .ref (38 + 14 * c)), (2, .int 0)] [] F A) ∧ (¬ 20 ≤ x2 → (vp_in x2 20 ∧ CM l mX4_holds 1 w nb [.ref (38 + 14 * c), .int x2] F (u2 A 9 x2.toNatClampNeg (-1)) (qi fun r2 F2 A2 => ((r2 = 0 → ZM l mX2_tally 2 w nb Q 67 [(0, .ref 7), (1, .ref (38 + 14 * c)), (2, .int x2)] [] F2 A2) ∧ (¬ r2 = 0 → ((8 ≤ (F2 82 7) → ZM l mX2_tally 2 w nb Q 67 [(0, .ref 7), (1, .ref (38 + 14 * c)), (2, .int x2)] [] F2 A2) ∧ (¬ 8 ≤ (F2 82 7) → (vp_in (F2 82 7) 8 ∧ (vp_in x2 20 ∧ ZM l mX2_tally 2 w nb Q 67 [(0, .ref 7), (1, .ref (38 + 14 * c)), (2, .int x2)] [] (u2 F2 82 7 ((F2 82 7) + 1)) (u2 (u2 A2 8 (F2 82 7).toNatClampNeg x2) 9 x2.toNatClampNeg (F2 82 7))))))))))))) : ZM l mX2_tally 2 w nb Q 7 [(0, .ref 7), (1, .ref (38 + 14 * c)), (2, .int x2)] [] F A := by
  intro T G B hY
  refine z_iload_n dX2_tally_7 2 rfl rfl ?_
  refine z_bipush (v := 20) dX2_tally_8 rfl ?_
  refine z_icmp_ge (tgt := 73) dX2_tally_10 (by decide) (fun hb => ?_) (fun hb => ?_)
  · have h := h.1 hb
    refine z_iconst (v := 0) dX2_tally_73 rfl ?_
    refine z_istore_n (lv' := [(0, .ref 7), (1, .ref (38 + 14 * c)), (2, .int 0)]) dX2_tally_74 rfl (by decide) rfl ?_
    exact z_pick [0, 1, 2] rfl (h T G B hY)
  · have h := h.2 hb
    refine z_aload_n dX2_tally_13 0 rfl rfl ?_
    refine z_getr (k := 1) (fc := 81) (r := 9) dX2_tally_14 ckX2 (by decide) fk_X2_15 rfl rfl (lat hY rfl) (lgg hY rfl) (by decide) ?_
    refine z_iload_n dX2_tally_17 2 rfl rfl ?_
    refine z_iconst (v := (-1)) dX2_tally_18 rfl ?_
    have hin1 := h.1
    have h := h.2
    refine z_iast' (n := 20) dX2_tally_19 (lat hY rfl) (lln hY rfl) hin1 ?_
    refine z_aload_n dX2_tally_20 1 rfl rfl ?_
    refine z_iload_n dX2_tally_21 2 rfl rfl ?_
    refine zm_Vi (As := [.int x2]) (rest := []) dX2_tally_22 okX4_holds ioX4_holds mk_X2_59 (ci := 4) rfl (by decide) (lat4 hY hc) rfl rfl (Nat.le_of_ble_eq_true rfl) (by decide) hY (CM.monoi h fun r2 F2 A2 h => ?_)
    refine z_if_eq (tgt := 67) dX2_tally_25 (by decide) (fun hb => ?_) (fun hb => ?_)
    · have h := h.1 hb
      exact z_pick [0, 1, 2] rfl (h T G B hY)
    · have h := h.2 hb
      refine z_aload_n dX2_tally_28 0 rfl rfl ?_
      refine z_geti' (k := 2) (fc := 82) (x := (F2 82 7)) dX2_tally_29 ckX2 (by decide) fk_X2_18 rfl rfl (lat hY rfl) rfl ?_
      refine z_bipush (v := 8) dX2_tally_32 rfl ?_
      refine z_icmp_ge (tgt := 67) dX2_tally_34 (by decide) (fun hb => ?_) (fun hb => ?_)
      · have h := h.1 hb
        exact z_pick [0, 1, 2] rfl (h T G B hY)
      · have h := h.2 hb
        refine z_aload_n dX2_tally_37 0 rfl rfl ?_
        refine z_getr (k := 0) (fc := 80) (r := 8) dX2_tally_38 ckX2 (by decide) fk_X2_9 rfl rfl (lat hY rfl) (lgg hY rfl) (by decide) ?_
        refine z_aload_n dX2_tally_41 0 rfl rfl ?_
        refine z_geti' (k := 2) (fc := 82) (x := (F2 82 7)) dX2_tally_42 ckX2 (by decide) fk_X2_18 rfl rfl (lat hY rfl) rfl ?_
        refine z_iload_n dX2_tally_45 2 rfl rfl ?_
        have hin3 := h.1
        have h := h.2
        refine z_iast' (n := 8) dX2_tally_46 (lat hY rfl) (lln hY rfl) hin3 ?_
        refine z_aload_n dX2_tally_47 0 rfl rfl ?_
        refine z_getr (k := 1) (fc := 81) (r := 9) dX2_tally_48 ckX2 (by decide) fk_X2_15 rfl rfl (lat hY rfl) (lgg hY rfl) (by decide) ?_
        refine z_iload_n dX2_tally_51 2 rfl rfl ?_
        refine z_aload_n dX2_tally_52 0 rfl rfl ?_
        refine z_geti' (k := 2) (fc := 82) (x := (F2 82 7)) dX2_tally_53 ckX2 (by decide) fk_X2_18 rfl rfl (lat hY rfl) rfl ?_
        have hin4 := h.1
        have h := h.2
        refine z_iast' (n := 20) dX2_tally_56 (lat hY rfl) (lln hY rfl) hin4 ?_
        refine z_aload_n dX2_tally_57 0 rfl rfl ?_
        refine z_dup dX2_tally_58 ?_
        refine z_geti' (k := 2) (fc := 82) (x := (F2 82 7)) dX2_tally_59 ckX2 (by decide) fk_X2_18 rfl rfl (lat hY rfl) rfl ?_
        refine z_iconst (v := 1) dX2_tally_62 rfl ?_
        refine z_iadd dX2_tally_63 ?_
        refine z_puti (k := 2) (fc := 82) dX2_tally_64 ckX2 (by decide) fk_X2_18 rfl rfl rfl (lat hY rfl) ?_
        exact z_pick [0, 1, 2] rfl (h T G B hY)
set_option maxHeartbeats 4000000 in
set_option maxRecDepth 100000 in
theorem vX2_tally_75 {l : Launch} {w : Nat → Nat} {nb : Nat} {Q : PM} {x2 : Int32} {F A : MI} {c : Nat} (hc : c < 6) (h : (((F 82 7) ≤ x2 → ZM l mX2_tally 2 w nb Q 101 [(0, .ref 7), (1, .ref (38 + 14 * c)), (2, .int 0)] [] F A) ∧ (¬ (F 82 7) ≤ x2 → (vp_in x2 8 ∧ CM l mJ7_fill_53178 1 w nb [.ref (11 + x2.toNatClampNeg), .int 0] F A (qv fun F2 A2 => ZM l mX2_tally 2 w nb Q 75 [(0, .ref 7), (1, .ref (38 + 14 * c)), (2, .int (x2 + 1))] [] F2 A2))))) : ZM l mX2_tally 2 w nb Q 75 [(0, .ref 7), (1, .ref (38 + 14 * c)), (2, .int x2)] [] F A := by
  intro T G B hY
  refine z_iload_n dX2_tally_75 2 rfl rfl ?_
  refine z_aload_n dX2_tally_76 0 rfl rfl ?_
  refine z_geti' (k := 2) (fc := 82) (x := (F 82 7)) dX2_tally_77 ckX2 (by decide) fk_X2_18 rfl rfl (lat hY rfl) rfl ?_
  refine z_icmp_ge (tgt := 99) dX2_tally_80 (by decide) (fun hb => ?_) (fun hb => ?_)
  · have h := h.1 hb
    refine z_iconst (v := 0) dX2_tally_99 rfl ?_
    refine z_istore_n (lv' := [(0, .ref 7), (1, .ref (38 + 14 * c)), (2, .int 0)]) dX2_tally_100 rfl (by decide) rfl ?_
    exact z_pick [0, 1, 2] rfl (h T G B hY)
  · have h := h.2 hb
    refine z_aload_n dX2_tally_83 0 rfl rfl ?_
    refine z_getr (k := 3) (fc := 83) (r := 10) dX2_tally_84 ckX2 (by decide) fk_X2_24 rfl rfl (lat hY rfl) (lgg hY rfl) (by decide) ?_
    refine z_iload_n dX2_tally_87 2 rfl rfl ?_
    have hin1 := h.1
    have h := h.2
    refine z_aald' (ci := 13) (n := 8) (r := (11 + x2.toNatClampNeg)) dX2_tally_88 (lat hY rfl) (by decide) (lln hY rfl) hin1 (lbb10 hY (vin hin1)) (by omega) ?_
    refine z_iconst (v := 0) dX2_tally_89 rfl ?_
    refine zm_Sv (As := [.ref (11 + x2.toNatClampNeg), .int 0]) (rest := []) dX2_tally_90 okJ7_fill_53178 smJ7_fill_53178 mk_X2_63 rfl rfl (Nat.le_of_ble_eq_true rfl) (by decide) hY (CM.monov h fun F2 A2 h => ?_)
    refine z_iinc (v := (x2 + 1)) (lv' := [(0, .ref 7), (1, .ref (38 + 14 * c)), (2, .int (x2 + 1))]) dX2_tally_93 2 rfl rfl (by decide) rfl ?_
    refine z_goto (tgt := 75) dX2_tally_96 (by decide) ?_
    exact z_pick [0, 1, 2] rfl (h T G B hY)
set_option maxHeartbeats 4000000 in
set_option maxRecDepth 100000 in
theorem vX2_tally_67 {l : Launch} {w : Nat → Nat} {nb : Nat} {Q : PM} {x2 : Int32} {F A : MI} {c : Nat} (hc : c < 6) (h : ZM l mX2_tally 2 w nb Q 7 [(0, .ref 7), (1, .ref (38 + 14 * c)), (2, .int (x2 + 1))] [] F A) : ZM l mX2_tally 2 w nb Q 67 [(0, .ref 7), (1, .ref (38 + 14 * c)), (2, .int x2)] [] F A := by
  intro T G B hY
  refine z_iinc (v := (x2 + 1)) (lv' := [(0, .ref 7), (1, .ref (38 + 14 * c)), (2, .int (x2 + 1))]) dX2_tally_67 2 rfl rfl (by decide) rfl ?_
  refine z_goto (tgt := 7) dX2_tally_70 (by decide) ?_
  exact z_pick [0, 1, 2] rfl (h T G B hY)
set_option maxHeartbeats 4000000 in
set_option maxRecDepth 100000 in
theorem vX2_tally_101 {l : Launch} {w : Nat → Nat} {nb : Nat} {Q : PM} {x2 : Int32} {F A : MI} {c : Nat} (hc : c < 6) (h : ((6 ≤ x2 → Q none F A) ∧ (¬ 6 ≤ x2 → (vp_in x2 6 ∧ (vp_in x2 6 ∧ CM l mX2_tallyOrder 1 w nb [.ref 7, .ref (38 + 14 * c + 5 + x2.toNatClampNeg), .int (A (38 + 14 * c + 11) x2.toNatClampNeg)] F A (qv fun F3 A3 => ZM l mX2_tally 2 w nb Q 101 [(0, .ref 7), (1, .ref (38 + 14 * c)), (2, .int (x2 + 1))] [] F3 A3)))))) : ZM l mX2_tally 2 w nb Q 101 [(0, .ref 7), (1, .ref (38 + 14 * c)), (2, .int x2)] [] F A := by
  intro T G B hY
  refine z_iload_n dX2_tally_101 2 rfl rfl ?_
  refine z_bipush (v := 6) dX2_tally_102 rfl ?_
  refine z_icmp_ge (tgt := 129) dX2_tally_104 (by decide) (fun hb => ?_) (fun hb => ?_)
  · have h := h.1 hb
    exact z_vretM dX2_tally_129 rfl h
  · have h := h.2 hb
    refine z_aload_n dX2_tally_107 0 rfl rfl ?_
    refine z_aload_n dX2_tally_108 1 rfl rfl ?_
    refine z_getr (k := 4) (fc := 164) (r := (38 + 14 * c + 4)) dX2_tally_109 ckX4 (by decide) fk_X2_69 rfl rfl (lat4 hY hc) (lggc hY 164 4 hc (by decide)) (by omega) ?_
    refine z_iload_n dX2_tally_112 2 rfl rfl ?_
    have hin1 := h.1
    have h := h.2
    refine z_aald' (ci := 13) (n := 6) (r := (38 + 14 * c + 5 + x2.toNatClampNeg)) dX2_tally_113 (latc hY hc 4 (by decide)) (by decide) (llnc hY hc 4 (by decide)) hin1 (lbbc hY hc (vin hin1)) (by omega) ?_
    refine z_aload_n dX2_tally_114 1 rfl rfl ?_
    refine z_getr (k := 5) (fc := 165) (r := (38 + 14 * c + 11)) dX2_tally_115 ckX4 (by decide) fk_X2_72 rfl rfl (lat4 hY hc) (lggc hY 165 11 hc (by decide)) (by omega) ?_
    refine z_iload_n dX2_tally_118 2 rfl rfl ?_
    have hin2 := h.1
    have h := h.2
    refine z_iald' (n := 6) (x := (A (38 + 14 * c + 11) x2.toNatClampNeg)) dX2_tally_119 (latc hY hc 11 (by decide)) (llnc hY hc 11 (by decide)) hin2 rfl ?_
    refine zm_Vv (As := [.ref (38 + 14 * c + 5 + x2.toNatClampNeg), .int (A (38 + 14 * c + 11) x2.toNatClampNeg)]) (rest := []) dX2_tally_120 okX2_tallyOrder ioX2_tallyOrder mk_X2_75 (ci := 2) rfl (by decide) (lat hY rfl) rfl rfl (Nat.le_of_ble_eq_true rfl) (by decide) hY (CM.monov h fun F3 A3 h => ?_)
    refine z_iinc (v := (x2 + 1)) (lv' := [(0, .ref 7), (1, .ref (38 + 14 * c)), (2, .int (x2 + 1))]) dX2_tally_123 2 rfl rfl (by decide) rfl ?_
    refine z_goto (tgt := 101) dX2_tally_126 (by decide) ?_
    exact z_pick [0, 1, 2] rfl (h T G B hY)
set_option maxHeartbeats 4000000 in
set_option maxRecDepth 100000 in
theorem vX3_isAtMeasure_0 {l : Launch} {w : Nat → Nat} {nb : Nat} {Q : PM} {F A : MI}  (h : CM l mX5_peek 1 w nb [.ref 2] F A (qi fun r1 F1 A1 => CM l mX7_isBelow 1 w nb [.int (r1 - 48), .int 3] F1 A1 (qi fun r2 F2 A2 => ((r2 = 0 ∨ r2 = 1) ∧ Q (some (.int r2)) F2 A2)))) : ZM l mX3_isAtMeasure 2 w nb Q 0 [(0, .ref 2)] [] F A := by
  intro T G B hY
  refine z_aload_n dX3_isAtMeasure_0 0 rfl rfl ?_
  refine zm_Vi (As := []) (rest := []) dX3_isAtMeasure_1 okX5_peek ioX5_peek mk_X3_73 (ci := 5) rfl (by decide) (lat hY rfl) rfl rfl (Nat.le_of_ble_eq_true rfl) (by decide) hY (CM.monoi h fun r1 F1 A1 h => ?_)
  refine z_bipush (v := 48) dX3_isAtMeasure_4 rfl ?_
  refine z_isub dX3_isAtMeasure_6 ?_
  refine z_iconst (v := 3) dX3_isAtMeasure_7 rfl ?_
  refine zm_SNi (As := [.int (r1 - 48), .int 3]) (rest := []) dX3_isAtMeasure_8 okX7_isBelow smX7_isBelow (by decide) rfl rfl (Nat.le_of_ble_eq_true rfl) (by decide) hY (CM.monoi h fun r2 F2 A2 h => ?_)
  exact z_zretM dX3_isAtMeasure_11 rfl h.1 h.2
