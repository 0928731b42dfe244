set_option maxHeartbeats 4000000 in
set_option maxRecDepth 100000 in
theorem vX8_pair_0 {l : Launch} {w : Nat → Nat} {nb : Nat} {Q : PM} {F A : MI}  (h : CM l mX8_place 2 w nb [.ref 122, .int (-1)] F A (qi fun r1 F1 A1 => ((¬ (F1 343 122) = 0 → ZM l mX8_pair 3 w nb Q 24 [(0, .ref 122), (1, .int (F 341 122)), (2, .int r1)] [] F1 A1) ∧ ((F1 343 122) = 0 → CM l mX8_must 2 w nb [.ref 122, .int 62] F1 A1 (qv fun F2 A2 => ZM l mX8_pair 3 w nb Q 24 [(0, .ref 122), (1, .int (F 341 122)), (2, .int r1)] [] F2 A2))))) : ZM l mX8_pair 3 w nb Q 0 [(0, .ref 122)] [] F A := by
  intro T G B hY
  refine z_aload_n dX8_pair_0 0 rfl rfl ?_
  refine z_geti' (k := 21) (fc := 341) (x := (F 341 122)) dX8_pair_1 ckX8 (by decide) fk_X8_101 rfl rfl (lat hY rfl) rfl ?_
  refine z_istore_n (lv' := [(0, .ref 122), (1, .int (F 341 122))]) dX8_pair_4 rfl (by decide) rfl ?_
  refine z_aload_n dX8_pair_5 0 rfl rfl ?_
  refine z_iconst (v := (-1)) dX8_pair_6 rfl ?_
  refine zm_Vi (As := [.int (-1)]) (rest := []) dX8_pair_7 okX8_place ioX8_place mk_X8_195 (ci := 8) rfl (by decide) (lat hY rfl) rfl rfl (Nat.le_of_ble_eq_true rfl) (by decide) hY (CM.monoi h fun r1 F1 A1 h => ?_)
  refine z_istore_n (lv' := [(0, .ref 122), (1, .int (F 341 122)), (2, .int r1)]) dX8_pair_10 rfl (by decide) rfl ?_
  refine z_aload_n dX8_pair_11 0 rfl rfl ?_
  refine z_geti' (k := 23) (fc := 343) (x := (F1 343 122)) dX8_pair_12 ckX8 (by decide) fk_X8_107 rfl rfl (lat hY rfl) rfl ?_
  refine z_if_ne (tgt := 24) dX8_pair_15 (by decide) (fun hb => ?_) (fun hb => ?_)
  · have h := h.1 hb
    exact z_pick [0, 1, 2] rfl (h T G B hY)
  · have h := h.2 hb
    refine z_aload_n dX8_pair_18 0 rfl rfl ?_
    refine z_bipush (v := 62) dX8_pair_19 rfl ?_
    refine zm_Vv (As := [.int 62]) (rest := []) dX8_pair_21 okX8_must ioX8_must mk_X8_198 (ci := 8) rfl (by decide) (lat hY rfl) rfl rfl (Nat.le_of_ble_eq_true rfl) (by decide) hY (CM.monov h fun F2 A2 h => ?_)
    exact z_pick [0, 1, 2] rfl (h T G B hY)
theorem kX8_pair {l : Launch} {w : Nat → Nat} {nb : Nat} {Q : PM} {F A : MI}  (h : CM l mX8_place 2 w nb [.ref 122, .int (-1)] F A (qi fun r1 F1 A1 => ((¬ (F1 343 122) = 0 → ZM l mX8_pair 3 w nb Q 24 [(0, .ref 122), (1, .int (F 341 122)), (2, .int r1)] [] F1 A1) ∧ ((F1 343 122) = 0 → CM l mX8_must 2 w nb [.ref 122, .int 62] F1 A1 (qv fun F2 A2 => ZM l mX8_pair 3 w nb Q 24 [(0, .ref 122), (1, .int (F 341 122)), (2, .int r1)] [] F2 A2))))) : CM l mX8_pair 3 w nb [.ref 122] F A Q := CM.ofZ (by decide) (fun _ _ => rfl) (fun _ _ => Nat.le_of_ble_eq_true rfl) (vX8_pair_0  h)
set_option maxHeartbeats 4000000 in
set_option maxRecDepth 100000 in
theorem vX8_pair_24 {l : Launch} {w : Nat → Nat} {nb : Nat} {Q : PM} {x1 x2 : Int32} {F A : MI}  (h : ((¬ (F 343 122) = 0 → ZM l mX8_pair 3 w nb Q 40 [(0, .ref 122), (1, .int x1), (2, .int x2)] [.int 0] F A) ∧ ((F 343 122) = 0 → CM l mX8_place 2 w nb [.ref 122, .int x2] F A (qi fun r1 F1 A1 => ZM l mX8_pair 3 w nb Q 40 [(0, .ref 122), (1, .int x1), (2, .int x2)] [.int r1] F1 A1)))) : ZM l mX8_pair 3 w nb Q 24 [(0, .ref 122), (1, .int x1), (2, .int x2)] [] F A := by
  intro T G B hY
  refine z_aload_n dX8_pair_24 0 rfl rfl ?_
  refine z_geti' (k := 23) (fc := 343) (x := (F 343 122)) dX8_pair_25 ckX8 (by decide) fk_X8_107 rfl rfl (lat hY rfl) rfl ?_
  refine z_if_ne (tgt := 39) dX8_pair_28 (by decide) (fun hb => ?_) (fun hb => ?_)
  · have h := h.1 hb
    refine z_iconst (v := 0) dX8_pair_39 rfl ?_
    exact z_pick [0, 1, 2] rfl (h T G B hY)
  · have h := h.2 hb
    refine z_aload_n dX8_pair_31 0 rfl rfl ?_
    refine z_iload_n dX8_pair_32 2 rfl rfl ?_
    refine zm_Vi (As := [.int x2]) (rest := []) dX8_pair_33 okX8_place ioX8_place mk_X8_195 (ci := 8) rfl (by decide) (lat hY rfl) rfl rfl (Nat.le_of_ble_eq_true rfl) (by decide) hY (CM.monoi h fun r1 F1 A1 h => ?_)
    refine z_goto (tgt := 40) dX8_pair_36 (by decide) ?_
    exact z_pick [0, 1, 2] rfl (h T G B hY)
set_option maxHeartbeats 4000000 in
set_option maxRecDepth 100000 in
theorem vX8_pair_40 {l : Launch} {w : Nat → Nat} {nb : Nat} {Q : PM} {x1 x2 s0 : Int32} {F A : MI}  (h : ((¬ (F 343 122) = 0 → ZM l mX8_pair 3 w nb Q 59 [(0, .ref 122), (2, .int x2), (3, .int s0)] [] F A) ∧ ((F 343 122) = 0 → ((x2 ≤ s0 → ZM l mX8_pair 3 w nb Q 59 [(0, .ref 122), (2, .int x2), (3, .int s0)] [] F A) ∧ (¬ x2 ≤ s0 → CM l mX8_fails 1 w nb [.ref 122, .int 3, .int x1] F A (qv fun F1 A1 => ZM l mX8_pair 3 w nb Q 59 [(0, .ref 122), (2, .int x2), (3, .int s0)] [] F1 A1)))))) : ZM l mX8_pair 3 w nb Q 40 [(0, .ref 122), (1, .int x1), (2, .int x2)] [.int s0] F A := by
  intro T G B hY
  refine z_istore_n (lv' := [(0, .ref 122), (1, .int x1), (2, .int x2), (3, .int s0)]) dX8_pair_40 rfl (by decide) rfl ?_
  refine z_aload_n dX8_pair_41 0 rfl rfl ?_
  refine z_geti' (k := 23) (fc := 343) (x := (F 343 122)) dX8_pair_42 ckX8 (by decide) fk_X8_107 rfl rfl (lat hY rfl) rfl ?_
  refine z_if_ne (tgt := 59) dX8_pair_45 (by decide) (fun hb => ?_) (fun hb => ?_)
  · have h := h.1 hb
    exact z_pick [0, 2, 3] rfl (h T G B hY)
  · have h := h.2 hb
    refine z_iload_n dX8_pair_48 2 rfl rfl ?_
    refine z_iload_n dX8_pair_49 3 rfl rfl ?_
    refine z_icmp_le (tgt := 59) dX8_pair_50 (by decide) (fun hb => ?_) (fun hb => ?_)
    · have h := h.1 hb
      exact z_pick [0, 2, 3] rfl (h T G B hY)
    · have h := h.2 hb
      refine z_aload_n dX8_pair_53 0 rfl rfl ?_
      refine z_iconst (v := 3) dX8_pair_54 rfl ?_
      refine z_iload_n dX8_pair_55 1 rfl rfl ?_
      refine zm_Vv (As := [.int 3, .int x1]) (rest := []) dX8_pair_56 okX8_fails ioX8_fails mk_X8_121 (ci := 8) rfl (by decide) (lat hY rfl) rfl rfl (Nat.le_of_ble_eq_true rfl) (by decide) hY (CM.monov h fun F1 A1 h => ?_)
      exact z_pick [0, 2, 3] rfl (h T G B hY)
set_option maxHeartbeats 4000000 in
set_option maxRecDepth 100000 in
theorem vX8_pair_59 {l : Launch} {w : Nat → Nat} {nb : Nat} {Q : PM} {x2 x3 : Int32} {F A : MI}  (h : ((¬ (F 343 122) = 0 → ZM l mX8_pair 3 w nb Q 72 [(0, .ref 122), (2, .int x2), (3, .int x3)] [] F A) ∧ ((F 343 122) = 0 → CM l mX8_must 2 w nb [.ref 122, .int 58] F A (qv fun F1 A1 => ZM l mX8_pair 3 w nb Q 72 [(0, .ref 122), (2, .int x2), (3, .int x3)] [] F1 A1)))) : ZM l mX8_pair 3 w nb Q 59 [(0, .ref 122), (2, .int x2), (3, .int x3)] [] F A := by
  intro T G B hY
  refine z_aload_n dX8_pair_59 0 rfl rfl ?_
  refine z_geti' (k := 23) (fc := 343) (x := (F 343 122)) dX8_pair_60 ckX8 (by decide) fk_X8_107 rfl rfl (lat hY rfl) rfl ?_
  refine z_if_ne (tgt := 72) dX8_pair_63 (by decide) (fun hb => ?_) (fun hb => ?_)
  · have h := h.1 hb
    exact z_pick [0, 1, 2] rfl (h T G B hY)
  · have h := h.2 hb
    refine z_aload_n dX8_pair_66 0 rfl rfl ?_
    refine z_bipush (v := 58) dX8_pair_67 rfl ?_
    refine zm_Vv (As := [.int 58]) (rest := []) dX8_pair_69 okX8_must ioX8_must mk_X8_198 (ci := 8) rfl (by decide) (lat hY rfl) rfl rfl (Nat.le_of_ble_eq_true rfl) (by decide) hY (CM.monov h fun F1 A1 h => ?_)
    exact z_pick [0, 1, 2] rfl (h T G B hY)
set_option maxHeartbeats 4000000 in
set_option maxRecDepth 100000 in
theorem vX8_pair_72 {l : Launch} {w : Nat → Nat} {nb : Nat} {Q : PM} {x2 x3 : Int32} {F A : MI}  (h : ZM l mX8_pair 3 w nb Q 75 [(0, .ref 122), (2, .int x2), (3, .int x3), (4, .int 0)] [] F A) : ZM l mX8_pair 3 w nb Q 72 [(0, .ref 122), (2, .int x2), (3, .int x3)] [] F A := by
  intro T G B hY
  refine z_iconst (v := 0) dX8_pair_72 rfl ?_
  refine z_istore (lv' := [(0, .ref 122), (2, .int x2), (3, .int x3), (4, .int 0)]) dX8_pair_73 (by decide) rfl ?_
  exact z_pick [0, 1, 2, 3] rfl (h T G B hY)
set_option maxHeartbeats 4000000 in
set_option maxRecDepth 100000 in
theorem vX8_pair_75 {l : Launch} {w : Nat → Nat} {nb : Nat} {Q : PM} {x2 x3 x4 : Int32} {F A : MI}  (h : ((¬ (F 343 122) = 0 → Q none F A) ∧ ((F 343 122) = 0 → ((x4 = 0 → ZM l mX8_pair 3 w nb Q 103 [(0, .ref 122), (2, .int x2), (3, .int x3), (4, .int x4)] [] F A) ∧ (¬ x4 = 0 → CM l mX8_here 1 w nb [.ref 122] F A (qi fun r1 F1 A1 => ((r1 = 45 → ZM l mX8_pair 3 w nb Q 103 [(0, .ref 122), (2, .int x2), (3, .int x3), (4, .int x4)] [] F1 A1) ∧ (¬ r1 = 45 → CM l mX8_seesDigit 2 w nb [.ref 122] F1 A1 (qi fun r2 F2 A2 => ((r2 = 0 → Q none F2 A2) ∧ (¬ r2 = 0 → ZM l mX8_pair 3 w nb Q 103 [(0, .ref 122), (2, .int x2), (3, .int x3), (4, .int x4)] [] F2 A2))))))))))) : ZM l mX8_pair 3 w nb Q 75 [(0, .ref 122), (2, .int x2), (3, .int x3), (4, .int x4)] [] F A := by
  intro T G B hY
  refine z_aload_n dX8_pair_75 0 rfl rfl ?_
  refine z_geti' (k := 23) (fc := 343) (x := (F 343 122)) dX8_pair_76 ckX8 (by decide) fk_X8_107 rfl rfl (lat hY rfl) rfl ?_
  refine z_if_ne (tgt := 281) dX8_pair_79 (by decide) (fun hb => ?_) (fun hb => ?_)
  · have h := h.1 hb
    exact z_vretM dX8_pair_281 rfl h
  · have h := h.2 hb
    refine z_iload dX8_pair_82 3 rfl ?_
    refine z_if_eq (tgt := 103) dX8_pair_84 (by decide) (fun hb => ?_) (fun hb => ?_)
    · have h := h.1 hb
      exact z_pick [0, 1, 2, 3] rfl (h T G B hY)
    · have h := h.2 hb
      refine z_aload_n dX8_pair_87 0 rfl rfl ?_
      refine zm_Vi (As := []) (rest := []) dX8_pair_88 okX8_here ioX8_here mk_X8_113 (ci := 8) rfl (by decide) (lat hY rfl) rfl rfl (Nat.le_of_ble_eq_true rfl) (by decide) hY (CM.monoi h fun r1 F1 A1 h => ?_)
      refine z_bipush (v := 45) dX8_pair_91 rfl ?_
      refine z_icmp_eq (tgt := 103) dX8_pair_93 (by decide) (fun hb => ?_) (fun hb => ?_)
      · have h := h.1 hb
        exact z_pick [0, 1, 2, 3] rfl (h T G B hY)
      · have h := h.2 hb
        refine z_aload_n dX8_pair_96 0 rfl rfl ?_
        refine zm_Vi (As := []) (rest := []) dX8_pair_97 okX8_seesDigit ioX8_seesDigit mk_X8_117 (ci := 8) rfl (by decide) (lat hY rfl) rfl rfl (Nat.le_of_ble_eq_true rfl) (by decide) hY (CM.monoi h fun r2 F2 A2 h => ?_)
        refine z_if_eq (tgt := 281) dX8_pair_100 (by decide) (fun hb => ?_) (fun hb => ?_)
        · have h := h.1 hb
          exact z_vretM dX8_pair_281 rfl h
        · have h := h.2 hb
          exact z_pick [0, 1, 2, 3] rfl (h T G B hY)
set_option maxHeartbeats 4000000 in
set_option maxRecDepth 100000 in
theorem vX8_pair_103 {l : Launch} {w : Nat → Nat} {nb : Nat} {Q : PM} {x2 x3 x4 : Int32} {F A : MI}  (h : ((¬ x4 = 4 → ZM l mX8_pair 3 w nb Q 118 [(0, .ref 122), (2, .int x2), (3, .int x3), (4, .int x4)] [] F A) ∧ (x4 = 4 → CM l mX8_fails 1 w nb [.ref 122, .int 1, .int (F 341 122)] F A (qv fun F1 A1 => ZM l mX8_pair 3 w nb Q 118 [(0, .ref 122), (2, .int x2), (3, .int x3), (4, .int x4)] [] F1 A1)))) : ZM l mX8_pair 3 w nb Q 103 [(0, .ref 122), (2, .int x2), (3, .int x3), (4, .int x4)] [] F A := by
  intro T G B hY
  refine z_iload dX8_pair_103 3 rfl ?_
  refine z_iconst (v := 4) dX8_pair_105 rfl ?_
  refine z_icmp_ne (tgt := 118) dX8_pair_106 (by decide) (fun hb => ?_) (fun hb => ?_)
  · have h := h.1 hb
    exact z_pick [0, 1, 2, 3] rfl (h T G B hY)
  · have h := h.2 hb
    refine z_aload_n dX8_pair_109 0 rfl rfl ?_
    refine z_iconst (v := 1) dX8_pair_110 rfl ?_
    refine z_aload_n dX8_pair_111 0 rfl rfl ?_
    refine z_geti' (k := 21) (fc := 341) (x := (F 341 122)) dX8_pair_112 ckX8 (by decide) fk_X8_101 rfl rfl (lat hY rfl) rfl ?_
    refine zm_Vv (As := [.int 1, .int (F 341 122)]) (rest := []) dX8_pair_115 okX8_fails ioX8_fails mk_X8_121 (ci := 8) rfl (by decide) (lat hY rfl) rfl rfl (Nat.le_of_ble_eq_true rfl) (by decide) hY (CM.monov h fun F1 A1 h => ?_)
    exact z_pick [0, 1, 2, 3] rfl (h T G B hY)
set_option maxHeartbeats 4000000 in
set_option maxRecDepth 100000 in
theorem vX8_pair_118 {l : Launch} {w : Nat → Nat} {nb : Nat} {Q : PM} {x2 x3 x4 : Int32} {F A : MI}  (h : CM l mX8_here 1 w nb [.ref 122] F A (qi fun r1 F1 A1 => ((¬ r1 = 45 → ZM l mX8_pair 3 w nb Q 132 [(0, .ref 122), (2, .int x2), (3, .int x3), (4, .int x4)] [.int 0] F1 A1) ∧ (r1 = 45 → ZM l mX8_pair 3 w nb Q 132 [(0, .ref 122), (2, .int x2), (3, .int x3), (4, .int x4)] [.int 1] F1 A1)))) : ZM l mX8_pair 3 w nb Q 118 [(0, .ref 122), (2, .int x2), (3, .int x3), (4, .int x4)] [] F A := by
  intro T G B hY
  refine z_aload_n dX8_pair_118 0 rfl rfl ?_
  refine zm_Vi (As := []) (rest := []) dX8_pair_119 okX8_here ioX8_here mk_X8_113 (ci := 8) rfl (by decide) (lat hY rfl) rfl rfl (Nat.le_of_ble_eq_true rfl) (by decide) hY (CM.monoi h fun r1 F1 A1 h => ?_)
  refine z_bipush (v := 45) dX8_pair_122 rfl ?_
  refine z_icmp_ne (tgt := 131) dX8_pair_124 (by decide) (fun hb => ?_) (fun hb => ?_)
  · have h := h.1 hb
    refine z_iconst (v := 0) dX8_pair_131 rfl ?_
    exact z_pick [0, 1, 2, 3] rfl (h T G B hY)
  · have h := h.2 hb
    refine z_iconst (v := 1) dX8_pair_127 rfl ?_
    refine z_goto (tgt := 132) dX8_pair_128 (by decide) ?_
    exact z_pick [0, 1, 2, 3] rfl (h T G B hY)
set_option maxHeartbeats 4000000 in
set_option maxRecDepth 100000 in
theorem vX8_pair_132 {l : Launch} {w : Nat → Nat} {nb : Nat} {Q : PM} {x2 x3 x4 s0 : Int32} {F A : MI}  (h : ((s0 = 0 → ZM l mX8_pair 3 w nb Q 149 [(0, .ref 122), (2, .int x2), (3, .int x3), (4, .int x4), (5, .int s0)] [.int 0, .int (F 341 122), .ref 122] F A) ∧ (¬ s0 = 0 → ZM l mX8_pair 3 w nb Q 149 [(0, .ref 122), (2, .int x2), (3, .int x3), (4, .int x4), (5, .int s0)] [.int 1, .int (F 341 122), .ref 122] F A))) : ZM l mX8_pair 3 w nb Q 132 [(0, .ref 122), (2, .int x2), (3, .int x3), (4, .int x4)] [.int s0] F A := by
  intro T G B hY
  refine z_istore (lv' := [(0, .ref 122), (2, .int x2), (3, .int x3), (4, .int x4), (5, .int s0)]) dX8_pair_132 (by decide) rfl ?_
  refine z_aload_n dX8_pair_134 0 rfl rfl ?_
  refine z_dup dX8_pair_135 ?_
  refine z_geti' (k := 21) (fc := 341) (x := (F 341 122)) dX8_pair_136 ckX8 (by decide) fk_X8_101 rfl rfl (lat hY rfl) rfl ?_
  refine z_iload dX8_pair_139 4 rfl ?_
  refine z_if_eq (tgt := 148) dX8_pair_141 (by decide) (fun hb => ?_) (fun hb => ?_)
  · have h := h.1 hb
    refine z_iconst (v := 0) dX8_pair_148 rfl ?_
    exact z_pick [0, 1, 2, 3, 4] rfl (h T G B hY)
  · have h := h.2 hb
    refine z_iconst (v := 1) dX8_pair_144 rfl ?_
    refine z_goto (tgt := 149) dX8_pair_145 (by decide) ?_
    exact z_pick [0, 1, 2, 3, 4] rfl (h T G B hY)
set_option maxHeartbeats 4000000 in
set_option maxRecDepth 100000 in
theorem vX8_pair_149 {l : Launch} {w : Nat → Nat} {nb : Nat} {Q : PM} {x2 x3 x4 x5 s0 s1 : Int32} {F A : MI}  (h : CM l mX8_here 1 w nb [.ref 122] (u2 F 341 122 (s1 + s0)) A (qi fun r1 F1 A1 => CM l mX8_lies 1 w nb [.int (r1 - 48), .int 0, .int 2] F1 A1 (qi fun r2 F2 A2 => ((¬ r2 = 0 → ZM l mX8_pair 3 w nb Q 181 [(0, .ref 122), (2, .int x2), (3, .int x3), (4, .int x4), (5, .int x5), (6, .int (r1 - 48))] [] F2 A2) ∧ (r2 = 0 → CM l mX8_fails 1 w nb [.ref 122, .int 1, .int (F2 341 122)] F2 A2 (qv fun F3 A3 => ZM l mX8_pair 3 w nb Q 181 [(0, .ref 122), (2, .int x2), (3, .int x3), (4, .int x4), (5, .int x5), (6, .int (r1 - 48))] [] F3 A3)))))) : ZM l mX8_pair 3 w nb Q 149 [(0, .ref 122), (2, .int x2), (3, .int x3), (4, .int x4), (5, .int x5)] [.int s0, .int s1, .ref 122] F A := by
  intro T G B hY
  refine z_iadd dX8_pair_149 ?_
  refine z_puti (k := 21) (fc := 341) dX8_pair_150 ckX8 (by decide) fk_X8_101 rfl rfl rfl (lat hY rfl) ?_
  refine z_aload_n dX8_pair_153 0 rfl rfl ?_
  refine zm_Vi (As := []) (rest := []) dX8_pair_154 okX8_here ioX8_here mk_X8_113 (ci := 8) rfl (by decide) (lat hY rfl) rfl rfl (Nat.le_of_ble_eq_true rfl) (by decide) hY (CM.monoi h fun r1 F1 A1 h => ?_)
  refine z_bipush (v := 48) dX8_pair_157 rfl ?_
  refine z_isub dX8_pair_159 ?_
  refine z_istore (lv' := [(0, .ref 122), (2, .int x2), (3, .int x3), (4, .int x4), (5, .int x5), (6, .int (r1 - 48))]) dX8_pair_160 (by decide) rfl ?_
  refine z_iload dX8_pair_162 5 rfl ?_
  refine z_iconst (v := 0) dX8_pair_164 rfl ?_
  refine z_iconst (v := 2) dX8_pair_165 rfl ?_
  refine zm_Si (As := [.int (r1 - 48), .int 0, .int 2]) (rest := []) dX8_pair_166 okX8_lies smX8_lies mk_X8_87 rfl rfl (Nat.le_of_ble_eq_true rfl) (by decide) hY (CM.monoi h fun r2 F2 A2 h => ?_)
  refine z_if_ne (tgt := 181) dX8_pair_169 (by decide) (fun hb => ?_) (fun hb => ?_)
  · have h := h.1 hb
    exact z_pick [0, 1, 2, 3, 4, 5] rfl (h T G B hY)
  · have h := h.2 hb
    refine z_aload_n dX8_pair_172 0 rfl rfl ?_
    refine z_iconst (v := 1) dX8_pair_173 rfl ?_
    refine z_aload_n dX8_pair_174 0 rfl rfl ?_
    refine z_geti' (k := 21) (fc := 341) (x := (F2 341 122)) dX8_pair_175 ckX8 (by decide) fk_X8_101 rfl rfl (lat hY rfl) rfl ?_
    refine zm_Vv (As := [.int 1, .int (F2 341 122)]) (rest := []) dX8_pair_178 okX8_fails ioX8_fails mk_X8_121 (ci := 8) rfl (by decide) (lat hY rfl) rfl rfl (Nat.le_of_ble_eq_true rfl) (by decide) hY (CM.monov h fun F3 A3 h => ?_)
    exact z_pick [0, 1, 2, 3, 4, 5] rfl (h T G B hY)
set_option maxHeartbeats 4000000 in
set_option maxRecDepth 100000 in
theorem vX8_pair_181 {l : Launch} {w : Nat → Nat} {nb : Nat} {Q : PM} {x2 x3 x4 x5 x6 : Int32} {F A : MI}  (h : (((F 343 122) ≤ 0 → (vp_in (x2 - 1) 8 ∧ (vp_in ((3 * (A 143 (x2 - 1).toNatClampNeg)) + x6) 60 ∧ (vp_in (x3 - 1) 8 ∧ (vp_in ((3 * (A 143 (x3 - 1).toNatClampNeg)) + x6) 60 ∧ ((x5 = 0 → (((A 128 ((3 * (A 143 (x2 - 1).toNatClampNeg)) + x6).toNatClampNeg) ≤ (A 128 ((3 * (A 143 (x3 - 1).toNatClampNeg)) + x6).toNatClampNeg) → ZM l mX8_pair 3 w nb Q 260 [(0, .ref 122), (2, .int x2), (3, .int x3), (4, .int x4)] [.int (F 350 122), .ref 122] F A) ∧ (¬ (A 128 ((3 * (A 143 (x2 - 1).toNatClampNeg)) + x6).toNatClampNeg) ≤ (A 128 ((3 * (A 143 (x3 - 1).toNatClampNeg)) + x6).toNatClampNeg) → ZM l mX8_pair 3 w nb Q 256 [(0, .ref 122), (2, .int x2), (3, .int x3), (4, .int x4)] [.int (F 350 122), .ref 122] F A))) ∧ (¬ x5 = 0 → (((A 128 ((3 * (A 143 (x3 - 1).toNatClampNeg)) + x6).toNatClampNeg) ≤ (A 128 ((3 * (A 143 (x2 - 1).toNatClampNeg)) + x6).toNatClampNeg) → ZM l mX8_pair 3 w nb Q 260 [(0, .ref 122), (2, .int x2), (3, .int x3), (4, .int x4)] [.int (F 350 122), .ref 122] F A) ∧ (¬ (A 128 ((3 * (A 143 (x3 - 1).toNatClampNeg)) + x6).toNatClampNeg) ≤ (A 128 ((3 * (A 143 (x2 - 1).toNatClampNeg)) + x6).toNatClampNeg) → ZM l mX8_pair 3 w nb Q 256 [(0, .ref 122), (2, .int x2), (3, .int x3), (4, .int x4)] [.int (F 350 122), .ref 122] F A))))))))) ∧ (¬ (F 343 122) ≤ 0 → Q none F A))) : ZM l mX8_pair 3 w nb Q 181 [(0, .ref 122), (2, .int x2), (3, .int x3), (4, .int x4), (5, .int x5), (6, .int x6)] [] F A := by
  intro T G B hY
  refine z_aload_n dX8_pair_181 0 rfl rfl ?_
  refine z_geti' (k := 23) (fc := 343) (x := (F 343 122)) dX8_pair_182 ckX8 (by decide) fk_X8_107 rfl rfl (lat hY rfl) rfl ?_
  refine z_if_le (tgt := 189) dX8_pair_185 (by decide) (fun hb => ?_) (fun hb => ?_)
  · have h := h.1 hb
    refine z_aload_n dX8_pair_189 0 rfl rfl ?_
    refine z_getr (k := 8) (fc := 328) (r := 128) dX8_pair_190 ckX8 (by decide) fk_X8_30 rfl rfl (lat hY rfl) (lgg hY rfl) (by decide) ?_
    refine z_iconst (v := 3) dX8_pair_193 rfl ?_
    refine z_aload_n dX8_pair_194 0 rfl rfl ?_
    refine z_getr (k := 29) (fc := 349) (r := 143) dX8_pair_195 ckX8 (by decide) fk_X8_75 rfl rfl (lat hY rfl) (lgg hY rfl) (by decide) ?_
    refine z_iload_n dX8_pair_198 1 rfl rfl ?_
    refine z_iconst (v := 1) dX8_pair_199 rfl ?_
    refine z_isub dX8_pair_200 ?_
    have hin1 := h.1
    have h := h.2
    refine z_iald' (n := 8) (x := (A 143 (x2 - 1).toNatClampNeg)) dX8_pair_201 (lat hY rfl) (lln hY rfl) hin1 rfl ?_
    refine z_imul dX8_pair_202 ?_
    refine z_iload dX8_pair_203 5 rfl ?_
    refine z_iadd dX8_pair_205 ?_
    have hin2 := h.1
    have h := h.2
    refine z_iald' (n := 60) (x := (A 128 ((3 * (A 143 (x2 - 1).toNatClampNeg)) + x6).toNatClampNeg)) dX8_pair_206 (lat hY rfl) (lln hY rfl) hin2 rfl ?_
    refine z_istore (lv' := [(0, .ref 122), (2, .int x2), (3, .int x3), (4, .int x4), (5, .int x5), (6, .int x6), (7, .int (A 128 ((3 * (A 143 (x2 - 1).toNatClampNeg)) + x6).toNatClampNeg))]) dX8_pair_207 (by decide) rfl ?_
    refine z_aload_n dX8_pair_209 0 rfl rfl ?_
    refine z_getr (k := 8) (fc := 328) (r := 128) dX8_pair_210 ckX8 (by decide) fk_X8_30 rfl rfl (lat hY rfl) (lgg hY rfl) (by decide) ?_
    refine z_iconst (v := 3) dX8_pair_213 rfl ?_
    refine z_aload_n dX8_pair_214 0 rfl rfl ?_
    refine z_getr (k := 29) (fc := 349) (r := 143) dX8_pair_215 ckX8 (by decide) fk_X8_75 rfl rfl (lat hY rfl) (lgg hY rfl) (by decide) ?_
    refine z_iload_n dX8_pair_218 2 rfl rfl ?_
    refine z_iconst (v := 1) dX8_pair_219 rfl ?_
    refine z_isub dX8_pair_220 ?_
    have hin3 := h.1
    have h := h.2
    refine z_iald' (n := 8) (x := (A 143 (x3 - 1).toNatClampNeg)) dX8_pair_221 (lat hY rfl) (lln hY rfl) hin3 rfl ?_
    refine z_imul dX8_pair_222 ?_
    refine z_iload dX8_pair_223 5 rfl ?_
    refine z_iadd dX8_pair_225 ?_
    have hin4 := h.1
    have h := h.2
    refine z_iald' (n := 60) (x := (A 128 ((3 * (A 143 (x3 - 1).toNatClampNeg)) + x6).toNatClampNeg)) dX8_pair_226 (lat hY rfl) (lln hY rfl) hin4 rfl ?_
    refine z_istore (lv' := [(0, .ref 122), (2, .int x2), (3, .int x3), (4, .int x4), (5, .int x5), (6, .int x6), (7, .int (A 128 ((3 * (A 143 (x2 - 1).toNatClampNeg)) + x6).toNatClampNeg)), (8, .int (A 128 ((3 * (A 143 (x3 - 1).toNatClampNeg)) + x6).toNatClampNeg))]) dX8_pair_227 (by decide) rfl ?_
    refine z_aload_n dX8_pair_229 0 rfl rfl ?_
    refine z_dup dX8_pair_230 ?_
    refine z_geti' (k := 30) (fc := 350) (x := (F 350 122)) dX8_pair_231 ckX8 (by decide) fk_X8_201 rfl rfl (lat hY rfl) rfl ?_
    refine z_iload dX8_pair_234 4 rfl ?_
    refine z_if_eq (tgt := 249) dX8_pair_236 (by decide) (fun hb => ?_) (fun hb => ?_)
    · have h := h.1 hb
      refine z_iload dX8_pair_249 6 rfl ?_
      refine z_iload dX8_pair_251 7 rfl ?_
      refine z_icmp_le (tgt := 260) dX8_pair_253 (by decide) (fun hb => ?_) (fun hb => ?_)
      · have h := h.1 hb
        exact z_pick [0, 1, 2, 3] rfl (h T G B hY)
      · have h := h.2 hb
        exact z_pick [0, 1, 2, 3] rfl (h T G B hY)
    · have h := h.2 hb
      refine z_iload dX8_pair_239 7 rfl ?_
      refine z_iload dX8_pair_241 6 rfl ?_
      refine z_icmp_le (tgt := 260) dX8_pair_243 (by decide) (fun hb => ?_) (fun hb => ?_)
      · have h := h.1 hb
        exact z_pick [0, 1, 2, 3] rfl (h T G B hY)
      · have h := h.2 hb
        refine z_goto (tgt := 256) dX8_pair_246 (by decide) ?_
        exact z_pick [0, 1, 2, 3] rfl (h T G B hY)
  · have h := h.2 hb
    exact z_vretM dX8_pair_188 rfl h
set_option maxHeartbeats 4000000 in
set_option maxRecDepth 100000 in
theorem vX8_pair_260 {l : Launch} {w : Nat → Nat} {nb : Nat} {Q : PM} {x2 x3 x4 s0 : Int32} {F A : MI}  (h : ZM l mX8_pair 3 w nb Q 261 [(0, .ref 122), (2, .int x2), (3, .int x3), (4, .int x4)] [.int (-1), .int s0, .ref 122] F A) : ZM l mX8_pair 3 w nb Q 260 [(0, .ref 122), (2, .int x2), (3, .int x3), (4, .int x4)] [.int s0, .ref 122] F A := by
  intro T G B hY
  refine z_iconst (v := (-1)) dX8_pair_260 rfl ?_
  exact z_pick [0, 1, 2, 3] rfl (h T G B hY)
set_option maxHeartbeats 4000000 in
set_option maxRecDepth 100000 in
theorem vX8_pair_256 {l : Launch} {w : Nat → Nat} {nb : Nat} {Q : PM} {x2 x3 x4 s0 : Int32} {F A : MI}  (h : ZM l mX8_pair 3 w nb Q 261 [(0, .ref 122), (2, .int x2), (3, .int x3), (4, .int x4)] [.int 2, .int s0, .ref 122] F A) : ZM l mX8_pair 3 w nb Q 256 [(0, .ref 122), (2, .int x2), (3, .int x3), (4, .int x4)] [.int s0, .ref 122] F A := by
  intro T G B hY
  refine z_iconst (v := 2) dX8_pair_256 rfl ?_
  refine z_goto (tgt := 261) dX8_pair_257 (by decide) ?_
  exact z_pick [0, 1, 2, 3] rfl (h T G B hY)
set_option maxHeartbeats 4000000 in
set_option maxRecDepth 100000 in
theorem vX8_pair_261 {l : Launch} {w : Nat → Nat} {nb : Nat} {Q : PM} {x2 x3 x4 s0 s1 : Int32} {F A : MI}  (h : ZM l mX8_pair 3 w nb Q 75 [(0, .ref 122), (2, .int x2), (3, .int x3), (4, .int (x4 + 1))] [] (u2 (u2 F 350 122 (s1 + s0)) 341 122 ((F 341 122) + 1)) A) : ZM l mX8_pair 3 w nb Q 261 [(0, .ref 122), (2, .int x2), (3, .int x3), (4, .int x4)] [.int s0, .int s1, .ref 122] F A := by
  intro T G B hY
  refine z_iadd dX8_pair_261 ?_
  refine z_puti (k := 30) (fc := 350) dX8_pair_262 ckX8 (by decide) fk_X8_201 rfl rfl rfl (lat hY rfl) ?_
  refine z_aload_n dX8_pair_265 0 rfl rfl ?_
  refine z_dup dX8_pair_266 ?_
  refine z_geti' (k := 21) (fc := 341) (x := (F 341 122)) dX8_pair_267 ckX8 (by decide) fk_X8_101 rfl rfl (lat hY rfl) ((u2_n1 (by decide)).trans rfl) ?_
  refine z_iconst (v := 1) dX8_pair_270 rfl ?_
  refine z_iadd dX8_pair_271 ?_
  refine z_puti (k := 21) (fc := 341) dX8_pair_272 ckX8 (by decide) fk_X8_101 rfl rfl rfl (lat hY rfl) ?_
  refine z_iinc (v := (x4 + 1)) (lv' := [(0, .ref 122), (2, .int x2), (3, .int x3), (4, .int (x4 + 1))]) dX8_pair_275 3 rfl rfl (by decide) rfl ?_
  refine z_goto (tgt := 75) dX8_pair_278 (by decide) ?_
  exact z_pick [0, 1, 2, 3] rfl (h T G B hY)
set_option maxHeartbeats 4000000 in
set_option maxRecDepth 100000 in
theorem vX8_protest_0 {l : Launch} {w : Nat → Nat} {nb : Nat} {Q : PM} {x1 x2 : Int32} {F A : MI}  (h : CM l mX8_isClass 2 w nb [.int x1] F A (qi fun r1 F1 A1 => ((r1 = 0 → Q (some (.int 0)) F1 A1) ∧ (¬ r1 = 0 → CM l mX8_isBeast 2 w nb [.ref 122, .int x2] F1 A1 (qi fun r2 F2 A2 => ((r2 = 0 → Q (some (.int 0)) F2 A2) ∧ (¬ r2 = 0 → (vp_in x1 6 ∧ CM l mX8_has 1 w nb [.int (A2 134 x1.toNatClampNeg), .int x2] F2 A2 (qi fun r4 F4 A4 => ((¬ r4 = 0 → (vp_in x1 6 ∧ (vp_in x1 6 ∧ (vp_in x1 6 ∧ (vp_in x1 6 ∧ Q (some (.int 1)) F4 (u2 (u2 A4 134 x1.toNatClampNeg ((A4 134 x1.toNatClampNeg) &&& ((1 <<< (x2 &&& 31)) ^^^ (-1)))) 135 x1.toNatClampNeg ((A4 135 x1.toNatClampNeg) ||| (1 <<< (x2 &&& 31))))))))) ∧ (r4 = 0 → Q (some (.int 0)) F4 A4))))))))))) : ZM l mX8_protest 3 w nb Q 0 [(0, .ref 122), (1, .int x1), (2, .int x2)] [] F A := by
  intro T G B hY
  refine z_iload_n dX8_protest_0 1 rfl rfl ?_
  refine zm_Si (As := [.int x1]) (rest := []) dX8_protest_1 okX8_isClass smX8_isClass mk_X8_139 rfl rfl (Nat.le_of_ble_eq_true rfl) (by decide) hY (CM.monoi h fun r1 F1 A1 h => ?_)
  refine z_if_eq (tgt := 28) dX8_protest_4 (by decide) (fun hb => ?_) (fun hb => ?_)
  · have h := h.1 hb
    refine z_iconst (v := 0) dX8_protest_28 rfl ?_
    exact z_zretM dX8_protest_29 rfl (by decide) h
  · have h := h.2 hb
    refine z_aload_n dX8_protest_7 0 rfl rfl ?_
    refine z_iload_n dX8_protest_8 2 rfl rfl ?_
    refine zm_Vi (As := [.int x2]) (rest := []) dX8_protest_9 okX8_isBeast ioX8_isBeast mk_X8_149 (ci := 8) rfl (by decide) (lat hY rfl) rfl rfl (Nat.le_of_ble_eq_true rfl) (by decide) hY (CM.monoi h fun r2 F2 A2 h => ?_)
    refine z_if_eq (tgt := 28) dX8_protest_12 (by decide) (fun hb => ?_) (fun hb => ?_)
    · have h := h.1 hb
      refine z_iconst (v := 0) dX8_protest_28 rfl ?_
      exact z_zretM dX8_protest_29 rfl (by decide) h
    · have h := h.2 hb
      refine z_aload_n dX8_protest_15 0 rfl rfl ?_
      refine z_getr (k := 15) (fc := 335) (r := 134) dX8_protest_16 ckX8 (by decide) fk_X8_48 rfl rfl (lat hY rfl) (lgg hY rfl) (by decide) ?_
      refine z_iload_n dX8_protest_19 1 rfl rfl ?_
      have hin3 := h.1
      have h := h.2
      refine z_iald' (n := 6) (x := (A2 134 x1.toNatClampNeg)) dX8_protest_20 (lat hY rfl) (lln hY rfl) hin3 rfl ?_
      refine z_iload_n dX8_protest_21 2 rfl rfl ?_
      refine zm_Si (As := [.int (A2 134 x1.toNatClampNeg), .int x2]) (rest := []) dX8_protest_22 okX8_has smX8_has mk_X8_152 rfl rfl (Nat.le_of_ble_eq_true rfl) (by decide) hY (CM.monoi h fun r4 F4 A4 h => ?_)
      refine z_if_ne (tgt := 30) dX8_protest_25 (by decide) (fun hb => ?_) (fun hb => ?_)
      · have h := h.1 hb
        refine z_aload_n dX8_protest_30 0 rfl rfl ?_
        refine z_getr (k := 15) (fc := 335) (r := 134) dX8_protest_31 ckX8 (by decide) fk_X8_48 rfl rfl (lat hY rfl) (lgg hY rfl) (by decide) ?_
        refine z_iload_n dX8_protest_34 1 rfl rfl ?_
        refine z_dup2 dX8_protest_35 ?_
        have hin5 := h.1
        have h := h.2
        refine z_iald' (n := 6) (x := (A4 134 x1.toNatClampNeg)) dX8_protest_36 (lat hY rfl) (lln hY rfl) hin5 rfl ?_
        refine z_iconst (v := 1) dX8_protest_37 rfl ?_
        refine z_iload_n dX8_protest_38 2 rfl rfl ?_
        refine z_ishl dX8_protest_39 ?_
        refine z_iconst (v := (-1)) dX8_protest_40 rfl ?_
        refine z_ixor dX8_protest_41 ?_
        refine z_iand dX8_protest_42 ?_
        have hin6 := h.1
        have h := h.2
        refine z_iast' (n := 6) dX8_protest_43 (lat hY rfl) (lln hY rfl) hin6 ?_
        refine z_aload_n dX8_protest_44 0 rfl rfl ?_
        refine z_getr (k := 16) (fc := 336) (r := 135) dX8_protest_45 ckX8 (by decide) fk_X8_51 rfl rfl (lat hY rfl) (lgg hY rfl) (by decide) ?_
        refine z_iload_n dX8_protest_48 1 rfl rfl ?_
        refine z_dup2 dX8_protest_49 ?_
        have hin7 := h.1
        have h := h.2
        refine z_iald' (n := 6) (x := (A4 135 x1.toNatClampNeg)) dX8_protest_50 (lat hY rfl) (lln hY rfl) hin7 ((u2_n1 (by omega)).trans rfl) ?_
        refine z_iconst (v := 1) dX8_protest_51 rfl ?_
        refine z_iload_n dX8_protest_52 2 rfl rfl ?_
        refine z_ishl dX8_protest_53 ?_
        refine z_ior dX8_protest_54 ?_
        have hin8 := h.1
        have h := h.2
        refine z_iast' (n := 6) dX8_protest_55 (lat hY rfl) (lln hY rfl) hin8 ?_
        refine z_iconst (v := 1) dX8_protest_56 rfl ?_
        exact z_zretM dX8_protest_57 rfl (by decide) h
      · have h := h.2 hb
        refine z_iconst (v := 0) dX8_protest_28 rfl ?_
        exact z_zretM dX8_protest_29 rfl (by decide) h
theorem kX8_protest {l : Launch} {w : Nat → Nat} {nb : Nat} {Q : PM} {x1 x2 : Int32} {F A : MI}  (h : CM l mX8_isClass 2 w nb [.int x1] F A (qi fun r1 F1 A1 => ((r1 = 0 → Q (some (.int 0)) F1 A1) ∧ (¬ r1 = 0 → CM l mX8_isBeast 2 w nb [.ref 122, .int x2] F1 A1 (qi fun r2 F2 A2 => ((r2 = 0 → Q (some (.int 0)) F2 A2) ∧ (¬ r2 = 0 → (vp_in x1 6 ∧ CM l mX8_has 1 w nb [.int (A2 134 x1.toNatClampNeg), .int x2] F2 A2 (qi fun r4 F4 A4 => ((¬ r4 = 0 → (vp_in x1 6 ∧ (vp_in x1 6 ∧ (vp_in x1 6 ∧ (vp_in x1 6 ∧ Q (some (.int 1)) F4 (u2 (u2 A4 134 x1.toNatClampNeg ((A4 134 x1.toNatClampNeg) &&& ((1 <<< (x2 &&& 31)) ^^^ (-1)))) 135 x1.toNatClampNeg ((A4 135 x1.toNatClampNeg) ||| (1 <<< (x2 &&& 31))))))))) ∧ (r4 = 0 → Q (some (.int 0)) F4 A4))))))))))) : CM l mX8_protest 3 w nb [.ref 122, .int x1, .int x2] F A Q := CM.ofZ (by decide) (fun _ _ => rfl) (fun _ _ => Nat.le_of_ble_eq_true rfl) (vX8_protest_0  h)
set_option maxHeartbeats 4000000 in
set_option maxRecDepth 100000 in
theorem vX8_readNumber_0 {l : Launch} {w : Nat → Nat} {nb : Nat} {Q : PM} {F A : MI}  (h : CM l mX8_seesDigit 2 w nb [.ref 122] F A (qi fun r1 F1 A1 => ((¬ r1 = 0 → ZM l mX8_readNumber 3 w nb Q 23 [(0, .ref 122), (1, .int (F 341 122)), (2, .int 0)] [] F1 A1) ∧ (r1 = 0 → CM l mX8_fails 1 w nb [.ref 122, .int 1, .int (F1 341 122)] F1 A1 (qv fun F2 A2 => ZM l mX8_readNumber 3 w nb Q 23 [(0, .ref 122), (1, .int (F 341 122)), (2, .int 0)] [] F2 A2))))) : ZM l mX8_readNumber 3 w nb Q 0 [(0, .ref 122)] [] F A := by
  intro T G B hY
  refine z_aload_n dX8_readNumber_0 0 rfl rfl ?_
  refine z_geti' (k := 21) (fc := 341) (x := (F 341 122)) dX8_readNumber_1 ckX8 (by decide) fk_X8_101 rfl rfl (lat hY rfl) rfl ?_
  refine z_istore_n (lv' := [(0, .ref 122), (1, .int (F 341 122))]) dX8_readNumber_4 rfl (by decide) rfl ?_
  refine z_iconst (v := 0) dX8_readNumber_5 rfl ?_
  refine z_istore_n (lv' := [(0, .ref 122), (1, .int (F 341 122)), (2, .int 0)]) dX8_readNumber_6 rfl (by decide) rfl ?_
  refine z_aload_n dX8_readNumber_7 0 rfl rfl ?_
  refine zm_Vi (As := []) (rest := []) dX8_readNumber_8 okX8_seesDigit ioX8_seesDigit mk_X8_117 (ci := 8) rfl (by decide) (lat hY rfl) rfl rfl (Nat.le_of_ble_eq_true rfl) (by decide) hY (CM.monoi h fun r1 F1 A1 h => ?_)
  refine z_if_ne (tgt := 23) dX8_readNumber_11 (by decide) (fun hb => ?_) (fun hb => ?_)
  · have h := h.1 hb
    exact z_pick [0, 1, 2] rfl (h T G B hY)
  · have h := h.2 hb
    refine z_aload_n dX8_readNumber_14 0 rfl rfl ?_
    refine z_iconst (v := 1) dX8_readNumber_15 rfl ?_
    refine z_aload_n dX8_readNumber_16 0 rfl rfl ?_
    refine z_geti' (k := 21) (fc := 341) (x := (F1 341 122)) dX8_readNumber_17 ckX8 (by decide) fk_X8_101 rfl rfl (lat hY rfl) rfl ?_
    refine zm_Vv (As := [.int 1, .int (F1 341 122)]) (rest := []) dX8_readNumber_20 okX8_fails ioX8_fails mk_X8_121 (ci := 8) rfl (by decide) (lat hY rfl) rfl rfl (Nat.le_of_ble_eq_true rfl) (by decide) hY (CM.monov h fun F2 A2 h => ?_)
    exact z_pick [0, 1, 2] rfl (h T G B hY)
theorem kX8_readNumber {l : Launch} {w : Nat → Nat} {nb : Nat} {Q : PM} {F A : MI}  (h : CM l mX8_seesDigit 2 w nb [.ref 122] F A (qi fun r1 F1 A1 => ((¬ r1 = 0 → ZM l mX8_readNumber 3 w nb Q 23 [(0, .ref 122), (1, .int (F 341 122)), (2, .int 0)] [] F1 A1) ∧ (r1 = 0 → CM l mX8_fails 1 w nb [.ref 122, .int 1, .int (F1 341 122)] F1 A1 (qv fun F2 A2 => ZM l mX8_readNumber 3 w nb Q 23 [(0, .ref 122), (1, .int (F 341 122)), (2, .int 0)] [] F2 A2))))) : CM l mX8_readNumber 3 w nb [.ref 122] F A Q := CM.ofZ (by decide) (fun _ _ => rfl) (fun _ _ => Nat.le_of_ble_eq_true rfl) (vX8_readNumber_0  h)
set_option maxHeartbeats 4000000 in
set_option maxRecDepth 100000 in
theorem vX8_readNumber_23 {l : Launch} {w : Nat → Nat} {nb : Nat} {Q : PM} {x1 x2 : Int32} {F A : MI}  (h : ((¬ (F 343 122) = 0 → Q (some (.int x2)) F A) ∧ ((F 343 122) = 0 → CM l mX8_seesDigit 2 w nb [.ref 122] F A (qi fun r1 F1 A1 => ((r1 = 0 → Q (some (.int x2)) F1 A1) ∧ (¬ r1 = 0 → ((¬ (F1 341 122) = (x1 + 4) → ZM l mX8_readNumber 3 w nb Q 56 [(0, .ref 122), (1, .int x1), (2, .int x2)] [] F1 A1) ∧ ((F1 341 122) = (x1 + 4) → CM l mX8_fails 1 w nb [.ref 122, .int 1, .int (F1 341 122)] F1 A1 (qv fun F2 A2 => ZM l mX8_readNumber 3 w nb Q 56 [(0, .ref 122), (1, .int x1), (2, .int x2)] [] F2 A2))))))))) : ZM l mX8_readNumber 3 w nb Q 23 [(0, .ref 122), (1, .int x1), (2, .int x2)] [] F A := by
  intro T G B hY
  refine z_aload_n dX8_readNumber_23 0 rfl rfl ?_
  refine z_geti' (k := 23) (fc := 343) (x := (F 343 122)) dX8_readNumber_24 ckX8 (by decide) fk_X8_107 rfl rfl (lat hY rfl) rfl ?_
  refine z_if_ne (tgt := 82) dX8_readNumber_27 (by decide) (fun hb => ?_) (fun hb => ?_)
  · have h := h.1 hb
    refine z_iload_n dX8_readNumber_82 2 rfl rfl ?_
    exact z_iretM dX8_readNumber_83 rfl h
  · have h := h.2 hb
    refine z_aload_n dX8_readNumber_30 0 rfl rfl ?_
    refine zm_Vi (As := []) (rest := []) dX8_readNumber_31 okX8_seesDigit ioX8_seesDigit mk_X8_117 (ci := 8) rfl (by decide) (lat hY rfl) rfl rfl (Nat.le_of_ble_eq_true rfl) (by decide) hY (CM.monoi h fun r1 F1 A1 h => ?_)
    refine z_if_eq (tgt := 82) dX8_readNumber_34 (by decide) (fun hb => ?_) (fun hb => ?_)
    · have h := h.1 hb
      refine z_iload_n dX8_readNumber_82 2 rfl rfl ?_
      exact z_iretM dX8_readNumber_83 rfl h
    · have h := h.2 hb
      refine z_aload_n dX8_readNumber_37 0 rfl rfl ?_
      refine z_geti' (k := 21) (fc := 341) (x := (F1 341 122)) dX8_readNumber_38 ckX8 (by decide) fk_X8_101 rfl rfl (lat hY rfl) rfl ?_
      refine z_iload_n dX8_readNumber_41 1 rfl rfl ?_
      refine z_iconst (v := 4) dX8_readNumber_42 rfl ?_
      refine z_iadd dX8_readNumber_43 ?_
      refine z_icmp_ne (tgt := 56) dX8_readNumber_44 (by decide) (fun hb => ?_) (fun hb => ?_)
      · have h := h.1 hb
        exact z_pick [0, 1, 2] rfl (h T G B hY)
      · have h := h.2 hb
        refine z_aload_n dX8_readNumber_47 0 rfl rfl ?_
        refine z_iconst (v := 1) dX8_readNumber_48 rfl ?_
        refine z_aload_n dX8_readNumber_49 0 rfl rfl ?_
        refine z_geti' (k := 21) (fc := 341) (x := (F1 341 122)) dX8_readNumber_50 ckX8 (by decide) fk_X8_101 rfl rfl (lat hY rfl) rfl ?_
        refine zm_Vv (As := [.int 1, .int (F1 341 122)]) (rest := []) dX8_readNumber_53 okX8_fails ioX8_fails mk_X8_121 (ci := 8) rfl (by decide) (lat hY rfl) rfl rfl (Nat.le_of_ble_eq_true rfl) (by decide) hY (CM.monov h fun F2 A2 h => ?_)
        exact z_pick [0, 1, 2] rfl (h T G B hY)
set_option maxHeartbeats 4000000 in
set_option maxRecDepth 100000 in
theorem vX8_readNumber_56 {l : Launch} {w : Nat → Nat} {nb : Nat} {Q : PM} {x1 x2 : Int32} {F A : MI}  (h : CM l mX8_here 1 w nb [.ref 122] F A (qi fun r1 F1 A1 => ZM l mX8_readNumber 3 w nb Q 23 [(0, .ref 122), (1, .int x1), (2, .int (((10 * x2) + r1) - 48))] [] (u2 F1 341 122 ((F1 341 122) + 1)) A1)) : ZM l mX8_readNumber 3 w nb Q 56 [(0, .ref 122), (1, .int x1), (2, .int x2)] [] F A := by
  intro T G B hY
  refine z_bipush (v := 10) dX8_readNumber_56 rfl ?_
  refine z_iload_n dX8_readNumber_58 2 rfl rfl ?_
  refine z_imul dX8_readNumber_59 ?_
  refine z_aload_n dX8_readNumber_60 0 rfl rfl ?_
  refine zm_Vi (As := []) (rest := [.int (10 * x2)]) dX8_readNumber_61 okX8_here ioX8_here mk_X8_113 (ci := 8) rfl (by decide) (lat hY rfl) rfl rfl (Nat.le_of_ble_eq_true rfl) (by decide) hY (CM.monoi h fun r1 F1 A1 h => ?_)
  refine z_iadd dX8_readNumber_64 ?_
  refine z_bipush (v := 48) dX8_readNumber_65 rfl ?_
  refine z_isub dX8_readNumber_67 ?_
  refine z_istore_n (lv' := [(0, .ref 122), (1, .int x1), (2, .int (((10 * x2) + r1) - 48))]) dX8_readNumber_68 rfl (by decide) rfl ?_
  refine z_aload_n dX8_readNumber_69 0 rfl rfl ?_
  refine z_dup dX8_readNumber_70 ?_
  refine z_geti' (k := 21) (fc := 341) (x := (F1 341 122)) dX8_readNumber_71 ckX8 (by decide) fk_X8_101 rfl rfl (lat hY rfl) rfl ?_
  refine z_iconst (v := 1) dX8_readNumber_74 rfl ?_
  refine z_iadd dX8_readNumber_75 ?_
  refine z_puti (k := 21) (fc := 341) dX8_readNumber_76 ckX8 (by decide) fk_X8_101 rfl rfl rfl (lat hY rfl) ?_
  refine z_goto (tgt := 23) dX8_readNumber_79 (by decide) ?_
  exact z_pick [0, 1, 2] rfl (h T G B hY)
set_option maxHeartbeats 4000000 in
set_option maxRecDepth 100000 in
theorem vX8_card_0 {l : Launch} {w : Nat → Nat} {nb : Nat} {Q : PM} {x1 : Int32} {F A : MI}  (h : CM l mX8_isClass 2 w nb [.int x1] F A (qi fun r1 F1 A1 => ((¬ r1 = 0 → CM l mX8_joins 3 w nb [.ref 122, .int x1] F1 A1 (qv fun F2 A2 => ((4 ≤ (F2 345 122) → ZM l mX8_card 4 w nb Q 30 [(0, .ref 122), (1, .int x1)] [.int 4] F2 A2) ∧ (¬ 4 ≤ (F2 345 122) → ZM l mX8_card 4 w nb Q 30 [(0, .ref 122), (1, .int x1)] [.int (F2 345 122)] F2 A2)))) ∧ (r1 = 0 → Q (some (.int (-1))) F1 A1)))) : ZM l mX8_card 4 w nb Q 0 [(0, .ref 122), (1, .int x1)] [] F A := by
  intro T G B hY
  refine z_iload_n dX8_card_0 1 rfl rfl ?_
  refine zm_Si (As := [.int x1]) (rest := []) dX8_card_1 okX8_isClass smX8_isClass mk_X8_139 rfl rfl (Nat.le_of_ble_eq_true rfl) (by decide) hY (CM.monoi h fun r1 F1 A1 h => ?_)
  refine z_if_ne (tgt := 9) dX8_card_4 (by decide) (fun hb => ?_) (fun hb => ?_)
  · have h := h.1 hb
    refine z_aload_n dX8_card_9 0 rfl rfl ?_
    refine z_iload_n dX8_card_10 1 rfl rfl ?_
    refine zm_Vv (As := [.int x1]) (rest := []) dX8_card_11 okX8_joins ioX8_joins mk_X8_186 (ci := 8) rfl (by decide) (lat hY rfl) rfl rfl (Nat.le_of_ble_eq_true rfl) (by decide) hY (CM.monov h fun F2 A2 h => ?_)
    refine z_aload_n dX8_card_14 0 rfl rfl ?_
    refine z_geti' (k := 25) (fc := 345) (x := (F2 345 122)) dX8_card_15 ckX8 (by decide) fk_X8_176 rfl rfl (lat hY rfl) rfl ?_
    refine z_iconst (v := 4) dX8_card_18 rfl ?_
    refine z_icmp_ge (tgt := 29) dX8_card_19 (by decide) (fun hb => ?_) (fun hb => ?_)
    · have h := h.1 hb
      refine z_iconst (v := 4) dX8_card_29 rfl ?_
      exact z_pick [0, 1] rfl (h T G B hY)
    · have h := h.2 hb
      refine z_aload_n dX8_card_22 0 rfl rfl ?_
      refine z_geti' (k := 25) (fc := 345) (x := (F2 345 122)) dX8_card_23 ckX8 (by decide) fk_X8_176 rfl rfl (lat hY rfl) rfl ?_
      refine z_goto (tgt := 30) dX8_card_26 (by decide) ?_
      exact z_pick [0, 1] rfl (h T G B hY)
  · have h := h.2 hb
    refine z_iconst (v := (-1)) dX8_card_7 rfl ?_
    exact z_iretM dX8_card_8 rfl h
theorem kX8_card {l : Launch} {w : Nat → Nat} {nb : Nat} {Q : PM} {x1 : Int32} {F A : MI}  (h : CM l mX8_isClass 2 w nb [.int x1] F A (qi fun r1 F1 A1 => ((¬ r1 = 0 → CM l mX8_joins 3 w nb [.ref 122, .int x1] F1 A1 (qv fun F2 A2 => ((4 ≤ (F2 345 122) → ZM l mX8_card 4 w nb Q 30 [(0, .ref 122), (1, .int x1)] [.int 4] F2 A2) ∧ (¬ 4 ≤ (F2 345 122) → ZM l mX8_card 4 w nb Q 30 [(0, .ref 122), (1, .int x1)] [.int (F2 345 122)] F2 A2)))) ∧ (r1 = 0 → Q (some (.int (-1))) F1 A1)))) : CM l mX8_card 4 w nb [.ref 122, .int x1] F A Q := CM.ofZ (by decide) (fun _ _ => rfl) (fun _ _ => Nat.le_of_ble_eq_true rfl) (vX8_card_0  h)
set_option maxHeartbeats 4000000 in
set_option maxRecDepth 100000 in
theorem vX8_card_30 {l : Launch} {w : Nat → Nat} {nb : Nat} {Q : PM} {x1 s0 : Int32} {F A : MI}  (h : (((F 345 122) < 2 → Q (some (.int (-1))) F A) ∧ (¬ (F 345 122) < 2 → ((s0 ≤ (F 321 122) → ZM l mX8_card 4 w nb Q 59 [(0, .ref 122), (1, .int x1), (2, .int s0), (3, .int 0), (4, .int 0)] [] (u2 F 321 122 0) A) ∧ (¬ s0 ≤ (F 321 122) → Q (some (.int (-1))) F A))))) : ZM l mX8_card 4 w nb Q 30 [(0, .ref 122), (1, .int x1)] [.int s0] F A := by
  intro T G B hY
  refine z_istore_n (lv' := [(0, .ref 122), (1, .int x1), (2, .int s0)]) dX8_card_30 rfl (by decide) rfl ?_
  refine z_aload_n dX8_card_31 0 rfl rfl ?_
  refine z_geti' (k := 25) (fc := 345) (x := (F 345 122)) dX8_card_32 ckX8 (by decide) fk_X8_176 rfl rfl (lat hY rfl) rfl ?_
  refine z_iconst (v := 2) dX8_card_35 rfl ?_
  refine z_icmp_lt (tgt := 47) dX8_card_36 (by decide) (fun hb => ?_) (fun hb => ?_)
  · have h := h.1 hb
    refine z_iconst (v := (-1)) dX8_card_47 rfl ?_
    exact z_iretM dX8_card_48 rfl h
  · have h := h.2 hb
    refine z_aload_n dX8_card_39 0 rfl rfl ?_
    refine z_geti' (k := 1) (fc := 321) (x := (F 321 122)) dX8_card_40 ckX8 (by decide) fk_X8_94 rfl rfl (lat hY rfl) rfl ?_
    refine z_iload_n dX8_card_43 2 rfl rfl ?_
    refine z_icmp_ge (tgt := 49) dX8_card_44 (by decide) (fun hb => ?_) (fun hb => ?_)
    · have h := h.1 hb
      refine z_aload_n dX8_card_49 0 rfl rfl ?_
      refine z_iconst (v := 0) dX8_card_50 rfl ?_
      refine z_puti (k := 1) (fc := 321) dX8_card_51 ckX8 (by decide) fk_X8_94 rfl rfl rfl (lat hY rfl) ?_
      refine z_iconst (v := 0) dX8_card_54 rfl ?_
      refine z_istore_n (lv' := [(0, .ref 122), (1, .int x1), (2, .int s0), (3, .int 0)]) dX8_card_55 rfl (by decide) rfl ?_
      refine z_iconst (v := 0) dX8_card_56 rfl ?_
      refine z_istore (lv' := [(0, .ref 122), (1, .int x1), (2, .int s0), (3, .int 0), (4, .int 0)]) dX8_card_57 (by decide) rfl ?_
      exact z_pick [0, 1, 2, 3, 4] rfl (h T G B hY)
    · have h := h.2 hb
      refine z_iconst (v := (-1)) dX8_card_47 rfl ?_
      exact z_iretM dX8_card_48 rfl h
set_option maxHeartbeats 4000000 in
set_option maxRecDepth 100000 in
theorem vX8_card_59 {l : Launch} {w : Nat → Nat} {nb : Nat} {Q : PM} {x1 x2 x3 x4 : Int32} {F A : MI}  (h : ((x2 ≤ x4 → CM l mX8_isRowOf 2 w nb [.ref 122, .int x3] F A (qi fun r1 F1 A1 => ((¬ r1 = 0 → ZM l mX8_card 4 w nb Q 100 [(0, .ref 122), (1, .int x1), (2, .int x2), (4, .int 50), (5, .int 0)] [] F1 A1) ∧ (r1 = 0 → Q (some (.int (-1))) F1 A1)))) ∧ (¬ x2 ≤ x4 → (vp_in x4 8 ∧ ZM l mX8_card 4 w nb Q 59 [(0, .ref 122), (1, .int x1), (2, .int x2), (3, .int (x3 ||| (1 <<< ((A 143 x4.toNatClampNeg) &&& 31)))), (4, .int (x4 + 1))] [] F A)))) : ZM l mX8_card 4 w nb Q 59 [(0, .ref 122), (1, .int x1), (2, .int x2), (3, .int x3), (4, .int x4)] [] F A := by
  intro T G B hY
  refine z_iload dX8_card_59 4 rfl ?_
  refine z_iload_n dX8_card_61 2 rfl rfl ?_
  refine z_icmp_ge (tgt := 83) dX8_card_62 (by decide) (fun hb => ?_) (fun hb => ?_)
  · have h := h.1 hb
    refine z_aload_n dX8_card_83 0 rfl rfl ?_
    refine z_iload_n dX8_card_84 3 rfl rfl ?_
    refine zm_Vi (As := [.int x3]) (rest := []) dX8_card_85 okX8_isRowOf ioX8_isRowOf mk_X8_166 (ci := 8) rfl (by decide) (lat hY rfl) rfl rfl (Nat.le_of_ble_eq_true rfl) (by decide) hY (CM.monoi h fun r1 F1 A1 h => ?_)
    refine z_if_ne (tgt := 93) dX8_card_88 (by decide) (fun hb => ?_) (fun hb => ?_)
    · have h := h.1 hb
      refine z_bipush (v := 50) dX8_card_93 rfl ?_
      refine z_istore (lv' := [(0, .ref 122), (1, .int x1), (2, .int x2), (3, .int x3), (4, .int 50)]) dX8_card_95 (by decide) rfl ?_
      refine z_iconst (v := 0) dX8_card_97 rfl ?_
      refine z_istore (lv' := [(0, .ref 122), (1, .int x1), (2, .int x2), (3, .int x3), (4, .int 50), (5, .int 0)]) dX8_card_98 (by decide) rfl ?_
      exact z_pick [0, 1, 2, 4, 5] rfl (h T G B hY)
    · have h := h.2 hb
      refine z_iconst (v := (-1)) dX8_card_91 rfl ?_
      exact z_iretM dX8_card_92 rfl h
  · have h := h.2 hb
    refine z_iload_n dX8_card_65 3 rfl rfl ?_
    refine z_iconst (v := 1) dX8_card_66 rfl ?_
    refine z_aload_n dX8_card_67 0 rfl rfl ?_
    refine z_getr (k := 29) (fc := 349) (r := 143) dX8_card_68 ckX8 (by decide) fk_X8_75 rfl rfl (lat hY rfl) (lgg hY rfl) (by decide) ?_
    refine z_iload dX8_card_71 4 rfl ?_
    have hin2 := h.1
    have h := h.2
    refine z_iald' (n := 8) (x := (A 143 x4.toNatClampNeg)) dX8_card_73 (lat hY rfl) (lln hY rfl) hin2 rfl ?_
    refine z_ishl dX8_card_74 ?_
    refine z_ior dX8_card_75 ?_
    refine z_istore_n (lv' := [(0, .ref 122), (1, .int x1), (2, .int x2), (3, .int (x3 ||| (1 <<< ((A 143 x4.toNatClampNeg) &&& 31)))), (4, .int x4)]) dX8_card_76 rfl (by decide) rfl ?_
    refine z_iinc (v := (x4 + 1)) (lv' := [(0, .ref 122), (1, .int x1), (2, .int x2), (3, .int (x3 ||| (1 <<< ((A 143 x4.toNatClampNeg) &&& 31)))), (4, .int (x4 + 1))]) dX8_card_77 4 rfl rfl (by decide) rfl ?_
    refine z_goto (tgt := 59) dX8_card_80 (by decide) ?_
    exact z_pick [0, 1, 2, 3, 4] rfl (h T G B hY)
set_option maxHeartbeats 4000000 in
set_option maxRecDepth 100000 in
theorem vX8_card_100 {l : Launch} {w : Nat → Nat} {nb : Nat} {Q : PM} {x1 x2 x4 x5 : Int32} {F A : MI}  (h : ((x2 ≤ x5 → ((0 ≤ x4 → Q (some (.int x4)) F A) ∧ (¬ 0 ≤ x4 → Q (some (.int 0)) F A))) ∧ (¬ x2 ≤ x5 → ZM l mX8_card 4 w nb Q 112 [(0, .ref 122), (1, .int x1), (2, .int x2), (4, .int x4), (5, .int x5), (6, .int (x5 + 1))] [] F A))) : ZM l mX8_card 4 w nb Q 100 [(0, .ref 122), (1, .int x1), (2, .int x2), (4, .int x4), (5, .int x5)] [] F A := by
  intro T G B hY
  refine z_iload dX8_card_100 4 rfl ?_
  refine z_iload_n dX8_card_102 2 rfl rfl ?_
  refine z_icmp_ge (tgt := 191) dX8_card_103 (by decide) (fun hb => ?_) (fun hb => ?_)
  · have h := h.1 hb
    refine z_iload dX8_card_191 3 rfl ?_
    refine z_if_ge (tgt := 200) dX8_card_193 (by decide) (fun hb => ?_) (fun hb => ?_)
    · have h := h.1 hb
      refine z_iload dX8_card_200 3 rfl ?_
      exact z_iretM dX8_card_202 rfl h
    · have h := h.2 hb
      refine z_iconst (v := 0) dX8_card_196 rfl ?_
      refine z_goto (tgt := 202) dX8_card_197 (by decide) ?_
      exact z_iretM dX8_card_202 rfl h
  · have h := h.2 hb
    refine z_iload dX8_card_106 4 rfl ?_
    refine z_iconst (v := 1) dX8_card_108 rfl ?_
    refine z_iadd dX8_card_109 ?_
    refine z_istore (lv' := [(0, .ref 122), (1, .int x1), (2, .int x2), (4, .int x4), (5, .int x5), (6, .int (x5 + 1))]) dX8_card_110 (by decide) rfl ?_
    exact z_pick [0, 1, 2, 3, 4, 5] rfl (h T G B hY)
set_option maxHeartbeats 4000000 in
set_option maxRecDepth 100000 in
theorem vX8_card_112 {l : Launch} {w : Nat → Nat} {nb : Nat} {Q : PM} {x1 x2 x4 x5 x6 : Int32} {F A : MI}  (h : ((x2 ≤ x6 → ZM l mX8_card 4 w nb Q 100 [(0, .ref 122), (1, .int x1), (2, .int x2), (4, .int x4), (5, .int (x5 + 1))] [] F A) ∧ (¬ x2 ≤ x6 → (vp_in x5 80 ∧ CM l mX8_placeNow 1 w nb [.ref 122, .int (A 123 x5.toNatClampNeg)] F A (qi fun r2 F2 A2 => (vp_in x6 80 ∧ CM l mX8_placeNow 1 w nb [.ref 122, .int (A2 123 x6.toNatClampNeg)] F2 A2 (qi fun r4 F4 A4 => ZM l mX8_card 4 w nb Q 148 [(0, .ref 122), (1, .int x1), (2, .int x2), (4, .int x4), (5, .int x5), (6, .int x6), (7, .int r2), (9, .int r4)] [] F4 A4))))))) : ZM l mX8_card 4 w nb Q 112 [(0, .ref 122), (1, .int x1), (2, .int x2), (4, .int x4), (5, .int x5), (6, .int x6)] [] F A := by
  intro T G B hY
  refine z_iload dX8_card_112 5 rfl ?_
  refine z_iload_n dX8_card_114 2 rfl rfl ?_
  refine z_icmp_ge (tgt := 185) dX8_card_115 (by decide) (fun hb => ?_) (fun hb => ?_)
  · have h := h.1 hb
    refine z_iinc (v := (x5 + 1)) (lv' := [(0, .ref 122), (1, .int x1), (2, .int x2), (4, .int x4), (5, .int (x5 + 1)), (6, .int x6)]) dX8_card_185 4 rfl rfl (by decide) rfl ?_
    refine z_goto (tgt := 100) dX8_card_188 (by decide) ?_
    exact z_pick [0, 1, 2, 3, 4] rfl (h T G B hY)
  · have h := h.2 hb
    refine z_aload_n dX8_card_118 0 rfl rfl ?_
    refine z_aload_n dX8_card_119 0 rfl rfl ?_
    refine z_getr (k := 0) (fc := 320) (r := 123) dX8_card_120 ckX8 (by decide) fk_X8_7 rfl rfl (lat hY rfl) (lgg hY rfl) (by decide) ?_
    refine z_iload dX8_card_123 4 rfl ?_
    have hin1 := h.1
    have h := h.2
    refine z_bald' (n := 80) (x := (A 123 x5.toNatClampNeg)) dX8_card_125 (lat hY rfl) (lln hY rfl) hin1 rfl ?_
    refine zm_Vi (As := [.int (A 123 x5.toNatClampNeg)]) (rest := []) dX8_card_126 okX8_placeNow ioX8_placeNow mk_X8_192 (ci := 8) rfl (by decide) (lat hY rfl) rfl rfl (Nat.le_of_ble_eq_true rfl) (by decide) hY (CM.monoi h fun r2 F2 A2 h => ?_)
    refine z_istore (lv' := [(0, .ref 122), (1, .int x1), (2, .int x2), (4, .int x4), (5, .int x5), (6, .int x6), (7, .int r2)]) dX8_card_129 (by decide) rfl ?_
    refine z_aload_n dX8_card_131 0 rfl rfl ?_
    refine z_aload_n dX8_card_132 0 rfl rfl ?_
    refine z_getr (k := 0) (fc := 320) (r := 123) dX8_card_133 ckX8 (by decide) fk_X8_7 rfl rfl (lat hY rfl) (lgg hY rfl) (by decide) ?_
    refine z_iload dX8_card_136 5 rfl ?_
    have hin3 := h.1
    have h := h.2
    refine z_bald' (n := 80) (x := (A2 123 x6.toNatClampNeg)) dX8_card_138 (lat hY rfl) (lln hY rfl) hin3 rfl ?_
    refine zm_Vi (As := [.int (A2 123 x6.toNatClampNeg)]) (rest := []) dX8_card_139 okX8_placeNow ioX8_placeNow mk_X8_192 (ci := 8) rfl (by decide) (lat hY rfl) rfl rfl (Nat.le_of_ble_eq_true rfl) (by decide) hY (CM.monoi h fun r4 F4 A4 h => ?_)
    refine z_istore (lv' := [(0, .ref 122), (1, .int x1), (2, .int x2), (4, .int x4), (5, .int x5), (6, .int x6), (7, .int r2), (8, .int r4)]) dX8_card_142 (by decide) rfl ?_
    refine z_iload dX8_card_144 7 rfl ?_
    refine z_istore (lv' := [(0, .ref 122), (1, .int x1), (2, .int x2), (4, .int x4), (5, .int x5), (6, .int x6), (7, .int r2), (8, .int r4), (9, .int r4)]) dX8_card_146 (by decide) rfl ?_
    exact z_pick [0, 1, 2, 3, 4, 5, 6, 8] rfl (h T G B hY)
set_option maxHeartbeats 4000000 in
set_option maxRecDepth 100000 in
theorem vX8_card_148 {l : Launch} {w : Nat → Nat} {nb : Nat} {Q : PM} {x1 x2 x4 x5 x6 x7 x9 : Int32} {F A : MI}  (h : ((x7 ≤ x9 → ZM l mX8_card 4 w nb Q 112 [(0, .ref 122), (1, .int x1), (2, .int x2), (4, .int x4), (5, .int x5), (6, .int (x6 + 1))] [] F A) ∧ (¬ x7 ≤ x9 → (vp_in (((3 * x1) + x9) - 1) 18 ∧ ZM l mX8_card 4 w nb Q 148 [(0, .ref 122), (1, .int x1), (2, .int x2), (4, .int (x4 - (A 139 (((3 * x1) + x9) - 1).toNatClampNeg))), (5, .int x5), (6, .int x6), (7, .int x7), (9, .int (x9 + 1))] [] F A)))) : ZM l mX8_card 4 w nb Q 148 [(0, .ref 122), (1, .int x1), (2, .int x2), (4, .int x4), (5, .int x5), (6, .int x6), (7, .int x7), (9, .int x9)] [] F A := by
  intro T G B hY
  refine z_iload dX8_card_148 7 rfl ?_
  refine z_iload dX8_card_150 6 rfl ?_
  refine z_icmp_ge (tgt := 179) dX8_card_152 (by decide) (fun hb => ?_) (fun hb => ?_)
  · have h := h.1 hb
    refine z_iinc (v := (x6 + 1)) (lv' := [(0, .ref 122), (1, .int x1), (2, .int x2), (4, .int x4), (5, .int x5), (6, .int (x6 + 1)), (7, .int x7), (9, .int x9)]) dX8_card_179 5 rfl rfl (by decide) rfl ?_
    refine z_goto (tgt := 112) dX8_card_182 (by decide) ?_
    exact z_pick [0, 1, 2, 3, 4, 5] rfl (h T G B hY)
  · have h := h.2 hb
    refine z_iload dX8_card_155 3 rfl ?_
    refine z_aload_n dX8_card_157 0 rfl rfl ?_
    refine z_getr (k := 20) (fc := 340) (r := 139) dX8_card_158 ckX8 (by decide) fk_X8_63 rfl rfl (lat hY rfl) (lgg hY rfl) (by decide) ?_
    refine z_iconst (v := 3) dX8_card_161 rfl ?_
    refine z_iload_n dX8_card_162 1 rfl rfl ?_
    refine z_imul dX8_card_163 ?_
    refine z_iload dX8_card_164 7 rfl ?_
    refine z_iadd dX8_card_166 ?_
    refine z_iconst (v := 1) dX8_card_167 rfl ?_
    refine z_isub dX8_card_168 ?_
    have hin1 := h.1
    have h := h.2
    refine z_iald' (n := 18) (x := (A 139 (((3 * x1) + x9) - 1).toNatClampNeg)) dX8_card_169 (lat hY rfl) (lln hY rfl) hin1 rfl ?_
    refine z_isub dX8_card_170 ?_
    refine z_istore (lv' := [(0, .ref 122), (1, .int x1), (2, .int x2), (4, .int (x4 - (A 139 (((3 * x1) + x9) - 1).toNatClampNeg))), (5, .int x5), (6, .int x6), (7, .int x7), (9, .int x9)]) dX8_card_171 (by decide) rfl ?_
    refine z_iinc (v := (x9 + 1)) (lv' := [(0, .ref 122), (1, .int x1), (2, .int x2), (4, .int (x4 - (A 139 (((3 * x1) + x9) - 1).toNatClampNeg))), (5, .int x5), (6, .int x6), (7, .int x7), (9, .int (x9 + 1))]) dX8_card_173 7 rfl rfl (by decide) rfl ?_
    refine z_goto (tgt := 148) dX8_card_176 (by decide) ?_
    exact z_pick [0, 1, 2, 3, 4, 5, 6, 7] rfl (h T G B hY)
set_option maxHeartbeats 4000000 in
set_option maxRecDepth 100000 in
theorem vX8_enter_0 {l : Launch} {w : Nat → Nat} {nb : Nat} {Q : PM} {x1 x2 : Int32} {F A : MI}  (h : CM l mX8_isClass 2 w nb [.int x1] F A (qi fun r1 F1 A1 => ((r1 = 0 → Q (some (.int 0)) F1 A1) ∧ (¬ r1 = 0 → CM l mX8_isBeast 2 w nb [.ref 122, .int x2] F1 A1 (qi fun r2 F2 A2 => ((r2 = 0 → Q (some (.int 0)) F2 A2) ∧ (¬ r2 = 0 → (vp_in x1 6 ∧ (vp_in x1 6 ∧ CM l mX8_has 1 w nb [.int ((A2 134 x1.toNatClampNeg) ||| (A2 135 x1.toNatClampNeg)), .int x2] F2 A2 (qi fun r5 F5 A5 => ((¬ r5 = 0 → Q (some (.int 0)) F5 A5) ∧ (r5 = 0 → CM l mX8_isLet 3 w nb [.ref 122, .int x1, .int x2] F5 A5 (qi fun r6 F6 A6 => ((r6 = 0 → Q (some (.int 0)) F6 A6) ∧ (¬ r6 = 0 → (vp_in x1 6 ∧ CM l mX8_sizeOf 1 w nb [.int (A6 134 x1.toNatClampNeg)] F6 A6 (qi fun r8 F8 A8 => ((¬ r8 = 8 → (vp_in x1 6 ∧ (vp_in x1 6 ∧ ZM l mX8_enter 4 w nb Q 74 [(0, .ref 122), (1, .int x1), (3, .int 0)] [] F8 (u2 A8 134 x1.toNatClampNeg ((A8 134 x1.toNatClampNeg) ||| (1 <<< (x2 &&& 31))))))) ∧ (r8 = 8 → Q (some (.int 0)) F8 A8))))))))))))))))))) : ZM l mX8_enter 4 w nb Q 0 [(0, .ref 122), (1, .int x1), (2, .int x2)] [] F A := by
  intro T G B hY
  refine z_iload_n dX8_enter_0 1 rfl rfl ?_
  refine zm_Si (As := [.int x1]) (rest := []) dX8_enter_1 okX8_isClass smX8_isClass mk_X8_139 rfl rfl (Nat.le_of_ble_eq_true rfl) (by decide) hY (CM.monoi h fun r1 F1 A1 h => ?_)
  refine z_if_eq (tgt := 58) dX8_enter_4 (by decide) (fun hb => ?_) (fun hb => ?_)
  · have h := h.1 hb
    refine z_iconst (v := 0) dX8_enter_58 rfl ?_
    exact z_zretM dX8_enter_59 rfl (by decide) h
  · have h := h.2 hb
    refine z_aload_n dX8_enter_7 0 rfl rfl ?_
    refine z_iload_n dX8_enter_8 2 rfl rfl ?_
    refine zm_Vi (As := [.int x2]) (rest := []) dX8_enter_9 okX8_isBeast ioX8_isBeast mk_X8_149 (ci := 8) rfl (by decide) (lat hY rfl) rfl rfl (Nat.le_of_ble_eq_true rfl) (by decide) hY (CM.monoi h fun r2 F2 A2 h => ?_)
    refine z_if_eq (tgt := 58) dX8_enter_12 (by decide) (fun hb => ?_) (fun hb => ?_)
    · have h := h.1 hb
      refine z_iconst (v := 0) dX8_enter_58 rfl ?_
      exact z_zretM dX8_enter_59 rfl (by decide) h
    · have h := h.2 hb
      refine z_aload_n dX8_enter_15 0 rfl rfl ?_
      refine z_getr (k := 15) (fc := 335) (r := 134) dX8_enter_16 ckX8 (by decide) fk_X8_48 rfl rfl (lat hY rfl) (lgg hY rfl) (by decide) ?_
      refine z_iload_n dX8_enter_19 1 rfl rfl ?_
      have hin3 := h.1
      have h := h.2
      refine z_iald' (n := 6) (x := (A2 134 x1.toNatClampNeg)) dX8_enter_20 (lat hY rfl) (lln hY rfl) hin3 rfl ?_
      refine z_aload_n dX8_enter_21 0 rfl rfl ?_
      refine z_getr (k := 16) (fc := 336) (r := 135) dX8_enter_22 ckX8 (by decide) fk_X8_51 rfl rfl (lat hY rfl) (lgg hY rfl) (by decide) ?_
      refine z_iload_n dX8_enter_25 1 rfl rfl ?_
      have hin4 := h.1
      have h := h.2
      refine z_iald' (n := 6) (x := (A2 135 x1.toNatClampNeg)) dX8_enter_26 (lat hY rfl) (lln hY rfl) hin4 rfl ?_
      refine z_ior dX8_enter_27 ?_
      refine z_iload_n dX8_enter_28 2 rfl rfl ?_
      refine zm_Si (As := [.int ((A2 134 x1.toNatClampNeg) ||| (A2 135 x1.toNatClampNeg)), .int x2]) (rest := []) dX8_enter_29 okX8_has smX8_has mk_X8_152 rfl rfl (Nat.le_of_ble_eq_true rfl) (by decide) hY (CM.monoi h fun r5 F5 A5 h => ?_)
      refine z_if_ne (tgt := 58) dX8_enter_32 (by decide) (fun hb => ?_) (fun hb => ?_)
      · have h := h.1 hb
        refine z_iconst (v := 0) dX8_enter_58 rfl ?_
        exact z_zretM dX8_enter_59 rfl (by decide) h
      · have h := h.2 hb
        refine z_aload_n dX8_enter_35 0 rfl rfl ?_
        refine z_iload_n dX8_enter_36 1 rfl rfl ?_
        refine z_iload_n dX8_enter_37 2 rfl rfl ?_
        refine zm_Vi (As := [.int x1, .int x2]) (rest := []) dX8_enter_38 okX8_isLet ioX8_isLet mk_X8_159 (ci := 8) rfl (by decide) (lat hY rfl) rfl rfl (Nat.le_of_ble_eq_true rfl) (by decide) hY (CM.monoi h fun r6 F6 A6 h => ?_)
        refine z_if_eq (tgt := 58) dX8_enter_41 (by decide) (fun hb => ?_) (fun hb => ?_)
        · have h := h.1 hb
          refine z_iconst (v := 0) dX8_enter_58 rfl ?_
          exact z_zretM dX8_enter_59 rfl (by decide) h
        · have h := h.2 hb
          refine z_aload_n dX8_enter_44 0 rfl rfl ?_
          refine z_getr (k := 15) (fc := 335) (r := 134) dX8_enter_45 ckX8 (by decide) fk_X8_48 rfl rfl (lat hY rfl) (lgg hY rfl) (by decide) ?_
          refine z_iload_n dX8_enter_48 1 rfl rfl ?_
          have hin7 := h.1
          have h := h.2
          refine z_iald' (n := 6) (x := (A6 134 x1.toNatClampNeg)) dX8_enter_49 (lat hY rfl) (lln hY rfl) hin7 rfl ?_
          refine zm_Si (As := [.int (A6 134 x1.toNatClampNeg)]) (rest := []) dX8_enter_50 okX8_sizeOf smX8_sizeOf mk_X8_162 rfl rfl (Nat.le_of_ble_eq_true rfl) (by decide) hY (CM.monoi h fun r8 F8 A8 h => ?_)
          refine z_bipush (v := 8) dX8_enter_53 rfl ?_
          refine z_icmp_ne (tgt := 60) dX8_enter_55 (by decide) (fun hb => ?_) (fun hb => ?_)
          · have h := h.1 hb
            refine z_aload_n dX8_enter_60 0 rfl rfl ?_
            refine z_getr (k := 15) (fc := 335) (r := 134) dX8_enter_61 ckX8 (by decide) fk_X8_48 rfl rfl (lat hY rfl) (lgg hY rfl) (by decide) ?_
            refine z_iload_n dX8_enter_64 1 rfl rfl ?_
            refine z_dup2 dX8_enter_65 ?_
            have hin9 := h.1
            have h := h.2
            refine z_iald' (n := 6) (x := (A8 134 x1.toNatClampNeg)) dX8_enter_66 (lat hY rfl) (lln hY rfl) hin9 rfl ?_
            refine z_iconst (v := 1) dX8_enter_67 rfl ?_
            refine z_iload_n dX8_enter_68 2 rfl rfl ?_
            refine z_ishl dX8_enter_69 ?_
            refine z_ior dX8_enter_70 ?_
            have hin10 := h.1
            have h := h.2
            refine z_iast' (n := 6) dX8_enter_71 (lat hY rfl) (lln hY rfl) hin10 ?_
            refine z_iconst (v := 0) dX8_enter_72 rfl ?_
            refine z_istore_n (lv' := [(0, .ref 122), (1, .int x1), (2, .int x2), (3, .int 0)]) dX8_enter_73 rfl (by decide) rfl ?_
            exact z_pick [0, 1, 3] rfl (h T G B hY)
          · have h := h.2 hb
            refine z_iconst (v := 0) dX8_enter_58 rfl ?_
            exact z_zretM dX8_enter_59 rfl (by decide) h
theorem kX8_enter {l : Launch} {w : Nat → Nat} {nb : Nat} {Q : PM} {x1 x2 : Int32} {F A : MI}  (h : CM l mX8_isClass 2 w nb [.int x1] F A (qi fun r1 F1 A1 => ((r1 = 0 → Q (some (.int 0)) F1 A1) ∧ (¬ r1 = 0 → CM l mX8_isBeast 2 w nb [.ref 122, .int x2] F1 A1 (qi fun r2 F2 A2 => ((r2 = 0 → Q (some (.int 0)) F2 A2) ∧ (¬ r2 = 0 → (vp_in x1 6 ∧ (vp_in x1 6 ∧ CM l mX8_has 1 w nb [.int ((A2 134 x1.toNatClampNeg) ||| (A2 135 x1.toNatClampNeg)), .int x2] F2 A2 (qi fun r5 F5 A5 => ((¬ r5 = 0 → Q (some (.int 0)) F5 A5) ∧ (r5 = 0 → CM l mX8_isLet 3 w nb [.ref 122, .int x1, .int x2] F5 A5 (qi fun r6 F6 A6 => ((r6 = 0 → Q (some (.int 0)) F6 A6) ∧ (¬ r6 = 0 → (vp_in x1 6 ∧ CM l mX8_sizeOf 1 w nb [.int (A6 134 x1.toNatClampNeg)] F6 A6 (qi fun r8 F8 A8 => ((¬ r8 = 8 → (vp_in x1 6 ∧ (vp_in x1 6 ∧ ZM l mX8_enter 4 w nb Q 74 [(0, .ref 122), (1, .int x1), (3, .int 0)] [] F8 (u2 A8 134 x1.toNatClampNeg ((A8 134 x1.toNatClampNeg) ||| (1 <<< (x2 &&& 31))))))) ∧ (r8 = 8 → Q (some (.int 0)) F8 A8))))))))))))))))))) : CM l mX8_enter 4 w nb [.ref 122, .int x1, .int x2] F A Q := CM.ofZ (by decide) (fun _ _ => rfl) (fun _ _ => Nat.le_of_ble_eq_true rfl) (vX8_enter_0  h)
set_option maxHeartbeats 4000000 in
set_option maxRecDepth 100000 in
theorem vX8_enter_74 {l : Launch} {w : Nat → Nat} {nb : Nat} {Q : PM} {x1 x3 : Int32} {F A : MI}  (h : ((6 ≤ x3 → Q (some (.int 1)) F A) ∧ (¬ 6 ≤ x3 → (vp_in ((6 * x3) + x1) 36 ∧ ZM l mX8_enter 4 w nb Q 74 [(0, .ref 122), (1, .int x1), (3, .int (x3 + 1))] [] F (u2 A 137 ((6 * x3) + x1).toNatClampNeg 0))))) : ZM l mX8_enter 4 w nb Q 74 [(0, .ref 122), (1, .int x1), (3, .int x3)] [] F A := by
  intro T G B hY
  refine z_iload_n dX8_enter_74 2 rfl rfl ?_
  refine z_bipush (v := 6) dX8_enter_75 rfl ?_
  refine z_icmp_ge (tgt := 98) dX8_enter_77 (by decide) (fun hb => ?_) (fun hb => ?_)
  · have h := h.1 hb
    refine z_iconst (v := 1) dX8_enter_98 rfl ?_
    exact z_zretM dX8_enter_99 rfl (by decide) h
  · have h := h.2 hb
    refine z_aload_n dX8_enter_80 0 rfl rfl ?_
    refine z_getr (k := 18) (fc := 338) (r := 137) dX8_enter_81 ckX8 (by decide) fk_X8_57 rfl rfl (lat hY rfl) (lgg hY rfl) (by decide) ?_
    refine z_bipush (v := 6) dX8_enter_84 rfl ?_
    refine z_iload_n dX8_enter_86 2 rfl rfl ?_
    refine z_imul dX8_enter_87 ?_
    refine z_iload_n dX8_enter_88 1 rfl rfl ?_
    refine z_iadd dX8_enter_89 ?_
    refine z_iconst (v := 0) dX8_enter_90 rfl ?_
    have hin1 := h.1
    have h := h.2
    refine z_iast' (n := 36) dX8_enter_91 (lat hY rfl) (lln hY rfl) hin1 ?_
    refine z_iinc (v := (x3 + 1)) (lv' := [(0, .ref 122), (1, .int x1), (3, .int (x3 + 1))]) dX8_enter_92 2 rfl rfl (by decide) rfl ?_
    refine z_goto (tgt := 74) dX8_enter_95 (by decide) ?_
    exact z_pick [0, 1, 2] rfl (h T G B hY)
set_option maxHeartbeats 4000000 in
set_option maxRecDepth 100000 in
theorem vX8_lets_0 {l : Launch} {w : Nat → Nat} {nb : Nat} {Q : PM} {x1 x2 : Int32} {F A : MI}  (h : CM l mX8_isClass 2 w nb [.int x1] F A (qi fun r1 F1 A1 => ((r1 = 0 → Q (some (.int (-1))) F1 A1) ∧ (¬ r1 = 0 → CM l mX8_isBeast 2 w nb [.ref 122, .int x2] F1 A1 (qi fun r2 F2 A2 => ((¬ r2 = 0 → CM l mX8_isLet 3 w nb [.ref 122, .int x1, .int x2] F2 A2 (qi fun r3 F3 A3 => ((r3 = 0 → Q (some (.int 0)) F3 A3) ∧ (¬ r3 = 0 → Q (some (.int 1)) F3 A3)))) ∧ (r2 = 0 → Q (some (.int (-1))) F2 A2))))))) : ZM l mX8_lets 4 w nb Q 0 [(0, .ref 122), (1, .int x1), (2, .int x2)] [] F A := by
  intro T G B hY
  refine z_iload_n dX8_lets_0 1 rfl rfl ?_
  refine zm_Si (As := [.int x1]) (rest := []) dX8_lets_1 okX8_isClass smX8_isClass mk_X8_139 rfl rfl (Nat.le_of_ble_eq_true rfl) (by decide) hY (CM.monoi h fun r1 F1 A1 h => ?_)
  refine z_if_eq (tgt := 15) dX8_lets_4 (by decide) (fun hb => ?_) (fun hb => ?_)
  · have h := h.1 hb
    refine z_iconst (v := (-1)) dX8_lets_15 rfl ?_
    refine z_goto (tgt := 33) dX8_lets_16 (by decide) ?_
    exact z_iretM dX8_lets_33 rfl h
  · have h := h.2 hb
    refine z_aload_n dX8_lets_7 0 rfl rfl ?_
    refine z_iload_n dX8_lets_8 2 rfl rfl ?_
    refine zm_Vi (As := [.int x2]) (rest := []) dX8_lets_9 okX8_isBeast ioX8_isBeast mk_X8_149 (ci := 8) rfl (by decide) (lat hY rfl) rfl rfl (Nat.le_of_ble_eq_true rfl) (by decide) hY (CM.monoi h fun r2 F2 A2 h => ?_)
    refine z_if_ne (tgt := 19) dX8_lets_12 (by decide) (fun hb => ?_) (fun hb => ?_)
    · have h := h.1 hb
      refine z_aload_n dX8_lets_19 0 rfl rfl ?_
      refine z_iload_n dX8_lets_20 1 rfl rfl ?_
      refine z_iload_n dX8_lets_21 2 rfl rfl ?_
      refine zm_Vi (As := [.int x1, .int x2]) (rest := []) dX8_lets_22 okX8_isLet ioX8_isLet mk_X8_159 (ci := 8) rfl (by decide) (lat hY rfl) rfl rfl (Nat.le_of_ble_eq_true rfl) (by decide) hY (CM.monoi h fun r3 F3 A3 h => ?_)
      refine z_if_eq (tgt := 32) dX8_lets_25 (by decide) (fun hb => ?_) (fun hb => ?_)
      · have h := h.1 hb
        refine z_iconst (v := 0) dX8_lets_32 rfl ?_
        exact z_iretM dX8_lets_33 rfl h
      · have h := h.2 hb
        refine z_iconst (v := 1) dX8_lets_28 rfl ?_
        refine z_goto (tgt := 33) dX8_lets_29 (by decide) ?_
        exact z_iretM dX8_lets_33 rfl h
    · have h := h.2 hb
      refine z_iconst (v := (-1)) dX8_lets_15 rfl ?_
      refine z_goto (tgt := 33) dX8_lets_16 (by decide) ?_
      exact z_iretM dX8_lets_33 rfl h
theorem kX8_lets {l : Launch} {w : Nat → Nat} {nb : Nat} {Q : PM} {x1 x2 : Int32} {F A : MI}  (h : CM l mX8_isClass 2 w nb [.int x1] F A (qi fun r1 F1 A1 => ((r1 = 0 → Q (some (.int (-1))) F1 A1) ∧ (¬ r1 = 0 → CM l mX8_isBeast 2 w nb [.ref 122, .int x2] F1 A1 (qi fun r2 F2 A2 => ((¬ r2 = 0 → CM l mX8_isLet 3 w nb [.ref 122, .int x1, .int x2] F2 A2 (qi fun r3 F3 A3 => ((r3 = 0 → Q (some (.int 0)) F3 A3) ∧ (¬ r3 = 0 → Q (some (.int 1)) F3 A3)))) ∧ (r2 = 0 → Q (some (.int (-1))) F2 A2))))))) : CM l mX8_lets 4 w nb [.ref 122, .int x1, .int x2] F A Q := CM.ofZ (by decide) (fun _ _ => rfl) (fun _ _ => Nat.le_of_ble_eq_true rfl) (vX8_lets_0  h)
set_option maxHeartbeats 4000000 in
set_option maxRecDepth 100000 in
theorem vX8_look_0 {l : Launch} {w : Nat → Nat} {nb : Nat} {Q : PM} {x1 x2 : Int32} {F A : MI}  (h : CM l mX8_isBeast 2 w nb [.ref 122, .int x1] F A (qi fun r1 F1 A1 => ((¬ r1 = 0 → CM l mX8_isClass 2 w nb [.int (x2 - 10)] F1 A1 (qi fun r2 F2 A2 => ((r2 = 0 → ((x2 = 0 → (vp_in x1 20 ∧ Q (some (.int (A2 124 x1.toNatClampNeg))) F2 A2)) ∧ (x2 = 1 → (vp_in x1 20 ∧ Q (some (.int (A2 125 x1.toNatClampNeg))) F2 A2)) ∧ (x2 = 2 → (vp_in x1 20 ∧ Q (some (.int (A2 126 x1.toNatClampNeg))) F2 A2)) ∧ (x2 = 3 → (vp_in x1 20 ∧ Q (some (.int (A2 127 x1.toNatClampNeg))) F2 A2)) ∧ (x2 = 4 → (vp_in (((3 * x1) + x2) - 4) 60 ∧ Q (some (.int (A2 128 (((3 * x1) + x2) - 4).toNatClampNeg))) F2 A2)) ∧ (x2 = 5 → (vp_in (((3 * x1) + x2) - 4) 60 ∧ Q (some (.int (A2 128 (((3 * x1) + x2) - 4).toNatClampNeg))) F2 A2)) ∧ (x2 = 6 → (vp_in (((3 * x1) + x2) - 4) 60 ∧ Q (some (.int (A2 128 (((3 * x1) + x2) - 4).toNatClampNeg))) F2 A2)) ∧ (x2 = 7 → ZM l mX8_look 4 w nb Q 126 [(0, .ref 122), (1, .int x1), (3, .int 0), (4, .int 0)] [] F2 A2) ∧ (¬ x2 = 0 → ¬ x2 = 1 → ¬ x2 = 2 → ¬ x2 = 3 → ¬ x2 = 4 → ¬ x2 = 5 → ¬ x2 = 6 → ¬ x2 = 7 → Q (some (.int (-1))) F2 A2))) ∧ (¬ r2 = 0 → CM l mX8_joins 3 w nb [.ref 122, .int (x2 - 10)] F2 A2 (qv fun F10 A10 => CM l mX8_placeNow 1 w nb [.ref 122, .int x1] F10 A10 (qi fun r11 F11 A11 => Q (some (.int r11)) F11 A11)))))) ∧ (r1 = 0 → Q (some (.int (-1))) F1 A1)))) : ZM l mX8_look 4 w nb Q 0 [(0, .ref 122), (1, .int x1), (2, .int x2)] [] F A := by
  intro T G B hY
  refine z_aload_n dX8_look_0 0 rfl rfl ?_
  refine z_iload_n dX8_look_1 1 rfl rfl ?_
  refine zm_Vi (As := [.int x1]) (rest := []) dX8_look_2 okX8_isBeast ioX8_isBeast mk_X8_149 (ci := 8) rfl (by decide) (lat hY rfl) rfl rfl (Nat.le_of_ble_eq_true rfl) (by decide) hY (CM.monoi h fun r1 F1 A1 h => ?_)
  refine z_if_ne (tgt := 10) dX8_look_5 (by decide) (fun hb => ?_) (fun hb => ?_)
  · have h := h.1 hb
    refine z_iload_n dX8_look_10 2 rfl rfl ?_
    refine z_bipush (v := 10) dX8_look_11 rfl ?_
    refine z_isub dX8_look_13 ?_
    refine zm_Si (As := [.int (x2 - 10)]) (rest := []) dX8_look_14 okX8_isClass smX8_isClass mk_X8_139 rfl rfl (Nat.le_of_ble_eq_true rfl) (by decide) hY (CM.monoi h fun r2 F2 A2 h => ?_)
    refine z_if_eq (tgt := 34) dX8_look_17 (by decide) (fun hb => ?_) (fun hb => ?_)
    · have h := h.1 hb
      refine z_iload_n dX8_look_34 2 rfl rfl ?_
      by_cases hb0 : x2 = 0
      · have h := h.1 hb0
        refine z_tableIn (off := 45) (tgt := 80) dX8_look_35 (by rw [hb0]; decide) (by rw [hb0]; decide) (by rw [hb0]; rfl) (by decide) ?_
        refine z_aload_n dX8_look_80 0 rfl rfl ?_
        refine z_getr (k := 4) (fc := 324) (r := 124) dX8_look_81 ckX8 (by decide) fk_X8_17 rfl rfl (lat hY rfl) (lgg hY rfl) (by decide) ?_
        refine z_iload_n dX8_look_84 1 rfl rfl ?_
        have hin3 := h.1
        have h := h.2
        refine z_iald' (n := 20) (x := (A2 124 x1.toNatClampNeg)) dX8_look_85 (lat hY rfl) (lln hY rfl) hin3 rfl ?_
        exact z_iretM dX8_look_86 rfl h
      have h := h.2
      by_cases hb1 : x2 = 1
      · have h := h.1 hb1
        refine z_tableIn (off := 52) (tgt := 87) dX8_look_35 (by rw [hb1]; decide) (by rw [hb1]; decide) (by rw [hb1]; rfl) (by decide) ?_
        refine z_aload_n dX8_look_87 0 rfl rfl ?_
        refine z_getr (k := 5) (fc := 325) (r := 125) dX8_look_88 ckX8 (by decide) fk_X8_21 rfl rfl (lat hY rfl) (lgg hY rfl) (by decide) ?_
        refine z_iload_n dX8_look_91 1 rfl rfl ?_
        have hin4 := h.1
        have h := h.2
        refine z_iald' (n := 20) (x := (A2 125 x1.toNatClampNeg)) dX8_look_92 (lat hY rfl) (lln hY rfl) hin4 rfl ?_
        exact z_iretM dX8_look_93 rfl h
      have h := h.2
      by_cases hb2 : x2 = 2
      · have h := h.1 hb2
        refine z_tableIn (off := 59) (tgt := 94) dX8_look_35 (by rw [hb2]; decide) (by rw [hb2]; decide) (by rw [hb2]; rfl) (by decide) ?_
        refine z_aload_n dX8_look_94 0 rfl rfl ?_
        refine z_getr (k := 6) (fc := 326) (r := 126) dX8_look_95 ckX8 (by decide) fk_X8_24 rfl rfl (lat hY rfl) (lgg hY rfl) (by decide) ?_
        refine z_iload_n dX8_look_98 1 rfl rfl ?_
        have hin5 := h.1
        have h := h.2
        refine z_iald' (n := 20) (x := (A2 126 x1.toNatClampNeg)) dX8_look_99 (lat hY rfl) (lln hY rfl) hin5 rfl ?_
        exact z_iretM dX8_look_100 rfl h
      have h := h.2
      by_cases hb3 : x2 = 3
      · have h := h.1 hb3
        refine z_tableIn (off := 66) (tgt := 101) dX8_look_35 (by rw [hb3]; decide) (by rw [hb3]; decide) (by rw [hb3]; rfl) (by decide) ?_
        refine z_aload_n dX8_look_101 0 rfl rfl ?_
        refine z_getr (k := 7) (fc := 327) (r := 127) dX8_look_102 ckX8 (by decide) fk_X8_27 rfl rfl (lat hY rfl) (lgg hY rfl) (by decide) ?_
        refine z_iload_n dX8_look_105 1 rfl rfl ?_
        have hin6 := h.1
        have h := h.2
        refine z_iald' (n := 20) (x := (A2 127 x1.toNatClampNeg)) dX8_look_106 (lat hY rfl) (lln hY rfl) hin6 rfl ?_
        exact z_iretM dX8_look_107 rfl h
      have h := h.2
      by_cases hb4 : x2 = 4
      · have h := h.1 hb4
        refine z_tableIn (off := 73) (tgt := 108) dX8_look_35 (by rw [hb4]; decide) (by rw [hb4]; decide) (by rw [hb4]; rfl) (by decide) ?_
        refine z_aload_n dX8_look_108 0 rfl rfl ?_
        refine z_getr (k := 8) (fc := 328) (r := 128) dX8_look_109 ckX8 (by decide) fk_X8_30 rfl rfl (lat hY rfl) (lgg hY rfl) (by decide) ?_
        refine z_iconst (v := 3) dX8_look_112 rfl ?_
        refine z_iload_n dX8_look_113 1 rfl rfl ?_
        refine z_imul dX8_look_114 ?_
        refine z_iload_n dX8_look_115 2 rfl rfl ?_
        refine z_iadd dX8_look_116 ?_
        refine z_iconst (v := 4) dX8_look_117 rfl ?_
        refine z_isub dX8_look_118 ?_
        have hin7 := h.1
        have h := h.2
        refine z_iald' (n := 60) (x := (A2 128 (((3 * x1) + x2) - 4).toNatClampNeg)) dX8_look_119 (lat hY rfl) (lln hY rfl) hin7 rfl ?_
        exact z_iretM dX8_look_120 rfl h
      have h := h.2
      by_cases hb5 : x2 = 5
      · have h := h.1 hb5
        refine z_tableIn (off := 73) (tgt := 108) dX8_look_35 (by rw [hb5]; decide) (by rw [hb5]; decide) (by rw [hb5]; rfl) (by decide) ?_
        refine z_aload_n dX8_look_108 0 rfl rfl ?_
        refine z_getr (k := 8) (fc := 328) (r := 128) dX8_look_109 ckX8 (by decide) fk_X8_30 rfl rfl (lat hY rfl) (lgg hY rfl) (by decide) ?_
        refine z_iconst (v := 3) dX8_look_112 rfl ?_
        refine z_iload_n dX8_look_113 1 rfl rfl ?_
        refine z_imul dX8_look_114 ?_
        refine z_iload_n dX8_look_115 2 rfl rfl ?_
        refine z_iadd dX8_look_116 ?_
        refine z_iconst (v := 4) dX8_look_117 rfl ?_
        refine z_isub dX8_look_118 ?_
        have hin8 := h.1
        have h := h.2
        refine z_iald' (n := 60) (x := (A2 128 (((3 * x1) + x2) - 4).toNatClampNeg)) dX8_look_119 (lat hY rfl) (lln hY rfl) hin8 rfl ?_
        exact z_iretM dX8_look_120 rfl h
      have h := h.2
      by_cases hb6 : x2 = 6
      · have h := h.1 hb6
        refine z_tableIn (off := 73) (tgt := 108) dX8_look_35 (by rw [hb6]; decide) (by rw [hb6]; decide) (by rw [hb6]; rfl) (by decide) ?_
        refine z_aload_n dX8_look_108 0 rfl rfl ?_
        refine z_getr (k := 8) (fc := 328) (r := 128) dX8_look_109 ckX8 (by decide) fk_X8_30 rfl rfl (lat hY rfl) (lgg hY rfl) (by decide) ?_
        refine z_iconst (v := 3) dX8_look_112 rfl ?_
        refine z_iload_n dX8_look_113 1 rfl rfl ?_
        refine z_imul dX8_look_114 ?_
        refine z_iload_n dX8_look_115 2 rfl rfl ?_
        refine z_iadd dX8_look_116 ?_
        refine z_iconst (v := 4) dX8_look_117 rfl ?_
        refine z_isub dX8_look_118 ?_
        have hin9 := h.1
        have h := h.2
        refine z_iald' (n := 60) (x := (A2 128 (((3 * x1) + x2) - 4).toNatClampNeg)) dX8_look_119 (lat hY rfl) (lln hY rfl) hin9 rfl ?_
        exact z_iretM dX8_look_120 rfl h
      have h := h.2
      by_cases hb7 : x2 = 7
      · have h := h.1 hb7
        refine z_tableIn (off := 86) (tgt := 121) dX8_look_35 (by rw [hb7]; decide) (by rw [hb7]; decide) (by rw [hb7]; rfl) (by decide) ?_
        refine z_iconst (v := 0) dX8_look_121 rfl ?_
        refine z_istore_n (lv' := [(0, .ref 122), (1, .int x1), (2, .int x2), (3, .int 0)]) dX8_look_122 rfl (by decide) rfl ?_
        refine z_iconst (v := 0) dX8_look_123 rfl ?_
        refine z_istore (lv' := [(0, .ref 122), (1, .int x1), (2, .int x2), (3, .int 0), (4, .int 0)]) dX8_look_124 (by decide) rfl ?_
        exact z_pick [0, 1, 3, 4] rfl (h T G B hY)
      have h := h.2
      refine z_tableOut (tgt := 163) dX8_look_35 (by have := i_ne (n := 0) hb0 (by decide); have := i_ne (n := 1) hb1 (by decide); have := i_ne (n := 2) hb2 (by decide); have := i_ne (n := 3) hb3 (by decide); have := i_ne (n := 4) hb4 (by decide); have := i_ne (n := 5) hb5 (by decide); have := i_ne (n := 6) hb6 (by decide); have := i_ne (n := 7) hb7 (by decide); omega) (by decide) ?_
      have h := h hb0 hb1 hb2 hb3 hb4 hb5 hb6 hb7
      refine z_iconst (v := (-1)) dX8_look_163 rfl ?_
      exact z_iretM dX8_look_164 rfl h
    · have h := h.2 hb
      refine z_aload_n dX8_look_20 0 rfl rfl ?_
      refine z_iload_n dX8_look_21 2 rfl rfl ?_
      refine z_bipush (v := 10) dX8_look_22 rfl ?_
      refine z_isub dX8_look_24 ?_
      refine zm_Vv (As := [.int (x2 - 10)]) (rest := []) dX8_look_25 okX8_joins ioX8_joins mk_X8_186 (ci := 8) rfl (by decide) (lat hY rfl) rfl rfl (Nat.le_of_ble_eq_true rfl) (by decide) hY (CM.monov h fun F10 A10 h => ?_)
      refine z_aload_n dX8_look_28 0 rfl rfl ?_
      refine z_iload_n dX8_look_29 1 rfl rfl ?_
      refine zm_Vi (As := [.int x1]) (rest := []) dX8_look_30 okX8_placeNow ioX8_placeNow mk_X8_192 (ci := 8) rfl (by decide) (lat hY rfl) rfl rfl (Nat.le_of_ble_eq_true rfl) (by decide) hY (CM.monoi h fun r11 F11 A11 h => ?_)
      exact z_iretM dX8_look_33 rfl h
  · have h := h.2 hb
    refine z_iconst (v := (-1)) dX8_look_8 rfl ?_
    exact z_iretM dX8_look_9 rfl h
theorem kX8_look {l : Launch} {w : Nat → Nat} {nb : Nat} {Q : PM} {x1 x2 : Int32} {F A : MI}  (h : CM l mX8_isBeast 2 w nb [.ref 122, .int x1] F A (qi fun r1 F1 A1 => ((¬ r1 = 0 → CM l mX8_isClass 2 w nb [.int (x2 - 10)] F1 A1 (qi fun r2 F2 A2 => ((r2 = 0 → ((x2 = 0 → (vp_in x1 20 ∧ Q (some (.int (A2 124 x1.toNatClampNeg))) F2 A2)) ∧ (x2 = 1 → (vp_in x1 20 ∧ Q (some (.int (A2 125 x1.toNatClampNeg))) F2 A2)) ∧ (x2 = 2 → (vp_in x1 20 ∧ Q (some (.int (A2 126 x1.toNatClampNeg))) F2 A2)) ∧ (x2 = 3 → (vp_in x1 20 ∧ Q (some (.int (A2 127 x1.toNatClampNeg))) F2 A2)) ∧ (x2 = 4 → (vp_in (((3 * x1) + x2) - 4) 60 ∧ Q (some (.int (A2 128 (((3 * x1) + x2) - 4).toNatClampNeg))) F2 A2)) ∧ (x2 = 5 → (vp_in (((3 * x1) + x2) - 4) 60 ∧ Q (some (.int (A2 128 (((3 * x1) + x2) - 4).toNatClampNeg))) F2 A2)) ∧ (x2 = 6 → (vp_in (((3 * x1) + x2) - 4) 60 ∧ Q (some (.int (A2 128 (((3 * x1) + x2) - 4).toNatClampNeg))) F2 A2)) ∧ (x2 = 7 → ZM l mX8_look 4 w nb Q 126 [(0, .ref 122), (1, .int x1), (3, .int 0), (4, .int 0)] [] F2 A2) ∧ (¬ x2 = 0 → ¬ x2 = 1 → ¬ x2 = 2 → ¬ x2 = 3 → ¬ x2 = 4 → ¬ x2 = 5 → ¬ x2 = 6 → ¬ x2 = 7 → Q (some (.int (-1))) F2 A2))) ∧ (¬ r2 = 0 → CM l mX8_joins 3 w nb [.ref 122, .int (x2 - 10)] F2 A2 (qv fun F10 A10 => CM l mX8_placeNow 1 w nb [.ref 122, .int x1] F10 A10 (qi fun r11 F11 A11 => Q (some (.int r11)) F11 A11)))))) ∧ (r1 = 0 → Q (some (.int (-1))) F1 A1)))) : CM l mX8_look 4 w nb [.ref 122, .int x1, .int x2] F A Q := CM.ofZ (by decide) (fun _ _ => rfl) (fun _ _ => Nat.le_of_ble_eq_true rfl) (vX8_look_0  h)
set_option maxHeartbeats 4000000 in
set_option maxRecDepth 100000 in
theorem vX8_look_126 {l : Launch} {w : Nat → Nat} {nb : Nat} {Q : PM} {x1 x3 x4 : Int32} {F A : MI}  (h : ((6 ≤ x4 → Q (some (.int x3)) F A) ∧ (¬ 6 ≤ x4 → (vp_in x4 6 ∧ CM l mX8_has 1 w nb [.int (A 134 x4.toNatClampNeg), .int x1] F A (qi fun r2 F2 A2 => ((r2 = 0 → ZM l mX8_look 4 w nb Q 153 [(0, .ref 122), (1, .int x1), (4, .int x4)] [.int 0, .int x3] F2 A2) ∧ (¬ r2 = 0 → ZM l mX8_look 4 w nb Q 153 [(0, .ref 122), (1, .int x1), (4, .int x4)] [.int 1, .int x3] F2 A2))))))) : ZM l mX8_look 4 w nb Q 126 [(0, .ref 122), (1, .int x1), (3, .int x3), (4, .int x4)] [] F A := by
  intro T G B hY
  refine z_iload dX8_look_126 3 rfl ?_
  refine z_bipush (v := 6) dX8_look_128 rfl ?_
  refine z_icmp_ge (tgt := 161) dX8_look_130 (by decide) (fun hb => ?_) (fun hb => ?_)
  · have h := h.1 hb
    refine z_iload_n dX8_look_161 2 rfl rfl ?_
    exact z_iretM dX8_look_162 rfl h
  · have h := h.2 hb
    refine z_iload_n dX8_look_133 2 rfl rfl ?_
    refine z_aload_n dX8_look_134 0 rfl rfl ?_
    refine z_getr (k := 15) (fc := 335) (r := 134) dX8_look_135 ckX8 (by decide) fk_X8_48 rfl rfl (lat hY rfl) (lgg hY rfl) (by decide) ?_
    refine z_iload dX8_look_138 3 rfl ?_
    have hin1 := h.1
    have h := h.2
    refine z_iald' (n := 6) (x := (A 134 x4.toNatClampNeg)) dX8_look_140 (lat hY rfl) (lln hY rfl) hin1 rfl ?_
    refine z_iload_n dX8_look_141 1 rfl rfl ?_
    refine zm_Si (As := [.int (A 134 x4.toNatClampNeg), .int x1]) (rest := [.int x3]) dX8_look_142 okX8_has smX8_has mk_X8_152 rfl rfl (Nat.le_of_ble_eq_true rfl) (by decide) hY (CM.monoi h fun r2 F2 A2 h => ?_)
    refine z_if_eq (tgt := 152) dX8_look_145 (by decide) (fun hb => ?_) (fun hb => ?_)
    · have h := h.1 hb
      refine z_iconst (v := 0) dX8_look_152 rfl ?_
      exact z_pick [0, 1, 3] rfl (h T G B hY)
    · have h := h.2 hb
      refine z_iconst (v := 1) dX8_look_148 rfl ?_
      refine z_goto (tgt := 153) dX8_look_149 (by decide) ?_
      exact z_pick [0, 1, 3] rfl (h T G B hY)
set_option maxHeartbeats 4000000 in
set_option maxRecDepth 100000 in
theorem vX8_look_153 {l : Launch} {w : Nat → Nat} {nb : Nat} {Q : PM} {x1 x4 s0 s1 : Int32} {F A : MI}  (h : ZM l mX8_look 4 w nb Q 126 [(0, .ref 122), (1, .int x1), (3, .int (s1 + s0)), (4, .int (x4 + 1))] [] F A) : ZM l mX8_look 4 w nb Q 153 [(0, .ref 122), (1, .int x1), (4, .int x4)] [.int s0, .int s1] F A := by
  intro T G B hY
  refine z_iadd dX8_look_153 ?_
  refine z_istore_n (lv' := [(0, .ref 122), (1, .int x1), (3, .int (s1 + s0)), (4, .int x4)]) dX8_look_154 rfl (by decide) rfl ?_
  refine z_iinc (v := (x4 + 1)) (lv' := [(0, .ref 122), (1, .int x1), (3, .int (s1 + s0)), (4, .int (x4 + 1))]) dX8_look_155 3 rfl rfl (by decide) rfl ?_
  refine z_goto (tgt := 126) dX8_look_158 (by decide) ?_
  exact z_pick [0, 1, 2, 3] rfl (h T G B hY)
set_option maxHeartbeats 4000000 in
set_option maxRecDepth 100000 in
theorem vX8_measures_0 {l : Launch} {w : Nat → Nat} {nb : Nat} {Q : PM} {F A : MI}  (h : CM l mX8_here 1 w nb [.ref 122] F A (qi fun r1 F1 A1 => CM l mX8_seesDigit 2 w nb [.ref 122] F1 A1 (qi fun r2 F2 A2 => ((¬ r2 = 0 → (((r1 - 48) ≤ 2 → ZM l mX8_measures 4 w nb Q 41 [(0, .ref 122), (1, .int (r1 - 48))] [] F2 A2) ∧ (¬ (r1 - 48) ≤ 2 → CM l mX8_fails 1 w nb [.ref 122, .int 2, .int (F2 341 122)] F2 A2 (qv fun F3 A3 => ZM l mX8_measures 4 w nb Q 41 [(0, .ref 122), (1, .int (r1 - 48))] [] F3 A3)))) ∧ (r2 = 0 → CM l mX8_fails 1 w nb [.ref 122, .int 1, .int (F2 341 122)] F2 A2 (qv fun F4 A4 => ZM l mX8_measures 4 w nb Q 41 [(0, .ref 122), (1, .int (r1 - 48))] [] F4 A4)))))) : ZM l mX8_measures 4 w nb Q 0 [(0, .ref 122)] [] F A := by
  intro T G B hY
  refine z_aload_n dX8_measures_0 0 rfl rfl ?_
  refine zm_Vi (As := []) (rest := []) dX8_measures_1 okX8_here ioX8_here mk_X8_113 (ci := 8) rfl (by decide) (lat hY rfl) rfl rfl (Nat.le_of_ble_eq_true rfl) (by decide) hY (CM.monoi h fun r1 F1 A1 h => ?_)
  refine z_bipush (v := 48) dX8_measures_4 rfl ?_
  refine z_isub dX8_measures_6 ?_
  refine z_istore_n (lv' := [(0, .ref 122), (1, .int (r1 - 48))]) dX8_measures_7 rfl (by decide) rfl ?_
  refine z_aload_n dX8_measures_8 0 rfl rfl ?_
  refine zm_Vi (As := []) (rest := []) dX8_measures_9 okX8_seesDigit ioX8_seesDigit mk_X8_117 (ci := 8) rfl (by decide) (lat hY rfl) rfl rfl (Nat.le_of_ble_eq_true rfl) (by decide) hY (CM.monoi h fun r2 F2 A2 h => ?_)
  refine z_if_ne (tgt := 27) dX8_measures_12 (by decide) (fun hb => ?_) (fun hb => ?_)
  · have h := h.1 hb
    refine z_iload_n dX8_measures_27 1 rfl rfl ?_
    refine z_iconst (v := 2) dX8_measures_28 rfl ?_
    refine z_icmp_le (tgt := 41) dX8_measures_29 (by decide) (fun hb => ?_) (fun hb => ?_)
    · have h := h.1 hb
      exact z_pick [0, 1] rfl (h T G B hY)
    · have h := h.2 hb
      refine z_aload_n dX8_measures_32 0 rfl rfl ?_
      refine z_iconst (v := 2) dX8_measures_33 rfl ?_
      refine z_aload_n dX8_measures_34 0 rfl rfl ?_
      refine z_geti' (k := 21) (fc := 341) (x := (F2 341 122)) dX8_measures_35 ckX8 (by decide) fk_X8_101 rfl rfl (lat hY rfl) rfl ?_
      refine zm_Vv (As := [.int 2, .int (F2 341 122)]) (rest := []) dX8_measures_38 okX8_fails ioX8_fails mk_X8_121 (ci := 8) rfl (by decide) (lat hY rfl) rfl rfl (Nat.le_of_ble_eq_true rfl) (by decide) hY (CM.monov h fun F3 A3 h => ?_)
      exact z_pick [0, 1] rfl (h T G B hY)
  · have h := h.2 hb
    refine z_aload_n dX8_measures_15 0 rfl rfl ?_
    refine z_iconst (v := 1) dX8_measures_16 rfl ?_
    refine z_aload_n dX8_measures_17 0 rfl rfl ?_
    refine z_geti' (k := 21) (fc := 341) (x := (F2 341 122)) dX8_measures_18 ckX8 (by decide) fk_X8_101 rfl rfl (lat hY rfl) rfl ?_
    refine zm_Vv (As := [.int 1, .int (F2 341 122)]) (rest := []) dX8_measures_21 okX8_fails ioX8_fails mk_X8_121 (ci := 8) rfl (by decide) (lat hY rfl) rfl rfl (Nat.le_of_ble_eq_true rfl) (by decide) hY (CM.monov h fun F4 A4 h => ?_)
    refine z_goto (tgt := 41) dX8_measures_24 (by decide) ?_
    exact z_pick [0, 1] rfl (h T G B hY)
theorem kX8_measures {l : Launch} {w : Nat → Nat} {nb : Nat} {Q : PM} {F A : MI}  (h : CM l mX8_here 1 w nb [.ref 122] F A (qi fun r1 F1 A1 => CM l mX8_seesDigit 2 w nb [.ref 122] F1 A1 (qi fun r2 F2 A2 => ((¬ r2 = 0 → (((r1 - 48) ≤ 2 → ZM l mX8_measures 4 w nb Q 41 [(0, .ref 122), (1, .int (r1 - 48))] [] F2 A2) ∧ (¬ (r1 - 48) ≤ 2 → CM l mX8_fails 1 w nb [.ref 122, .int 2, .int (F2 341 122)] F2 A2 (qv fun F3 A3 => ZM l mX8_measures 4 w nb Q 41 [(0, .ref 122), (1, .int (r1 - 48))] [] F3 A3)))) ∧ (r2 = 0 → CM l mX8_fails 1 w nb [.ref 122, .int 1, .int (F2 341 122)] F2 A2 (qv fun F4 A4 => ZM l mX8_measures 4 w nb Q 41 [(0, .ref 122), (1, .int (r1 - 48))] [] F4 A4)))))) : CM l mX8_measures 4 w nb [.ref 122] F A Q := CM.ofZ (by decide) (fun _ _ => rfl) (fun _ _ => Nat.le_of_ble_eq_true rfl) (vX8_measures_0  h)
set_option maxHeartbeats 4000000 in
set_option maxRecDepth 100000 in
theorem vX8_measures_41 {l : Launch} {w : Nat → Nat} {nb : Nat} {Q : PM} {x1 : Int32} {F A : MI}  (h : CM l mX8_here 1 w nb [.ref 122] (u2 F 341 122 ((F 341 122) + 1)) A (qi fun r1 F1 A1 => ((r1 = 62 → ZM l mX8_measures 4 w nb Q 77 [(0, .ref 122), (1, .int x1), (2, .int r1)] [] F1 A1) ∧ (¬ r1 = 62 → ((r1 = 60 → ZM l mX8_measures 4 w nb Q 77 [(0, .ref 122), (1, .int x1), (2, .int r1)] [] F1 A1) ∧ (¬ r1 = 60 → CM l mX8_fails 1 w nb [.ref 122, .int 1, .int (F1 341 122)] F1 A1 (qv fun F2 A2 => ZM l mX8_measures 4 w nb Q 77 [(0, .ref 122), (1, .int x1), (2, .int r1)] [] F2 A2))))))) : ZM l mX8_measures 4 w nb Q 41 [(0, .ref 122), (1, .int x1)] [] F A := by
  intro T G B hY
  refine z_aload_n dX8_measures_41 0 rfl rfl ?_
  refine z_dup dX8_measures_42 ?_
  refine z_geti' (k := 21) (fc := 341) (x := (F 341 122)) dX8_measures_43 ckX8 (by decide) fk_X8_101 rfl rfl (lat hY rfl) rfl ?_
  refine z_iconst (v := 1) dX8_measures_46 rfl ?_
  refine z_iadd dX8_measures_47 ?_
  refine z_puti (k := 21) (fc := 341) dX8_measures_48 ckX8 (by decide) fk_X8_101 rfl rfl rfl (lat hY rfl) ?_
  refine z_aload_n dX8_measures_51 0 rfl rfl ?_
  refine zm_Vi (As := []) (rest := []) dX8_measures_52 okX8_here ioX8_here mk_X8_113 (ci := 8) rfl (by decide) (lat hY rfl) rfl rfl (Nat.le_of_ble_eq_true rfl) (by decide) hY (CM.monoi h fun r1 F1 A1 h => ?_)
  refine z_istore_n (lv' := [(0, .ref 122), (1, .int x1), (2, .int r1)]) dX8_measures_55 rfl (by decide) rfl ?_
  refine z_iload_n dX8_measures_56 2 rfl rfl ?_
  refine z_bipush (v := 62) dX8_measures_57 rfl ?_
  refine z_icmp_eq (tgt := 77) dX8_measures_59 (by decide) (fun hb => ?_) (fun hb => ?_)
  · have h := h.1 hb
    exact z_pick [0, 1, 2] rfl (h T G B hY)
  · have h := h.2 hb
    refine z_iload_n dX8_measures_62 2 rfl rfl ?_
    refine z_bipush (v := 60) dX8_measures_63 rfl ?_
    refine z_icmp_eq (tgt := 77) dX8_measures_65 (by decide) (fun hb => ?_) (fun hb => ?_)
    · have h := h.1 hb
      exact z_pick [0, 1, 2] rfl (h T G B hY)
    · have h := h.2 hb
      refine z_aload_n dX8_measures_68 0 rfl rfl ?_
      refine z_iconst (v := 1) dX8_measures_69 rfl ?_
      refine z_aload_n dX8_measures_70 0 rfl rfl ?_
      refine z_geti' (k := 21) (fc := 341) (x := (F1 341 122)) dX8_measures_71 ckX8 (by decide) fk_X8_101 rfl rfl (lat hY rfl) rfl ?_
      refine zm_Vv (As := [.int 1, .int (F1 341 122)]) (rest := []) dX8_measures_74 okX8_fails ioX8_fails mk_X8_121 (ci := 8) rfl (by decide) (lat hY rfl) rfl rfl (Nat.le_of_ble_eq_true rfl) (by decide) hY (CM.monov h fun F2 A2 h => ?_)
      exact z_pick [0, 1, 2] rfl (h T G B hY)
set_option maxHeartbeats 4000000 in
set_option maxRecDepth 100000 in
theorem vX8_measures_77 {l : Launch} {w : Nat → Nat} {nb : Nat} {Q : PM} {x1 x2 : Int32} {F A : MI}  (h : ((¬ (F 343 122) = 0 → ZM l mX8_measures 4 w nb Q 102 [(0, .ref 122), (1, .int x1), (2, .int x2)] [.int 0] (u2 F 341 122 ((F 341 122) + 1)) A) ∧ ((F 343 122) = 0 → CM l mX8_readNumber 3 w nb [.ref 122] (u2 F 341 122 ((F 341 122) + 1)) A (qi fun r1 F1 A1 => ZM l mX8_measures 4 w nb Q 102 [(0, .ref 122), (1, .int x1), (2, .int x2)] [.int r1] F1 A1)))) : ZM l mX8_measures 4 w nb Q 77 [(0, .ref 122), (1, .int x1), (2, .int x2)] [] F A := by
  intro T G B hY
  refine z_aload_n dX8_measures_77 0 rfl rfl ?_
  refine z_dup dX8_measures_78 ?_
  refine z_geti' (k := 21) (fc := 341) (x := (F 341 122)) dX8_measures_79 ckX8 (by decide) fk_X8_101 rfl rfl (lat hY rfl) rfl ?_
  refine z_iconst (v := 1) dX8_measures_82 rfl ?_
  refine z_iadd dX8_measures_83 ?_
  refine z_puti (k := 21) (fc := 341) dX8_measures_84 ckX8 (by decide) fk_X8_101 rfl rfl rfl (lat hY rfl) ?_
  refine z_aload_n dX8_measures_87 0 rfl rfl ?_
  refine z_geti' (k := 23) (fc := 343) (x := (F 343 122)) dX8_measures_88 ckX8 (by decide) fk_X8_107 rfl rfl (lat hY rfl) ((u2_n1 (by decide)).trans rfl) ?_
  refine z_if_ne (tgt := 101) dX8_measures_91 (by decide) (fun hb => ?_) (fun hb => ?_)
  · have h := h.1 hb
    refine z_iconst (v := 0) dX8_measures_101 rfl ?_
    exact z_pick [0, 1, 2] rfl (h T G B hY)
  · have h := h.2 hb
    refine z_aload_n dX8_measures_94 0 rfl rfl ?_
    refine zm_Vi (As := []) (rest := []) dX8_measures_95 okX8_readNumber ioX8_readNumber mk_X8_131 (ci := 8) rfl (by decide) (lat hY rfl) rfl rfl (Nat.le_of_ble_eq_true rfl) (by decide) hY (CM.monoi h fun r1 F1 A1 h => ?_)
    refine z_goto (tgt := 102) dX8_measures_98 (by decide) ?_
    exact z_pick [0, 1, 2] rfl (h T G B hY)
set_option maxHeartbeats 4000000 in
set_option maxRecDepth 100000 in
theorem vX8_measures_102 {l : Launch} {w : Nat → Nat} {nb : Nat} {Q : PM} {x1 x2 s0 : Int32} {F A : MI}  (h : ((¬ x2 = 62 → ZM l mX8_measures 4 w nb Q 116 [(1, .int x1), (3, .int s0)] [.int 6, .ref 122] F A) ∧ (x2 = 62 → ZM l mX8_measures 4 w nb Q 116 [(1, .int x1), (3, .int s0)] [.int 3, .ref 122] F A))) : ZM l mX8_measures 4 w nb Q 102 [(0, .ref 122), (1, .int x1), (2, .int x2)] [.int s0] F A := by
  intro T G B hY
  refine z_istore_n (lv' := [(0, .ref 122), (1, .int x1), (2, .int x2), (3, .int s0)]) dX8_measures_102 rfl (by decide) rfl ?_
  refine z_aload_n dX8_measures_103 0 rfl rfl ?_
  refine z_iload_n dX8_measures_104 2 rfl rfl ?_
  refine z_bipush (v := 62) dX8_measures_105 rfl ?_
  refine z_icmp_ne (tgt := 114) dX8_measures_107 (by decide) (fun hb => ?_) (fun hb => ?_)
  · have h := h.1 hb
    refine z_bipush (v := 6) dX8_measures_114 rfl ?_
    exact z_pick [1, 3] rfl (h T G B hY)
  · have h := h.2 hb
    refine z_iconst (v := 3) dX8_measures_110 rfl ?_
    refine z_goto (tgt := 116) dX8_measures_111 (by decide) ?_
    exact z_pick [1, 3] rfl (h T G B hY)
set_option maxHeartbeats 4000000 in
set_option maxRecDepth 100000 in
theorem vX8_measures_116 {l : Launch} {w : Nat → Nat} {nb : Nat} {Q : PM} {x1 x3 s0 : Int32} {F A : MI}  (h : CM l mX8_keeps 1 w nb [.ref 122, .int (s0 + x1), .int x3] F A (qv fun F1 A1 => Q none F1 A1)) : ZM l mX8_measures 4 w nb Q 116 [(1, .int x1), (3, .int x3)] [.int s0, .ref 122] F A := by
  intro T G B hY
  refine z_iload_n dX8_measures_116 0 rfl rfl ?_
  refine z_iadd dX8_measures_117 ?_
  refine z_iload_n dX8_measures_118 1 rfl rfl ?_
  refine zm_Vv (As := [.int (s0 + x1), .int x3]) (rest := []) dX8_measures_119 okX8_keeps ioX8_keeps mk_X8_128 (ci := 8) rfl (by decide) (lat hY rfl) rfl rfl (Nat.le_of_ble_eq_true rfl) (by decide) hY (CM.monov h fun F1 A1 h => ?_)
  exact z_vretM dX8_measures_122 rfl h
set_option maxHeartbeats 4000000 in
set_option maxRecDepth 100000 in
theorem vX8_placed_0 {l : Launch} {w : Nat → Nat} {nb : Nat} {Q : PM} {x1 x2 : Int32} {F A : MI}  (h : CM l mX8_isClass 2 w nb [.int x1] F A (qi fun r1 F1 A1 => ((¬ r1 = 0 → CM l mX8_joins 3 w nb [.ref 122, .int x1] F1 A1 (qv fun F2 A2 => CM l mX8_lies 1 w nb [.int x2, .int 1, .int (F2 345 122)] F2 A2 (qi fun r3 F3 A3 => ((r3 = 0 → Q (some (.int (-1))) F3 A3) ∧ (¬ r3 = 0 → (vp_in (x2 - 1) 8 ∧ Q (some (.int (A3 143 (x2 - 1).toNatClampNeg))) F3 A3)))))) ∧ (r1 = 0 → Q (some (.int (-1))) F1 A1)))) : ZM l mX8_placed 4 w nb Q 0 [(0, .ref 122), (1, .int x1), (2, .int x2)] [] F A := by
  intro T G B hY
  refine z_iload_n dX8_placed_0 1 rfl rfl ?_
  refine zm_Si (As := [.int x1]) (rest := []) dX8_placed_1 okX8_isClass smX8_isClass mk_X8_139 rfl rfl (Nat.le_of_ble_eq_true rfl) (by decide) hY (CM.monoi h fun r1 F1 A1 h => ?_)
  refine z_if_ne (tgt := 9) dX8_placed_4 (by decide) (fun hb => ?_) (fun hb => ?_)
  · have h := h.1 hb
    refine z_aload_n dX8_placed_9 0 rfl rfl ?_
    refine z_iload_n dX8_placed_10 1 rfl rfl ?_
    refine zm_Vv (As := [.int x1]) (rest := []) dX8_placed_11 okX8_joins ioX8_joins mk_X8_186 (ci := 8) rfl (by decide) (lat hY rfl) rfl rfl (Nat.le_of_ble_eq_true rfl) (by decide) hY (CM.monov h fun F2 A2 h => ?_)
    refine z_iload_n dX8_placed_14 2 rfl rfl ?_
    refine z_iconst (v := 1) dX8_placed_15 rfl ?_
    refine z_aload_n dX8_placed_16 0 rfl rfl ?_
    refine z_geti' (k := 25) (fc := 345) (x := (F2 345 122)) dX8_placed_17 ckX8 (by decide) fk_X8_176 rfl rfl (lat hY rfl) rfl ?_
    refine zm_Si (As := [.int x2, .int 1, .int (F2 345 122)]) (rest := []) dX8_placed_20 okX8_lies smX8_lies mk_X8_87 rfl rfl (Nat.le_of_ble_eq_true rfl) (by decide) hY (CM.monoi h fun r3 F3 A3 h => ?_)
    refine z_if_eq (tgt := 37) dX8_placed_23 (by decide) (fun hb => ?_) (fun hb => ?_)
    · have h := h.1 hb
      refine z_iconst (v := (-1)) dX8_placed_37 rfl ?_
      exact z_iretM dX8_placed_38 rfl h
    · have h := h.2 hb
      refine z_aload_n dX8_placed_26 0 rfl rfl ?_
      refine z_getr (k := 29) (fc := 349) (r := 143) dX8_placed_27 ckX8 (by decide) fk_X8_75 rfl rfl (lat hY rfl) (lgg hY rfl) (by decide) ?_
      refine z_iload_n dX8_placed_30 2 rfl rfl ?_
      refine z_iconst (v := 1) dX8_placed_31 rfl ?_
      refine z_isub dX8_placed_32 ?_
      have hin4 := h.1
      have h := h.2
      refine z_iald' (n := 8) (x := (A3 143 (x2 - 1).toNatClampNeg)) dX8_placed_33 (lat hY rfl) (lln hY rfl) hin4 rfl ?_
      refine z_goto (tgt := 38) dX8_placed_34 (by decide) ?_
      exact z_iretM dX8_placed_38 rfl h
  · have h := h.2 hb
    refine z_iconst (v := (-1)) dX8_placed_7 rfl ?_
    exact z_iretM dX8_placed_8 rfl h
