theorem nest_X7_9 : (RX7, 9, yX5_init) ∈ nestL := by simp [nestL, RX7, yX5_init]
theorem nest_X7_34 : (RX7, 34, yX2_init) ∈ nestL := by simp [nestL, RX7, yX2_init]
theorem nest_X7_41 : (RX7, 41, yX6_init) ∈ nestL := by simp [nestL, RX7, yX6_init]
theorem nest_X7_48 : (RX7, 48, yX3_init) ∈ nestL := by simp [nestL, RX7, yX3_init]
section CTOR
variable {l : Launch} {T : SH} {F : MI} {G : MN} {A : MI} {B : MN} {R : PQ}
def flA (A : MI) (a N : Nat) (x : Int32) : MI := fun r j => if r = a ∧ j < N then x else A r j
theorem fill_Z {a N : Nat} {x : Int32} (ha : At T a 10) (hlen : T.2.1 a = N) (hN : N ≤ 1000) (hR : R none T F G (flA A a N x) B) : ∀ (d i : Nat) (x2 : Int32) (A' : MI), i + d = N → x2 = nI i → (A' = fun r j => if r = a ∧ j < i then x else A r j) → Z l mJ7_fill_53178 1 0 0 0 0 R 5 [(0, .ref a), (1, .int x), (2, .int x2), (3, .int (nI N))] [] T F G A' B
  | 0, i, x2, A', hd, hx, hA => by
    subst hx
    have : i = N := by omega
    subst this
    refine z_iload_n dJ7_fill_53178_5 2 rfl rfl ?_
    refine z_iload_n dJ7_fill_53178_6 3 rfl rfl ?_
    refine z_icmp_ge (tgt := 20) dJ7_fill_53178_7 (by decide) (fun _ => ?_) (fun hb => absurd (Int32.le_refl _) hb)
    rw [hA]
    exact z_vret dJ7_fill_53178_20 rfl hR
  | d + 1, i, x2, A', hd, hx, hA => by
    subst hx
    refine z_iload_n dJ7_fill_53178_5 2 rfl rfl ?_
    refine z_iload_n dJ7_fill_53178_6 3 rfl rfl ?_
    refine z_icmp_ge (tgt := 20) dJ7_fill_53178_7 (by decide) (fun hb => absurd hb (nI_ge (a := i) (by omega) (by omega))) (fun _ => ?_)
    refine z_aload_n dJ7_fill_53178_10 0 rfl rfl ?_
    refine z_iload_n dJ7_fill_53178_11 2 rfl rfl ?_
    refine z_iload_n dJ7_fill_53178_12 1 rfl rfl ?_
    refine z_iast' (n := N) dJ7_fill_53178_13 ha hlen (vp_in_nI (by omega) (by omega)) ?_
    refine z_iinc (v := nI i + 1) (lv' := [(0, .ref a), (1, .int x), (2, .int (nI i + 1)), (3, .int (nI N))]) dJ7_fill_53178_14 2 rfl rfl (by decide) rfl ?_
    refine z_goto (tgt := 5) dJ7_fill_53178_17 (by decide) ?_
    refine fill_Z ha hlen hN hR d (i + 1) _ _ (by omega) (by rw [nI_1]) ?_
    rw [hA, nI_clamp (by omega)]
    funext r j
    simp only [u2]
    by_cases h1 : r = a
    · by_cases h2 : j = i
      · simp [h1, h2]
      · have h3 : j < i + 1 ↔ j < i := by omega
        simp [h1, h2, h3]
    · simp [h1]
theorem c_fill {a N : Nat} {x : Int32} (ha : At T a 10) (hlen : T.2.1 a = N) (hN : N ≤ 1000) (hR : R none T F G (flA A a N x) B) : Cn l mJ7_fill_53178 1 0 0 [.ref a, .int x] T F G A B R := by
  refine Cn.ofZ (lv := [(0, .ref a), (1, .int x)]) rfl (fun _ _ => rfl) (fun _ _ => Nat.le_of_ble_eq_true rfl) ?_
  refine z_iconst (v := 0) dJ7_fill_53178_0 rfl ?_
  refine z_istore_n (lv' := [(0, .ref a), (1, .int x), (2, .int 0)]) dJ7_fill_53178_1 rfl (by decide) rfl ?_
  refine z_aload_n dJ7_fill_53178_2 0 rfl rfl ?_
  refine z_alen (v := nI N) dJ7_fill_53178_3 ha (by rw [hlen]; rfl) ?_
  refine z_istore_n (lv' := [(0, .ref a), (1, .int x), (2, .int 0), (3, .int (nI N))]) dJ7_fill_53178_4 rfl (by decide) rfl ?_
  exact fill_Z ha hlen hN hR N 0 0 A (by omega) rfl (funext fun r => funext fun j => (if_neg (by omega)).symm)
theorem c_letAll {a p q : Nat} (ha : At T a 1) (hp : At T p 10) (hq : At T q 10) (lp : T.2.1 p = 4) (lq : T.2.1 q = 4) (gp : G 40 a = p) (gq : G 41 a = q) (hR : R none T (u2 F 42 a 15) G (flA (flA A p 4 0) q 4 9999) B) : Cn l mX1_letAll 2 0 0 [.ref a] T F G A B R := by
  have p0 : p ≠ 0 := by have := hp.1; omega
  have q0 : q ≠ 0 := by have := hq.1; omega
  refine Cn.ofZ (lv := [(0, .ref a)]) rfl (fun _ _ => rfl) (fun _ _ => Nat.le_of_ble_eq_true rfl) ?_
  refine z_aload_n dX1_letAll_0 0 rfl rfl ?_
  refine z_bipush (v := 15) dX1_letAll_1 rfl ?_
  refine z_puti (k := 2) (fc := 42) dX1_letAll_3 ckX1 (by decide) fk_X1_18 rfl rfl rfl ha ?_
  refine z_aload_n dX1_letAll_6 0 rfl rfl ?_
  refine z_getr (k := 0) (fc := 40) (r := p) dX1_letAll_7 ckX1 (by decide) fk_X1_11 rfl rfl ha gp p0 ?_
  refine z_iconst (v := 0) dX1_letAll_10 rfl ?_
  refine z_callS (ac' := 0) (az' := 0) (rc' := 0) (rs' := 0) (L' := 1) (As := [.ref p, .int 0]) (rest := []) dX1_letAll_11 okJ7_fill_53178 smJ7_fill_53178 mk_X1_66 rfl rfl (by decide) (by decide) (Nat.le_refl _) (Nat.le_refl _) (c_fill hp lp (by decide) ?_)
  refine z_aload_n dX1_letAll_14 0 rfl rfl ?_
  refine z_getr (k := 1) (fc := 41) (r := q) dX1_letAll_15 ckX1 (by decide) fk_X1_15 rfl rfl ha gq q0 ?_
  refine z_sipush (v := 9999) dX1_letAll_18 rfl ?_
  refine z_callS (ac' := 0) (az' := 0) (rc' := 0) (rs' := 0) (L' := 1) (As := [.ref q, .int 9999]) (rest := []) dX1_letAll_21 okJ7_fill_53178 smJ7_fill_53178 mk_X1_66 rfl rfl (by decide) (by decide) (Nat.le_refl _) (Nat.le_refl _) (c_fill hq lq (by decide) ?_)
  exact z_vret dX1_letAll_24 rfl hR
def tX5 (T : SH) (n : Nat) : SH := (T1 T (n) 10 80)
def fX5 (F : MI) (n a : Nat) : MI := (u2 (u2 (u2 F 201 a 0) 202 a 0) 203 a 0)
def gX5 (G : MN) (n a : Nat) : MN := (u2 G 200 a (n + 1))
def aX5 (A : MI) (n a : Nat) : MI := (fa0 A (n + 1))
def bX5 (B : MN) (n : Nat) : MN := B
theorem atX5 {T : SH} {n a ci : Nat} (ha : At T a ci) (hn : T.2.2 = n) : At (tX5 T n) a ci := by
  show At (T1 T (n) 10 80) a ci
  exact (At.up ha hn)
theorem cX5 {n a : Nat} (hn : T.2.2 = n) (ha : At T a 5) (hR : R none (tX5 T n) (fX5 F n a) (gX5 G n a) (aX5 A n a) (bX5 B n)) : Cn l mX5_init 1 1 80 [.ref a] T F G A B R := by
  refine Cn.ofZ (lv := [(0, .ref a)]) rfl (fun _ _ => rfl) (fun _ _ => Nat.le_of_ble_eq_true rfl) ?_
  refine z_aload_n dX5_init_0 0 rfl rfl ?_
  refine z_objInit dX5_init_1 oi_X5 (by decide) (by decide) ?_
  refine z_aload_n dX5_init_4 0 rfl rfl ?_
  refine z_bipush (v := 80) dX5_init_5 rfl ?_
  refine z_newi (rc := 0) (rs := 0) (n := n) (N := 80) dX5_init_7 (by decide) (by decide) (by decide) hn ?_
  refine z_putFr (k := 0) (fc := 200) dX5_init_9 ckX5 (by decide) fk_X5_9 rfl rfl rfl rfl rfl (At.up ha hn) (Nat.succ_ne_zero _) ?_
  refine z_aload_n dX5_init_12 0 rfl rfl ?_
  refine z_iconst (v := 0) dX5_init_13 rfl ?_
  refine z_puti (k := 1) (fc := 201) dX5_init_14 ckX5 (by decide) fk_X5_15 rfl rfl rfl (At.up ha hn) ?_
  refine z_aload_n dX5_init_17 0 rfl rfl ?_
  refine z_iconst (v := 0) dX5_init_18 rfl ?_
  refine z_puti (k := 2) (fc := 202) dX5_init_19 ckX5 (by decide) fk_X5_19 rfl rfl rfl (At.up ha hn) ?_
  refine z_aload_n dX5_init_22 0 rfl rfl ?_
  refine z_iconst (v := 0) dX5_init_23 rfl ?_
  refine z_puti (k := 3) (fc := 203) dX5_init_24 ckX5 (by decide) fk_X5_22 rfl rfl rfl (At.up ha hn) ?_
  exact z_vret dX5_init_27 rfl hR
def tX3 (T : SH) (n : Nat) : SH := T
def fX3 (F : MI) (n a : Nat) : MI := (u2 F 120 a 0)
def gX3 (G : MN) (n a : Nat) : MN := G
def aX3 (A : MI) (n a : Nat) : MI := A
def bX3 (B : MN) (n : Nat) : MN := B
theorem atX3 {T : SH} {n a ci : Nat} (ha : At T a ci) (hn : T.2.2 = n) : At (tX3 T n) a ci := by
  show At T a ci
  exact ha
theorem cX3 {n a : Nat} (hn : T.2.2 = n) (ha : At T a 3) (hR : R none (tX3 T n) (fX3 F n a) (gX3 G n a) (aX3 A n a) (bX3 B n)) : Cn l mX3_init 1 0 0 [.ref a] T F G A B R := by
  refine Cn.ofZ (lv := [(0, .ref a)]) rfl (fun _ _ => rfl) (fun _ _ => Nat.le_of_ble_eq_true rfl) ?_
  refine z_aload_n dX3_init_0 0 rfl rfl ?_
  refine z_objInit dX3_init_1 oi_X3 (by decide) (by decide) ?_
  refine z_aload_n dX3_init_4 0 rfl rfl ?_
  refine z_iconst (v := 0) dX3_init_5 rfl ?_
  refine z_puti (k := 0) (fc := 120) dX3_init_6 ckX3 (by decide) fk_X3_9 rfl rfl rfl ha ?_
  exact z_vret dX3_init_9 rfl hR
def tX6 (T : SH) (n : Nat) : SH := (T1 (T1 (T1 (T1 T (n) 10 6) (n + 1) 10 6) (n + 1 + 1) 10 6) (n + 1 + 1 + 1) 10 6)
def fX6 (F : MI) (n a : Nat) : MI := F
def gX6 (G : MN) (n a : Nat) : MN := (u2 (u2 (u2 (u2 G 240 a (n + 1)) 241 a (n + 1 + 1)) 242 a (n + 1 + 1 + 1)) 243 a (n + 1 + 1 + 1 + 1))
def aX6 (A : MI) (n a : Nat) : MI := (fa0 (fa0 (fa0 (fa0 A (n + 1)) (n + 1 + 1)) (n + 1 + 1 + 1)) (n + 1 + 1 + 1 + 1))
def bX6 (B : MN) (n : Nat) : MN := B
theorem atX6 {T : SH} {n a ci : Nat} (ha : At T a ci) (hn : T.2.2 = n) : At (tX6 T n) a ci := by
  show At (T1 (T1 (T1 (T1 T (n) 10 6) (n + 1) 10 6) (n + 1 + 1) 10 6) (n + 1 + 1 + 1) 10 6) a ci
  exact (At.up (At.up (At.up (At.up ha hn) rfl) rfl) rfl)
theorem cX6 {n a : Nat} (hn : T.2.2 = n) (ha : At T a 6) (hR : R none (tX6 T n) (fX6 F n a) (gX6 G n a) (aX6 A n a) (bX6 B n)) : Cn l mX6_init 1 4 24 [.ref a] T F G A B R := by
  refine Cn.ofZ (lv := [(0, .ref a)]) rfl (fun _ _ => rfl) (fun _ _ => Nat.le_of_ble_eq_true rfl) ?_
  refine z_aload_n dX6_init_0 0 rfl rfl ?_
  refine z_objInit dX6_init_1 oi_X6 (by decide) (by decide) ?_
  refine z_aload_n dX6_init_4 0 rfl rfl ?_
  refine z_bipush (v := 6) dX6_init_5 rfl ?_
  refine z_newi (rc := 3) (rs := 18) (n := n) (N := 6) dX6_init_7 (by decide) (by decide) (by decide) hn ?_
  refine z_putFr (k := 0) (fc := 240) dX6_init_9 ckX6 (by decide) fk_X6_9 rfl rfl rfl rfl rfl (At.up ha hn) (Nat.succ_ne_zero _) ?_
  refine z_aload_n dX6_init_12 0 rfl rfl ?_
  refine z_bipush (v := 6) dX6_init_13 rfl ?_
  refine z_newi (rc := 2) (rs := 12) (n := n + 1) (N := 6) dX6_init_15 (by decide) (by decide) (by decide) rfl ?_
  refine z_putFr (k := 1) (fc := 241) dX6_init_17 ckX6 (by decide) fk_X6_15 rfl rfl rfl rfl rfl (At.up (At.up ha hn) rfl) (Nat.succ_ne_zero _) ?_
  refine z_aload_n dX6_init_20 0 rfl rfl ?_
  refine z_bipush (v := 6) dX6_init_21 rfl ?_
  refine z_newi (rc := 1) (rs := 6) (n := n + 1 + 1) (N := 6) dX6_init_23 (by decide) (by decide) (by decide) rfl ?_
  refine z_putFr (k := 2) (fc := 242) dX6_init_25 ckX6 (by decide) fk_X6_18 rfl rfl rfl rfl rfl (At.up (At.up (At.up ha hn) rfl) rfl) (Nat.succ_ne_zero _) ?_
  refine z_aload_n dX6_init_28 0 rfl rfl ?_
  refine z_bipush (v := 6) dX6_init_29 rfl ?_
  refine z_newi (rc := 0) (rs := 0) (n := n + 1 + 1 + 1) (N := 6) dX6_init_31 (by decide) (by decide) (by decide) rfl ?_
  refine z_putFr (k := 3) (fc := 243) dX6_init_33 ckX6 (by decide) fk_X6_21 rfl rfl rfl rfl rfl (At.up (At.up (At.up (At.up ha hn) rfl) rfl) rfl) (Nat.succ_ne_zero _) ?_
  exact z_vret dX6_init_36 rfl hR
def tX2 (T : SH) (n : Nat) : SH := (T1 (T2 (T2 (T1 (T1 T (n) 10 8) (n + 1) 10 20) (n + 1 + 1) 8 8) (n + 1 + 1 + 1 + 8) 8 256) (n + 1 + 1 + 1 + 8 + 1 + 8) 10 256)
def fX2 (F : MI) (n a : Nat) : MI := (u2 F 82 a 0)
def gX2 (G : MN) (n a : Nat) : MN := (u2 (u2 (u2 (u2 (u2 G 80 a (n + 1)) 81 a (n + 1 + 1)) 83 a (n + 1 + 1 + 1)) 84 a (n + 1 + 1 + 1 + 8 + 1)) 85 a (n + 1 + 1 + 1 + 8 + 1 + 8 + 1))
def aX2 (A : MI) (n a : Nat) : MI := (fa0 (fa2 (fa2 (fa0 (fa0 A (n + 1)) (n + 1 + 1)) (n + 1 + 1) 8) (n + 1 + 1 + 1 + 8) 8) (n + 1 + 1 + 1 + 8 + 1 + 8 + 1))
def bX2 (B : MN) (n : Nat) : MN := (fb2 (fb2 B (n + 1 + 1) 8) (n + 1 + 1 + 1 + 8) 8)
theorem atX2 {T : SH} {n a ci : Nat} (ha : At T a ci) (hn : T.2.2 = n) : At (tX2 T n) a ci := by
  show At (T1 (T2 (T2 (T1 (T1 T (n) 10 8) (n + 1) 10 20) (n + 1 + 1) 8 8) (n + 1 + 1 + 1 + 8) 8 256) (n + 1 + 1 + 1 + 8 + 1 + 8) 10 256) a ci
  exact (At.up (At.up2 (At.up2 (At.up (At.up ha hn) rfl) rfl) rfl) rfl)
theorem cX2 {n a : Nat} (hn : T.2.2 = n) (ha : At T a 2) (hR : R none (tX2 T n) (fX2 F n a) (gX2 G n a) (aX2 A n a) (bX2 B n)) : Cn l mX2_init 1 21 2412 [.ref a] T F G A B R := by
  refine Cn.ofZ (lv := [(0, .ref a)]) rfl (fun _ _ => rfl) (fun _ _ => Nat.le_of_ble_eq_true rfl) ?_
  refine z_aload_n dX2_init_0 0 rfl rfl ?_
  refine z_objInit dX2_init_1 oi_X2 (by decide) (by decide) ?_
  refine z_aload_n dX2_init_4 0 rfl rfl ?_
  refine z_bipush (v := 8) dX2_init_5 rfl ?_
  refine z_newi (rc := 20) (rs := 2404) (n := n) (N := 8) dX2_init_7 (by decide) (by decide) (by decide) hn ?_
  refine z_putFr (k := 0) (fc := 80) dX2_init_9 ckX2 (by decide) fk_X2_9 rfl rfl rfl rfl rfl (At.up ha hn) (Nat.succ_ne_zero _) ?_
  refine z_aload_n dX2_init_12 0 rfl rfl ?_
  refine z_bipush (v := 20) dX2_init_13 rfl ?_
  refine z_newi (rc := 19) (rs := 2384) (n := n + 1) (N := 20) dX2_init_15 (by decide) (by decide) (by decide) rfl ?_
  refine z_putFr (k := 1) (fc := 81) dX2_init_17 ckX2 (by decide) fk_X2_15 rfl rfl rfl rfl rfl (At.up (At.up ha hn) rfl) (Nat.succ_ne_zero _) ?_
  refine z_aload_n dX2_init_20 0 rfl rfl ?_
  refine z_iconst (v := 0) dX2_init_21 rfl ?_
  refine z_puti (k := 2) (fc := 82) dX2_init_22 ckX2 (by decide) fk_X2_18 rfl rfl rfl (At.up (At.up ha hn) rfl) ?_
  refine z_aload_n dX2_init_25 0 rfl rfl ?_
  refine z_bipush (v := 8) dX2_init_26 rfl ?_
  refine z_bipush (v := 8) dX2_init_28 rfl ?_
  refine z_multi (rc := 10) (rs := 2312) (n := n + 1 + 1) (N := 8) (K := 8) dX2_init_30 cl_X2_22 (by decide) (by decide) (by decide) (by decide) (by decide) (by decide) rfl ?_
  refine z_putFr (k := 3) (fc := 83) dX2_init_34 ckX2 (by decide) fk_X2_24 rfl rfl rfl rfl rfl (At.up2 (At.up (At.up ha hn) rfl) rfl) (Nat.succ_ne_zero _) ?_
  refine z_aload_n dX2_init_37 0 rfl rfl ?_
  refine z_bipush (v := 8) dX2_init_38 rfl ?_
  refine z_sipush (v := 256) dX2_init_40 rfl ?_
  refine z_multi (rc := 1) (rs := 256) (n := n + 1 + 1 + 1 + 8) (N := 8) (K := 256) dX2_init_43 cl_X2_22 (by decide) (by decide) (by decide) (by decide) (by decide) (by decide) rfl ?_
  refine z_putFr (k := 4) (fc := 84) dX2_init_47 ckX2 (by decide) fk_X2_27 rfl rfl rfl rfl rfl (At.up2 (At.up2 (At.up (At.up ha hn) rfl) rfl) rfl) (Nat.succ_ne_zero _) ?_
  refine z_aload_n dX2_init_50 0 rfl rfl ?_
  refine z_sipush (v := 256) dX2_init_51 rfl ?_
  refine z_newi (rc := 0) (rs := 0) (n := n + 1 + 1 + 1 + 8 + 1 + 8) (N := 256) dX2_init_54 (by decide) (by decide) (by decide) rfl ?_
  refine z_putFr (k := 5) (fc := 85) dX2_init_56 ckX2 (by decide) fk_X2_30 rfl rfl rfl rfl rfl (At.up (At.up2 (At.up2 (At.up (At.up ha hn) rfl) rfl) rfl) rfl) (Nat.succ_ne_zero _) ?_
  exact z_vret dX2_init_59 rfl hR
def tX1 (T : SH) (n : Nat) : SH := (T1 (T1 T (n) 10 4) (n + 1) 10 4)
def fX1 (F : MI) (n a : Nat) : MI := (u2 (u2 F 42 a 15) 42 a 15)
def gX1 (G : MN) (n a : Nat) : MN := (u2 (u2 G 40 a (n + 1)) 41 a (n + 1 + 1))
def aX1 (A : MI) (n a : Nat) : MI := (flA (flA (fa0 (fa0 A (n + 1)) (n + 1 + 1)) (n + 1) 4 0) (n + 1 + 1) 4 9999)
def bX1 (B : MN) (n : Nat) : MN := B
theorem atX1 {T : SH} {n a ci : Nat} (ha : At T a ci) (hn : T.2.2 = n) : At (tX1 T n) a ci := by
  show At (T1 (T1 T (n) 10 4) (n + 1) 10 4) a ci
  exact (At.up (At.up ha hn) rfl)
theorem cX1 {n a : Nat} (hn : T.2.2 = n) (ha : At T a 1) (hR : R none (tX1 T n) (fX1 F n a) (gX1 G n a) (aX1 A n a) (bX1 B n)) : Cn l mX1_init 3 2 8 [.ref a] T F G A B R := by
  refine Cn.ofZ (lv := [(0, .ref a)]) rfl (fun _ _ => rfl) (fun _ _ => Nat.le_of_ble_eq_true rfl) ?_
  refine z_aload_n dX1_init_0 0 rfl rfl ?_
  refine z_objInit dX1_init_1 oi_X1 (by decide) (by decide) ?_
  refine z_aload_n dX1_init_4 0 rfl rfl ?_
  refine z_iconst (v := 4) dX1_init_5 rfl ?_
  refine z_newi (rc := 1) (rs := 4) (n := n) (N := 4) dX1_init_6 (by decide) (by decide) (by decide) hn ?_
  refine z_putFr (k := 0) (fc := 40) dX1_init_8 ckX1 (by decide) fk_X1_11 rfl rfl rfl rfl rfl (At.up ha hn) (Nat.succ_ne_zero _) ?_
  refine z_aload_n dX1_init_11 0 rfl rfl ?_
  refine z_iconst (v := 4) dX1_init_12 rfl ?_
  refine z_newi (rc := 0) (rs := 0) (n := n + 1) (N := 4) dX1_init_13 (by decide) (by decide) (by decide) rfl ?_
  refine z_putFr (k := 1) (fc := 41) dX1_init_15 ckX1 (by decide) fk_X1_15 rfl rfl rfl rfl rfl (At.up (At.up ha hn) rfl) (Nat.succ_ne_zero _) ?_
  refine z_aload_n dX1_init_18 0 rfl rfl ?_
  refine z_bipush (v := 15) dX1_init_19 rfl ?_
  refine z_puti (k := 2) (fc := 42) dX1_init_21 ckX1 (by decide) fk_X1_18 rfl rfl rfl (At.up (At.up ha hn) rfl) ?_
  refine z_aload_n dX1_init_24 0 rfl rfl ?_
  refine z_callV (ac' := 0) (az' := 0) (rc' := 0) (rs' := 0) (L' := 2) (As := []) (rest := []) dX1_init_25 okX1_letAll ioX1_letAll mk_X1_22 (ci := 1) rfl (by decide) (At.up (At.up ha hn) rfl) rfl rfl (by decide) (by decide) (Nat.le_refl _) (Nat.le_refl _) (c_letAll (p := n + 1) (q := n + 1 + 1) (At.up (At.up ha hn) rfl) (At.up At.nw rfl) At.nw ?_ ?_ ?_ ?_ ?_)
  rotate_right
  · exact z_vret dX1_init_28 rfl hR
  · show (if n + 1 = n + 1 + 1 then 4 else if n + 1 = n + 1 then 4 else T.2.1 (n + 1)) = 4
    rw [if_neg (by omega), if_pos rfl]
  · show (if n + 1 + 1 = n + 1 + 1 then 4 else _) = 4
    rw [if_pos rfl]
  · rw [u2_n1 (by decide), u2_s]
  · rw [u2_s]
def tX4 (T : SH) (n : Nat) : SH := (T1 (T1 (T1 (T2 (tX1 (T1 T (n) 1 0) (n + 1)) (n + 1 + 2) 6 8) (n + 1 + 2 + 1 + 6) 10 6) (n + 1 + 2 + 1 + 6 + 1) 10 8) (n + 1 + 2 + 1 + 6 + 1 + 1) 10 3)
def fX4 (F : MI) (n a : Nat) : MI := (u2 (fX1 (fr0 (u2 (u2 (u2 F 160 a 0) 161 a 0) 162 a 0) (n + 1)) (n + 1) (n + 1)) 167 a 0)
def gX4 (G : MN) (n a : Nat) : MN := (u2 (u2 (u2 (u2 (u2 (gX1 (frN G (n + 1)) (n + 1) (n + 1)) 163 a (n + 1)) 164 a (n + 1 + 2 + 1)) 165 a (n + 1 + 2 + 1 + 6 + 1)) 166 a (n + 1 + 2 + 1 + 6 + 1 + 1)) 168 a (n + 1 + 2 + 1 + 6 + 1 + 1 + 1))
def aX4 (A : MI) (n a : Nat) : MI := (flA (fa0 (fa0 (fa0 (fa2 (aX1 A (n + 1) (n + 1)) (n + 1 + 2) 6) (n + 1 + 2 + 1 + 6 + 1)) (n + 1 + 2 + 1 + 6 + 1 + 1)) (n + 1 + 2 + 1 + 6 + 1 + 1 + 1)) (n + 1 + 2 + 1 + 6 + 1 + 1 + 1) 3 3)
def bX4 (B : MN) (n : Nat) : MN := (fb2 (bX1 B (n + 1)) (n + 1 + 2) 6)
theorem atX4 {T : SH} {n a ci : Nat} (ha : At T a ci) (hn : T.2.2 = n) : At (tX4 T n) a ci := by
  show At (T1 (T1 (T1 (T2 (tX1 (T1 T (n) 1 0) (n + 1)) (n + 1 + 2) 6 8) (n + 1 + 2 + 1 + 6) 10 6) (n + 1 + 2 + 1 + 6 + 1) 10 8) (n + 1 + 2 + 1 + 6 + 1 + 1) 10 3) a ci
  exact (At.up (At.up (At.up (At.up2 (atX1 (At.up ha hn) rfl) rfl) rfl) rfl) rfl)
theorem cX4 {n a : Nat} (hn : T.2.2 = n) (ha : At T a 4) (hR : R none (tX4 T n) (fX4 F n a) (gX4 G n a) (aX4 A n a) (bX4 B n)) : Cn l mX4_init 4 13 82 [.ref a] T F G A B R := by
  refine Cn.ofZ (lv := [(0, .ref a)]) rfl (fun _ _ => rfl) (fun _ _ => Nat.le_of_ble_eq_true rfl) ?_
  refine z_aload_n dX4_init_0 0 rfl rfl ?_
  refine z_objInit dX4_init_1 oi_X4 (by decide) (by decide) ?_
  refine z_aload_n dX4_init_4 0 rfl rfl ?_
  refine z_iconst (v := 0) dX4_init_5 rfl ?_
  refine z_puti (k := 0) (fc := 160) dX4_init_6 ckX4 (by decide) fk_X4_9 rfl rfl rfl ha ?_
  refine z_aload_n dX4_init_9 0 rfl rfl ?_
  refine z_iconst (v := 0) dX4_init_10 rfl ?_
  refine z_puti (k := 1) (fc := 161) dX4_init_11 ckX4 (by decide) fk_X4_15 rfl rfl rfl ha ?_
  refine z_aload_n dX4_init_14 0 rfl rfl ?_
  refine z_iconst (v := 0) dX4_init_15 rfl ?_
  refine z_puti (k := 2) (fc := 162) dX4_init_16 ckX4 (by decide) fk_X4_18 rfl rfl rfl ha ?_
  refine z_aload_n dX4_init_19 0 rfl rfl ?_
  refine z_new (rc := 12) (rs := 79) (n := n) dX4_init_20 ckX1 cl_X4_21 nn_X1 in_X1 hn ?_
  refine z_dup dX4_init_23 ?_
  refine z_callI (ac' := 2) (az' := 8) (rc' := 10) (rs' := 71) (L' := 3) (As := []) (rest := [.ref (n + 1), .ref (a)]) dX4_init_24 okX1_init rfl rfl imX1_init mk_X4_23 rfl rfl (Nat.le_of_ble_eq_true rfl) (by decide) (Nat.le_refl _) (Nat.le_refl _) (cX1 (n := n + 1) rfl At.nw ?_)
  refine z_putr (k := 3) (fc := 163) dX4_init_27 ckX4 (by decide) fk_X4_24 rfl rfl rfl (atX1 (At.up ha hn) rfl) (Nat.succ_ne_zero _) ?_
  refine z_aload_n dX4_init_30 0 rfl rfl ?_
  refine z_bipush (v := 6) dX4_init_31 rfl ?_
  refine z_bipush (v := 8) dX4_init_33 rfl ?_
  refine z_multi (rc := 3) (rs := 17) (n := n + 1 + 2) (N := 6) (K := 8) dX4_init_35 cl_X4_28 (by decide) (by decide) (by decide) (by decide) (by decide) (by decide) rfl ?_
  refine z_putFr (k := 4) (fc := 164) dX4_init_39 ckX4 (by decide) fk_X4_30 rfl rfl rfl rfl rfl (At.up2 (atX1 (At.up ha hn) rfl) rfl) (Nat.succ_ne_zero _) ?_
  refine z_aload_n dX4_init_42 0 rfl rfl ?_
  refine z_bipush (v := 6) dX4_init_43 rfl ?_
  refine z_newi (rc := 2) (rs := 11) (n := n + 1 + 2 + 1 + 6) (N := 6) dX4_init_45 (by decide) (by decide) (by decide) rfl ?_
  refine z_putFr (k := 5) (fc := 165) dX4_init_47 ckX4 (by decide) fk_X4_33 rfl rfl rfl rfl rfl (At.up (At.up2 (atX1 (At.up ha hn) rfl) rfl) rfl) (Nat.succ_ne_zero _) ?_
  refine z_aload_n dX4_init_50 0 rfl rfl ?_
  refine z_bipush (v := 8) dX4_init_51 rfl ?_
  refine z_newi (rc := 1) (rs := 3) (n := n + 1 + 2 + 1 + 6 + 1) (N := 8) dX4_init_53 (by decide) (by decide) (by decide) rfl ?_
  refine z_putFr (k := 6) (fc := 166) dX4_init_55 ckX4 (by decide) fk_X4_37 rfl rfl rfl rfl rfl (At.up (At.up (At.up2 (atX1 (At.up ha hn) rfl) rfl) rfl) rfl) (Nat.succ_ne_zero _) ?_
  refine z_aload_n dX4_init_58 0 rfl rfl ?_
  refine z_iconst (v := 0) dX4_init_59 rfl ?_
  refine z_puti (k := 7) (fc := 167) dX4_init_60 ckX4 (by decide) fk_X4_40 rfl rfl rfl (At.up (At.up (At.up2 (atX1 (At.up ha hn) rfl) rfl) rfl) rfl) ?_
  refine z_aload_n dX4_init_63 0 rfl rfl ?_
  refine z_iconst (v := 3) dX4_init_64 rfl ?_
  refine z_newi (rc := 0) (rs := 0) (n := n + 1 + 2 + 1 + 6 + 1 + 1) (N := 3) dX4_init_65 (by decide) (by decide) (by decide) rfl ?_
  refine z_putFr (k := 8) (fc := 168) dX4_init_67 ckX4 (by decide) fk_X4_43 rfl rfl rfl rfl rfl (At.up (At.up (At.up (At.up2 (atX1 (At.up ha hn) rfl) rfl) rfl) rfl) rfl) (Nat.succ_ne_zero _) ?_
  refine z_aload_n dX4_init_70 0 rfl rfl ?_
  refine z_getr (k := 8) (fc := 168) (r := n + 1 + 2 + 1 + 6 + 1 + 1 + 1) dX4_init_71 ckX4 (by decide) fk_X4_43 rfl rfl (At.up (At.up (At.up (At.up2 (atX1 (At.up ha hn) rfl) rfl) rfl) rfl) rfl) u2_s (Nat.succ_ne_zero _) ?_
  refine z_iconst (v := 3) dX4_init_74 rfl ?_
  refine z_callS (ac' := 0) (az' := 0) (rc' := 0) (rs' := 0) (L' := 1) (As := [.ref (n + 1 + 2 + 1 + 6 + 1 + 1 + 1), .int 3]) (rest := []) dX4_init_75 okJ7_fill_53178 smJ7_fill_53178 mk_X4_46 rfl rfl (by decide) (by decide) (Nat.le_refl _) (Nat.le_refl _) (c_fill At.nw (if_pos rfl) (by decide) ?_)
  exact z_vret dX4_init_78 rfl hR
end CTOR
