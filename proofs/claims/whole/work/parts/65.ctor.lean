section CTOR2
variable {l : Launch} {T : SH} {F : MI} {G : MN} {A : MI} {B : MN} {R : PQ}
theorem T1_s {n ci len : Nat} : (T1 T n ci len).2.1 (n + 1) = len := if_pos rfl
theorem T1_o {n ci len x : Nat} (h : x ≠ n + 1) : (T1 T n ci len).2.1 x = T.2.1 x := if_neg h
theorem T2_o {n N K x : Nat} (h : ¬ (n + 1 ≤ x ∧ x ≤ n + 1 + N)) : (T2 T n N K).2.1 x = T.2.1 x := by
  show (if x = n + 1 then N else if n + 1 < x ∧ x ≤ n + 1 + N then K else T.2.1 x) = T.2.1 x
  rw [if_neg (by omega), if_neg (by omega)]
theorem frN_o {a f x : Nat} (h : x ≠ a) : frN G a f x = G f x := if_neg h
theorem cuts_Z {a q : Nat} (ha : At T a 8) (hq : At T q 10) (hlen : T.2.1 q = 18) (gq : G 340 a = q) (hR : R none T F G (flA A q 18 3) B) : ∀ (d i : Nat) (x1 : Int32) (A' : MI), i + d = 18 → x1 = nI i → (A' = fun r j => if r = q ∧ j < i then 3 else A r j) → Z l mX8_init 1 24 1066 0 0 R 205 [(0, .ref a), (1, .int x1)] [] T F G A' B
  | 0, i, x1, A', hd, hx, hA => by
    subst hx
    have : i = 18 := by omega
    subst this
    refine z_iload_n dX8_init_205 1 rfl rfl ?_
    refine z_bipush (v := 18) dX8_init_206 rfl ?_
    refine z_icmp_ge (tgt := 224) dX8_init_208 (by decide) (fun _ => ?_) (fun hb => absurd (Int32.le_refl _) hb)
    rw [hA]
    exact z_vret dX8_init_224 rfl hR
  | d + 1, i, x1, A', hd, hx, hA => by
    subst hx
    refine z_iload_n dX8_init_205 1 rfl rfl ?_
    refine z_bipush (v := 18) dX8_init_206 rfl ?_
    refine z_icmp_ge (tgt := 224) dX8_init_208 (by decide) (fun hb => absurd hb (nI_ge (a := i) (b := 18) (by omega) (by omega))) (fun _ => ?_)
    refine z_aload_n dX8_init_211 0 rfl rfl ?_
    refine z_getr (k := 20) (fc := 340) (r := q) dX8_init_212 ckX8 (by decide) fk_X8_63 rfl rfl ha gq (by have := hq.1; omega) ?_
    refine z_iload_n dX8_init_215 1 rfl rfl ?_
    refine z_iconst (v := 3) dX8_init_216 rfl ?_
    refine z_iast' (n := 18) dX8_init_217 hq hlen (vp_in_nI (by omega) (by omega)) ?_
    refine z_iinc (v := nI i + 1) (lv' := [(0, .ref a), (1, .int (nI i + 1))]) dX8_init_218 1 rfl rfl (by decide) rfl ?_
    refine z_goto (tgt := 205) dX8_init_221 (by decide) ?_
    refine cuts_Z ha hq hlen gq hR d (i + 1) _ _ (by omega) (by rw [nI_1]) ?_
    rw [hA, nI_clamp (by omega)]
    funext r j
    simp only [u2]
    by_cases h1 : r = q
    · by_cases h2 : j = i
      · simp [h1, h2]
      · have h3 : j < i + 1 ↔ j < i := by omega
        simp [h1, h2, h3]
    · simp [h1]
def tX8 (T : SH) (n : Nat) : SH := (T1 (T1 (T1 (T1 (T1 (T1 (T1 (T1 (T1 (T1 (T1 (T1 (T1 (T1 (T1 (T1 (T1 (T1 (T1 (T1 (T1 (T1 (T1 (T1 T (n) 9 80) (n + 1) 10 20) (n + 1 + 1) 10 20) (n + 1 + 1 + 1) 10 20) (n + 1 + 1 + 1 + 1) 10 20) (n + 1 + 1 + 1 + 1 + 1) 10 60) (n + 1 + 1 + 1 + 1 + 1 + 1) 10 6) (n + 1 + 1 + 1 + 1 + 1 + 1 + 1) 10 48) (n + 1 + 1 + 1 + 1 + 1 + 1 + 1 + 1) 10 48) (n + 1 + 1 + 1 + 1 + 1 + 1 + 1 + 1 + 1) 10 8) (n + 1 + 1 + 1 + 1 + 1 + 1 + 1 + 1 + 1 + 1) 10 8) (n + 1 + 1 + 1 + 1 + 1 + 1 + 1 + 1 + 1 + 1 + 1) 10 6) (n + 1 + 1 + 1 + 1 + 1 + 1 + 1 + 1 + 1 + 1 + 1 + 1) 10 6) (n + 1 + 1 + 1 + 1 + 1 + 1 + 1 + 1 + 1 + 1 + 1 + 1 + 1) 10 6) (n + 1 + 1 + 1 + 1 + 1 + 1 + 1 + 1 + 1 + 1 + 1 + 1 + 1 + 1) 10 36) (n + 1 + 1 + 1 + 1 + 1 + 1 + 1 + 1 + 1 + 1 + 1 + 1 + 1 + 1 + 1) 10 288) (n + 1 + 1 + 1 + 1 + 1 + 1 + 1 + 1 + 1 + 1 + 1 + 1 + 1 + 1 + 1 + 1) 10 18) (n + 1 + 1 + 1 + 1 + 1 + 1 + 1 + 1 + 1 + 1 + 1 + 1 + 1 + 1 + 1 + 1 + 1) 10 8) (n + 1 + 1 + 1 + 1 + 1 + 1 + 1 + 1 + 1 + 1 + 1 + 1 + 1 + 1 + 1 + 1 + 1 + 1) 10 64) (n + 1 + 1 + 1 + 1 + 1 + 1 + 1 + 1 + 1 + 1 + 1 + 1 + 1 + 1 + 1 + 1 + 1 + 1 + 1) 10 256) (n + 1 + 1 + 1 + 1 + 1 + 1 + 1 + 1 + 1 + 1 + 1 + 1 + 1 + 1 + 1 + 1 + 1 + 1 + 1 + 1) 10 8) (n + 1 + 1 + 1 + 1 + 1 + 1 + 1 + 1 + 1 + 1 + 1 + 1 + 1 + 1 + 1 + 1 + 1 + 1 + 1 + 1 + 1) 10 6) (n + 1 + 1 + 1 + 1 + 1 + 1 + 1 + 1 + 1 + 1 + 1 + 1 + 1 + 1 + 1 + 1 + 1 + 1 + 1 + 1 + 1 + 1) 10 6) (n + 1 + 1 + 1 + 1 + 1 + 1 + 1 + 1 + 1 + 1 + 1 + 1 + 1 + 1 + 1 + 1 + 1 + 1 + 1 + 1 + 1 + 1 + 1) 10 20)
def fX8 (F : MI) (n a : Nat) : MI := (u2 F 323 a 2)
def gX8 (G : MN) (n a : Nat) : MN := (u2 (u2 (u2 (u2 (u2 (u2 (u2 (u2 (u2 (u2 (u2 (u2 (u2 (u2 (u2 (u2 (u2 (u2 (u2 (u2 (u2 (u2 (u2 (u2 G 320 a (n + 1)) 324 a (n + 1 + 1)) 325 a (n + 1 + 1 + 1)) 326 a (n + 1 + 1 + 1 + 1)) 327 a (n + 1 + 1 + 1 + 1 + 1)) 328 a (n + 1 + 1 + 1 + 1 + 1 + 1)) 329 a (n + 1 + 1 + 1 + 1 + 1 + 1 + 1)) 330 a (n + 1 + 1 + 1 + 1 + 1 + 1 + 1 + 1)) 331 a (n + 1 + 1 + 1 + 1 + 1 + 1 + 1 + 1 + 1)) 333 a (n + 1 + 1 + 1 + 1 + 1 + 1 + 1 + 1 + 1 + 1)) 334 a (n + 1 + 1 + 1 + 1 + 1 + 1 + 1 + 1 + 1 + 1 + 1)) 335 a (n + 1 + 1 + 1 + 1 + 1 + 1 + 1 + 1 + 1 + 1 + 1 + 1)) 336 a (n + 1 + 1 + 1 + 1 + 1 + 1 + 1 + 1 + 1 + 1 + 1 + 1 + 1)) 337 a (n + 1 + 1 + 1 + 1 + 1 + 1 + 1 + 1 + 1 + 1 + 1 + 1 + 1 + 1)) 338 a (n + 1 + 1 + 1 + 1 + 1 + 1 + 1 + 1 + 1 + 1 + 1 + 1 + 1 + 1 + 1)) 339 a (n + 1 + 1 + 1 + 1 + 1 + 1 + 1 + 1 + 1 + 1 + 1 + 1 + 1 + 1 + 1 + 1)) 340 a (n + 1 + 1 + 1 + 1 + 1 + 1 + 1 + 1 + 1 + 1 + 1 + 1 + 1 + 1 + 1 + 1 + 1)) 346 a (n + 1 + 1 + 1 + 1 + 1 + 1 + 1 + 1 + 1 + 1 + 1 + 1 + 1 + 1 + 1 + 1 + 1 + 1)) 347 a (n + 1 + 1 + 1 + 1 + 1 + 1 + 1 + 1 + 1 + 1 + 1 + 1 + 1 + 1 + 1 + 1 + 1 + 1 + 1)) 348 a (n + 1 + 1 + 1 + 1 + 1 + 1 + 1 + 1 + 1 + 1 + 1 + 1 + 1 + 1 + 1 + 1 + 1 + 1 + 1 + 1)) 349 a (n + 1 + 1 + 1 + 1 + 1 + 1 + 1 + 1 + 1 + 1 + 1 + 1 + 1 + 1 + 1 + 1 + 1 + 1 + 1 + 1 + 1)) 351 a (n + 1 + 1 + 1 + 1 + 1 + 1 + 1 + 1 + 1 + 1 + 1 + 1 + 1 + 1 + 1 + 1 + 1 + 1 + 1 + 1 + 1 + 1)) 352 a (n + 1 + 1 + 1 + 1 + 1 + 1 + 1 + 1 + 1 + 1 + 1 + 1 + 1 + 1 + 1 + 1 + 1 + 1 + 1 + 1 + 1 + 1 + 1)) 353 a (n + 1 + 1 + 1 + 1 + 1 + 1 + 1 + 1 + 1 + 1 + 1 + 1 + 1 + 1 + 1 + 1 + 1 + 1 + 1 + 1 + 1 + 1 + 1 + 1))
def aX8 (A : MI) (n a : Nat) : MI := (flA (fa0 (fa0 (fa0 (fa0 (fa0 (fa0 (fa0 (fa0 (fa0 (fa0 (fa0 (fa0 (fa0 (fa0 (fa0 (fa0 (fa0 (fa0 (fa0 (fa0 (fa0 (fa0 (fa0 (fa0 A (n + 1)) (n + 1 + 1)) (n + 1 + 1 + 1)) (n + 1 + 1 + 1 + 1)) (n + 1 + 1 + 1 + 1 + 1)) (n + 1 + 1 + 1 + 1 + 1 + 1)) (n + 1 + 1 + 1 + 1 + 1 + 1 + 1)) (n + 1 + 1 + 1 + 1 + 1 + 1 + 1 + 1)) (n + 1 + 1 + 1 + 1 + 1 + 1 + 1 + 1 + 1)) (n + 1 + 1 + 1 + 1 + 1 + 1 + 1 + 1 + 1 + 1)) (n + 1 + 1 + 1 + 1 + 1 + 1 + 1 + 1 + 1 + 1 + 1)) (n + 1 + 1 + 1 + 1 + 1 + 1 + 1 + 1 + 1 + 1 + 1 + 1)) (n + 1 + 1 + 1 + 1 + 1 + 1 + 1 + 1 + 1 + 1 + 1 + 1 + 1)) (n + 1 + 1 + 1 + 1 + 1 + 1 + 1 + 1 + 1 + 1 + 1 + 1 + 1 + 1)) (n + 1 + 1 + 1 + 1 + 1 + 1 + 1 + 1 + 1 + 1 + 1 + 1 + 1 + 1 + 1)) (n + 1 + 1 + 1 + 1 + 1 + 1 + 1 + 1 + 1 + 1 + 1 + 1 + 1 + 1 + 1 + 1)) (n + 1 + 1 + 1 + 1 + 1 + 1 + 1 + 1 + 1 + 1 + 1 + 1 + 1 + 1 + 1 + 1 + 1)) (n + 1 + 1 + 1 + 1 + 1 + 1 + 1 + 1 + 1 + 1 + 1 + 1 + 1 + 1 + 1 + 1 + 1 + 1)) (n + 1 + 1 + 1 + 1 + 1 + 1 + 1 + 1 + 1 + 1 + 1 + 1 + 1 + 1 + 1 + 1 + 1 + 1 + 1)) (n + 1 + 1 + 1 + 1 + 1 + 1 + 1 + 1 + 1 + 1 + 1 + 1 + 1 + 1 + 1 + 1 + 1 + 1 + 1 + 1)) (n + 1 + 1 + 1 + 1 + 1 + 1 + 1 + 1 + 1 + 1 + 1 + 1 + 1 + 1 + 1 + 1 + 1 + 1 + 1 + 1 + 1)) (n + 1 + 1 + 1 + 1 + 1 + 1 + 1 + 1 + 1 + 1 + 1 + 1 + 1 + 1 + 1 + 1 + 1 + 1 + 1 + 1 + 1 + 1)) (n + 1 + 1 + 1 + 1 + 1 + 1 + 1 + 1 + 1 + 1 + 1 + 1 + 1 + 1 + 1 + 1 + 1 + 1 + 1 + 1 + 1 + 1 + 1)) (n + 1 + 1 + 1 + 1 + 1 + 1 + 1 + 1 + 1 + 1 + 1 + 1 + 1 + 1 + 1 + 1 + 1 + 1 + 1 + 1 + 1 + 1 + 1 + 1)) (n + 1 + 1 + 1 + 1 + 1 + 1 + 1 + 1 + 1 + 1 + 1 + 1 + 1 + 1 + 1 + 1 + 1) 18 3)
def bX8 (B : MN) (n : Nat) : MN := B
theorem atX8 {T : SH} {n a ci : Nat} (ha : At T a ci) (hn : T.2.2 = n) : At (tX8 T n) a ci := by
  show At (T1 (T1 (T1 (T1 (T1 (T1 (T1 (T1 (T1 (T1 (T1 (T1 (T1 (T1 (T1 (T1 (T1 (T1 (T1 (T1 (T1 (T1 (T1 (T1 T (n) 9 80) (n + 1) 10 20) (n + 1 + 1) 10 20) (n + 1 + 1 + 1) 10 20) (n + 1 + 1 + 1 + 1) 10 20) (n + 1 + 1 + 1 + 1 + 1) 10 60) (n + 1 + 1 + 1 + 1 + 1 + 1) 10 6) (n + 1 + 1 + 1 + 1 + 1 + 1 + 1) 10 48) (n + 1 + 1 + 1 + 1 + 1 + 1 + 1 + 1) 10 48) (n + 1 + 1 + 1 + 1 + 1 + 1 + 1 + 1 + 1) 10 8) (n + 1 + 1 + 1 + 1 + 1 + 1 + 1 + 1 + 1 + 1) 10 8) (n + 1 + 1 + 1 + 1 + 1 + 1 + 1 + 1 + 1 + 1 + 1) 10 6) (n + 1 + 1 + 1 + 1 + 1 + 1 + 1 + 1 + 1 + 1 + 1 + 1) 10 6) (n + 1 + 1 + 1 + 1 + 1 + 1 + 1 + 1 + 1 + 1 + 1 + 1 + 1) 10 6) (n + 1 + 1 + 1 + 1 + 1 + 1 + 1 + 1 + 1 + 1 + 1 + 1 + 1 + 1) 10 36) (n + 1 + 1 + 1 + 1 + 1 + 1 + 1 + 1 + 1 + 1 + 1 + 1 + 1 + 1 + 1) 10 288) (n + 1 + 1 + 1 + 1 + 1 + 1 + 1 + 1 + 1 + 1 + 1 + 1 + 1 + 1 + 1 + 1) 10 18) (n + 1 + 1 + 1 + 1 + 1 + 1 + 1 + 1 + 1 + 1 + 1 + 1 + 1 + 1 + 1 + 1 + 1) 10 8) (n + 1 + 1 + 1 + 1 + 1 + 1 + 1 + 1 + 1 + 1 + 1 + 1 + 1 + 1 + 1 + 1 + 1 + 1) 10 64) (n + 1 + 1 + 1 + 1 + 1 + 1 + 1 + 1 + 1 + 1 + 1 + 1 + 1 + 1 + 1 + 1 + 1 + 1 + 1) 10 256) (n + 1 + 1 + 1 + 1 + 1 + 1 + 1 + 1 + 1 + 1 + 1 + 1 + 1 + 1 + 1 + 1 + 1 + 1 + 1 + 1) 10 8) (n + 1 + 1 + 1 + 1 + 1 + 1 + 1 + 1 + 1 + 1 + 1 + 1 + 1 + 1 + 1 + 1 + 1 + 1 + 1 + 1 + 1) 10 6) (n + 1 + 1 + 1 + 1 + 1 + 1 + 1 + 1 + 1 + 1 + 1 + 1 + 1 + 1 + 1 + 1 + 1 + 1 + 1 + 1 + 1 + 1) 10 6) (n + 1 + 1 + 1 + 1 + 1 + 1 + 1 + 1 + 1 + 1 + 1 + 1 + 1 + 1 + 1 + 1 + 1 + 1 + 1 + 1 + 1 + 1 + 1) 10 20) a ci
  exact (At.up (At.up (At.up (At.up (At.up (At.up (At.up (At.up (At.up (At.up (At.up (At.up (At.up (At.up (At.up (At.up (At.up (At.up (At.up (At.up (At.up (At.up (At.up (At.up ha hn) rfl) rfl) rfl) rfl) rfl) rfl) rfl) rfl) rfl) rfl) rfl) rfl) rfl) rfl) rfl) rfl) rfl) rfl) rfl) rfl) rfl) rfl) rfl)
theorem cX8 {n a : Nat} (hn : T.2.2 = n) (ha : At T a 8) (hR : R none (tX8 T n) (fX8 F n a) (gX8 G n a) (aX8 A n a) (bX8 B n)) : Cn l mX8_init 1 24 1066 [.ref a] T F G A B R := by
  refine Cn.ofZ (lv := [(0, .ref a)]) rfl (fun _ _ => rfl) (fun _ _ => Nat.le_of_ble_eq_true rfl) ?_
  refine z_aload_n dX8_init_0 0 rfl rfl ?_
  refine z_objInit dX8_init_1 oi_X8 (by decide) (by decide) ?_
  refine z_aload_n dX8_init_4 0 rfl rfl ?_
  refine z_bipush (v := 80) dX8_init_5 rfl ?_
  refine z_newb (rc := 23) (rs := 986) (n := n) (N := 80) dX8_init_7 (by decide) (by decide) (by decide) hn ?_
  refine z_putFr (k := 0) (fc := 320) dX8_init_9 ckX8 (by decide) fk_X8_7 rfl rfl rfl rfl rfl (At.up ha hn) (Nat.succ_ne_zero _) ?_
  refine z_aload_n dX8_init_12 0 rfl rfl ?_
  refine z_iconst (v := 2) dX8_init_13 rfl ?_
  refine z_puti (k := 3) (fc := 323) dX8_init_14 ckX8 (by decide) fk_X8_13 rfl rfl rfl (At.up ha hn) ?_
  refine z_aload_n dX8_init_17 0 rfl rfl ?_
  refine z_bipush (v := 20) dX8_init_18 rfl ?_
  refine z_newi (rc := 22) (rs := 966) (n := n + 1) (N := 20) dX8_init_20 (by decide) (by decide) (by decide) rfl ?_
  refine z_putFr (k := 4) (fc := 324) dX8_init_22 ckX8 (by decide) fk_X8_17 rfl rfl rfl rfl rfl (At.up (At.up ha hn) rfl) (Nat.succ_ne_zero _) ?_
  refine z_aload_n dX8_init_25 0 rfl rfl ?_
  refine z_bipush (v := 20) dX8_init_26 rfl ?_
  refine z_newi (rc := 21) (rs := 946) (n := n + 1 + 1) (N := 20) dX8_init_28 (by decide) (by decide) (by decide) rfl ?_
  refine z_putFr (k := 5) (fc := 325) dX8_init_30 ckX8 (by decide) fk_X8_21 rfl rfl rfl rfl rfl (At.up (At.up (At.up ha hn) rfl) rfl) (Nat.succ_ne_zero _) ?_
  refine z_aload_n dX8_init_33 0 rfl rfl ?_
  refine z_bipush (v := 20) dX8_init_34 rfl ?_
  refine z_newi (rc := 20) (rs := 926) (n := n + 1 + 1 + 1) (N := 20) dX8_init_36 (by decide) (by decide) (by decide) rfl ?_
  refine z_putFr (k := 6) (fc := 326) dX8_init_38 ckX8 (by decide) fk_X8_24 rfl rfl rfl rfl rfl (At.up (At.up (At.up (At.up ha hn) rfl) rfl) rfl) (Nat.succ_ne_zero _) ?_
  refine z_aload_n dX8_init_41 0 rfl rfl ?_
  refine z_bipush (v := 20) dX8_init_42 rfl ?_
  refine z_newi (rc := 19) (rs := 906) (n := n + 1 + 1 + 1 + 1) (N := 20) dX8_init_44 (by decide) (by decide) (by decide) rfl ?_
  refine z_putFr (k := 7) (fc := 327) dX8_init_46 ckX8 (by decide) fk_X8_27 rfl rfl rfl rfl rfl (At.up (At.up (At.up (At.up (At.up ha hn) rfl) rfl) rfl) rfl) (Nat.succ_ne_zero _) ?_
  refine z_aload_n dX8_init_49 0 rfl rfl ?_
  refine z_bipush (v := 60) dX8_init_50 rfl ?_
  refine z_newi (rc := 18) (rs := 846) (n := n + 1 + 1 + 1 + 1 + 1) (N := 60) dX8_init_52 (by decide) (by decide) (by decide) rfl ?_
  refine z_putFr (k := 8) (fc := 328) dX8_init_54 ckX8 (by decide) fk_X8_30 rfl rfl rfl rfl rfl (At.up (At.up (At.up (At.up (At.up (At.up ha hn) rfl) rfl) rfl) rfl) rfl) (Nat.succ_ne_zero _) ?_
  refine z_aload_n dX8_init_57 0 rfl rfl ?_
  refine z_bipush (v := 6) dX8_init_58 rfl ?_
  refine z_newi (rc := 17) (rs := 840) (n := n + 1 + 1 + 1 + 1 + 1 + 1) (N := 6) dX8_init_60 (by decide) (by decide) (by decide) rfl ?_
  refine z_putFr (k := 9) (fc := 329) dX8_init_62 ckX8 (by decide) fk_X8_33 rfl rfl rfl rfl rfl (At.up (At.up (At.up (At.up (At.up (At.up (At.up ha hn) rfl) rfl) rfl) rfl) rfl) rfl) (Nat.succ_ne_zero _) ?_
  refine z_aload_n dX8_init_65 0 rfl rfl ?_
  refine z_bipush (v := 48) dX8_init_66 rfl ?_
  refine z_newi (rc := 16) (rs := 792) (n := n + 1 + 1 + 1 + 1 + 1 + 1 + 1) (N := 48) dX8_init_68 (by decide) (by decide) (by decide) rfl ?_
  refine z_putFr (k := 10) (fc := 330) dX8_init_70 ckX8 (by decide) fk_X8_36 rfl rfl rfl rfl rfl (At.up (At.up (At.up (At.up (At.up (At.up (At.up (At.up ha hn) rfl) rfl) rfl) rfl) rfl) rfl) rfl) (Nat.succ_ne_zero _) ?_
  refine z_aload_n dX8_init_73 0 rfl rfl ?_
  refine z_bipush (v := 48) dX8_init_74 rfl ?_
  refine z_newi (rc := 15) (rs := 744) (n := n + 1 + 1 + 1 + 1 + 1 + 1 + 1 + 1) (N := 48) dX8_init_76 (by decide) (by decide) (by decide) rfl ?_
  refine z_putFr (k := 11) (fc := 331) dX8_init_78 ckX8 (by decide) fk_X8_39 rfl rfl rfl rfl rfl (At.up (At.up (At.up (At.up (At.up (At.up (At.up (At.up (At.up ha hn) rfl) rfl) rfl) rfl) rfl) rfl) rfl) rfl) (Nat.succ_ne_zero _) ?_
  refine z_aload_n dX8_init_81 0 rfl rfl ?_
  refine z_bipush (v := 8) dX8_init_82 rfl ?_
  refine z_newi (rc := 14) (rs := 736) (n := n + 1 + 1 + 1 + 1 + 1 + 1 + 1 + 1 + 1) (N := 8) dX8_init_84 (by decide) (by decide) (by decide) rfl ?_
  refine z_putFr (k := 13) (fc := 333) dX8_init_86 ckX8 (by decide) fk_X8_42 rfl rfl rfl rfl rfl (At.up (At.up (At.up (At.up (At.up (At.up (At.up (At.up (At.up (At.up ha hn) rfl) rfl) rfl) rfl) rfl) rfl) rfl) rfl) rfl) (Nat.succ_ne_zero _) ?_
  refine z_aload_n dX8_init_89 0 rfl rfl ?_
  refine z_bipush (v := 8) dX8_init_90 rfl ?_
  refine z_newi (rc := 13) (rs := 728) (n := n + 1 + 1 + 1 + 1 + 1 + 1 + 1 + 1 + 1 + 1) (N := 8) dX8_init_92 (by decide) (by decide) (by decide) rfl ?_
  refine z_putFr (k := 14) (fc := 334) dX8_init_94 ckX8 (by decide) fk_X8_45 rfl rfl rfl rfl rfl (At.up (At.up (At.up (At.up (At.up (At.up (At.up (At.up (At.up (At.up (At.up ha hn) rfl) rfl) rfl) rfl) rfl) rfl) rfl) rfl) rfl) rfl) (Nat.succ_ne_zero _) ?_
  refine z_aload_n dX8_init_97 0 rfl rfl ?_
  refine z_bipush (v := 6) dX8_init_98 rfl ?_
  refine z_newi (rc := 12) (rs := 722) (n := n + 1 + 1 + 1 + 1 + 1 + 1 + 1 + 1 + 1 + 1 + 1) (N := 6) dX8_init_100 (by decide) (by decide) (by decide) rfl ?_
  refine z_putFr (k := 15) (fc := 335) dX8_init_102 ckX8 (by decide) fk_X8_48 rfl rfl rfl rfl rfl (At.up (At.up (At.up (At.up (At.up (At.up (At.up (At.up (At.up (At.up (At.up (At.up ha hn) rfl) rfl) rfl) rfl) rfl) rfl) rfl) rfl) rfl) rfl) rfl) (Nat.succ_ne_zero _) ?_
  refine z_aload_n dX8_init_105 0 rfl rfl ?_
  refine z_bipush (v := 6) dX8_init_106 rfl ?_
  refine z_newi (rc := 11) (rs := 716) (n := n + 1 + 1 + 1 + 1 + 1 + 1 + 1 + 1 + 1 + 1 + 1 + 1) (N := 6) dX8_init_108 (by decide) (by decide) (by decide) rfl ?_
  refine z_putFr (k := 16) (fc := 336) dX8_init_110 ckX8 (by decide) fk_X8_51 rfl rfl rfl rfl rfl (At.up (At.up (At.up (At.up (At.up (At.up (At.up (At.up (At.up (At.up (At.up (At.up (At.up ha hn) rfl) rfl) rfl) rfl) rfl) rfl) rfl) rfl) rfl) rfl) rfl) rfl) (Nat.succ_ne_zero _) ?_
  refine z_aload_n dX8_init_113 0 rfl rfl ?_
  refine z_bipush (v := 6) dX8_init_114 rfl ?_
  refine z_newi (rc := 10) (rs := 710) (n := n + 1 + 1 + 1 + 1 + 1 + 1 + 1 + 1 + 1 + 1 + 1 + 1 + 1) (N := 6) dX8_init_116 (by decide) (by decide) (by decide) rfl ?_
  refine z_putFr (k := 17) (fc := 337) dX8_init_118 ckX8 (by decide) fk_X8_54 rfl rfl rfl rfl rfl (At.up (At.up (At.up (At.up (At.up (At.up (At.up (At.up (At.up (At.up (At.up (At.up (At.up (At.up ha hn) rfl) rfl) rfl) rfl) rfl) rfl) rfl) rfl) rfl) rfl) rfl) rfl) rfl) (Nat.succ_ne_zero _) ?_
  refine z_aload_n dX8_init_121 0 rfl rfl ?_
  refine z_bipush (v := 36) dX8_init_122 rfl ?_
  refine z_newi (rc := 9) (rs := 674) (n := n + 1 + 1 + 1 + 1 + 1 + 1 + 1 + 1 + 1 + 1 + 1 + 1 + 1 + 1) (N := 36) dX8_init_124 (by decide) (by decide) (by decide) rfl ?_
  refine z_putFr (k := 18) (fc := 338) dX8_init_126 ckX8 (by decide) fk_X8_57 rfl rfl rfl rfl rfl (At.up (At.up (At.up (At.up (At.up (At.up (At.up (At.up (At.up (At.up (At.up (At.up (At.up (At.up (At.up ha hn) rfl) rfl) rfl) rfl) rfl) rfl) rfl) rfl) rfl) rfl) rfl) rfl) rfl) rfl) (Nat.succ_ne_zero _) ?_
  refine z_aload_n dX8_init_129 0 rfl rfl ?_
  refine z_sipush (v := 288) dX8_init_130 rfl ?_
  refine z_newi (rc := 8) (rs := 386) (n := n + 1 + 1 + 1 + 1 + 1 + 1 + 1 + 1 + 1 + 1 + 1 + 1 + 1 + 1 + 1) (N := 288) dX8_init_133 (by decide) (by decide) (by decide) rfl ?_
  refine z_putFr (k := 19) (fc := 339) dX8_init_135 ckX8 (by decide) fk_X8_60 rfl rfl rfl rfl rfl (At.up (At.up (At.up (At.up (At.up (At.up (At.up (At.up (At.up (At.up (At.up (At.up (At.up (At.up (At.up (At.up ha hn) rfl) rfl) rfl) rfl) rfl) rfl) rfl) rfl) rfl) rfl) rfl) rfl) rfl) rfl) rfl) (Nat.succ_ne_zero _) ?_
  refine z_aload_n dX8_init_138 0 rfl rfl ?_
  refine z_bipush (v := 18) dX8_init_139 rfl ?_
  refine z_newi (rc := 7) (rs := 368) (n := n + 1 + 1 + 1 + 1 + 1 + 1 + 1 + 1 + 1 + 1 + 1 + 1 + 1 + 1 + 1 + 1) (N := 18) dX8_init_141 (by decide) (by decide) (by decide) rfl ?_
  refine z_putFr (k := 20) (fc := 340) dX8_init_143 ckX8 (by decide) fk_X8_63 rfl rfl rfl rfl rfl (At.up (At.up (At.up (At.up (At.up (At.up (At.up (At.up (At.up (At.up (At.up (At.up (At.up (At.up (At.up (At.up (At.up ha hn) rfl) rfl) rfl) rfl) rfl) rfl) rfl) rfl) rfl) rfl) rfl) rfl) rfl) rfl) rfl) rfl) (Nat.succ_ne_zero _) ?_
  refine z_aload_n dX8_init_146 0 rfl rfl ?_
  refine z_bipush (v := 8) dX8_init_147 rfl ?_
  refine z_newi (rc := 6) (rs := 360) (n := n + 1 + 1 + 1 + 1 + 1 + 1 + 1 + 1 + 1 + 1 + 1 + 1 + 1 + 1 + 1 + 1 + 1) (N := 8) dX8_init_149 (by decide) (by decide) (by decide) rfl ?_
  refine z_putFr (k := 26) (fc := 346) dX8_init_151 ckX8 (by decide) fk_X8_66 rfl rfl rfl rfl rfl (At.up (At.up (At.up (At.up (At.up (At.up (At.up (At.up (At.up (At.up (At.up (At.up (At.up (At.up (At.up (At.up (At.up (At.up ha hn) rfl) rfl) rfl) rfl) rfl) rfl) rfl) rfl) rfl) rfl) rfl) rfl) rfl) rfl) rfl) rfl) rfl) (Nat.succ_ne_zero _) ?_
  refine z_aload_n dX8_init_154 0 rfl rfl ?_
  refine z_bipush (v := 64) dX8_init_155 rfl ?_
  refine z_newi (rc := 5) (rs := 296) (n := n + 1 + 1 + 1 + 1 + 1 + 1 + 1 + 1 + 1 + 1 + 1 + 1 + 1 + 1 + 1 + 1 + 1 + 1) (N := 64) dX8_init_157 (by decide) (by decide) (by decide) rfl ?_
  refine z_putFr (k := 27) (fc := 347) dX8_init_159 ckX8 (by decide) fk_X8_69 rfl rfl rfl rfl rfl (At.up (At.up (At.up (At.up (At.up (At.up (At.up (At.up (At.up (At.up (At.up (At.up (At.up (At.up (At.up (At.up (At.up (At.up (At.up ha hn) rfl) rfl) rfl) rfl) rfl) rfl) rfl) rfl) rfl) rfl) rfl) rfl) rfl) rfl) rfl) rfl) rfl) rfl) (Nat.succ_ne_zero _) ?_
  refine z_aload_n dX8_init_162 0 rfl rfl ?_
  refine z_sipush (v := 256) dX8_init_163 rfl ?_
  refine z_newi (rc := 4) (rs := 40) (n := n + 1 + 1 + 1 + 1 + 1 + 1 + 1 + 1 + 1 + 1 + 1 + 1 + 1 + 1 + 1 + 1 + 1 + 1 + 1) (N := 256) dX8_init_166 (by decide) (by decide) (by decide) rfl ?_
  refine z_putFr (k := 28) (fc := 348) dX8_init_168 ckX8 (by decide) fk_X8_72 rfl rfl rfl rfl rfl (At.up (At.up (At.up (At.up (At.up (At.up (At.up (At.up (At.up (At.up (At.up (At.up (At.up (At.up (At.up (At.up (At.up (At.up (At.up (At.up ha hn) rfl) rfl) rfl) rfl) rfl) rfl) rfl) rfl) rfl) rfl) rfl) rfl) rfl) rfl) rfl) rfl) rfl) rfl) rfl) (Nat.succ_ne_zero _) ?_
  refine z_aload_n dX8_init_171 0 rfl rfl ?_
  refine z_bipush (v := 8) dX8_init_172 rfl ?_
  refine z_newi (rc := 3) (rs := 32) (n := n + 1 + 1 + 1 + 1 + 1 + 1 + 1 + 1 + 1 + 1 + 1 + 1 + 1 + 1 + 1 + 1 + 1 + 1 + 1 + 1) (N := 8) dX8_init_174 (by decide) (by decide) (by decide) rfl ?_
  refine z_putFr (k := 29) (fc := 349) dX8_init_176 ckX8 (by decide) fk_X8_75 rfl rfl rfl rfl rfl (At.up (At.up (At.up (At.up (At.up (At.up (At.up (At.up (At.up (At.up (At.up (At.up (At.up (At.up (At.up (At.up (At.up (At.up (At.up (At.up (At.up ha hn) rfl) rfl) rfl) rfl) rfl) rfl) rfl) rfl) rfl) rfl) rfl) rfl) rfl) rfl) rfl) rfl) rfl) rfl) rfl) rfl) (Nat.succ_ne_zero _) ?_
  refine z_aload_n dX8_init_179 0 rfl rfl ?_
  refine z_bipush (v := 6) dX8_init_180 rfl ?_
  refine z_newi (rc := 2) (rs := 26) (n := n + 1 + 1 + 1 + 1 + 1 + 1 + 1 + 1 + 1 + 1 + 1 + 1 + 1 + 1 + 1 + 1 + 1 + 1 + 1 + 1 + 1) (N := 6) dX8_init_182 (by decide) (by decide) (by decide) rfl ?_
  refine z_putFr (k := 31) (fc := 351) dX8_init_184 ckX8 (by decide) fk_X8_78 rfl rfl rfl rfl rfl (At.up (At.up (At.up (At.up (At.up (At.up (At.up (At.up (At.up (At.up (At.up (At.up (At.up (At.up (At.up (At.up (At.up (At.up (At.up (At.up (At.up (At.up ha hn) rfl) rfl) rfl) rfl) rfl) rfl) rfl) rfl) rfl) rfl) rfl) rfl) rfl) rfl) rfl) rfl) rfl) rfl) rfl) rfl) rfl) (Nat.succ_ne_zero _) ?_
  refine z_aload_n dX8_init_187 0 rfl rfl ?_
  refine z_bipush (v := 6) dX8_init_188 rfl ?_
  refine z_newi (rc := 1) (rs := 20) (n := n + 1 + 1 + 1 + 1 + 1 + 1 + 1 + 1 + 1 + 1 + 1 + 1 + 1 + 1 + 1 + 1 + 1 + 1 + 1 + 1 + 1 + 1) (N := 6) dX8_init_190 (by decide) (by decide) (by decide) rfl ?_
  refine z_putFr (k := 32) (fc := 352) dX8_init_192 ckX8 (by decide) fk_X8_81 rfl rfl rfl rfl rfl (At.up (At.up (At.up (At.up (At.up (At.up (At.up (At.up (At.up (At.up (At.up (At.up (At.up (At.up (At.up (At.up (At.up (At.up (At.up (At.up (At.up (At.up (At.up ha hn) rfl) rfl) rfl) rfl) rfl) rfl) rfl) rfl) rfl) rfl) rfl) rfl) rfl) rfl) rfl) rfl) rfl) rfl) rfl) rfl) rfl) rfl) (Nat.succ_ne_zero _) ?_
  refine z_aload_n dX8_init_195 0 rfl rfl ?_
  refine z_bipush (v := 20) dX8_init_196 rfl ?_
  refine z_newi (rc := 0) (rs := 0) (n := n + 1 + 1 + 1 + 1 + 1 + 1 + 1 + 1 + 1 + 1 + 1 + 1 + 1 + 1 + 1 + 1 + 1 + 1 + 1 + 1 + 1 + 1 + 1) (N := 20) dX8_init_198 (by decide) (by decide) (by decide) rfl ?_
  refine z_putFr (k := 33) (fc := 353) dX8_init_200 ckX8 (by decide) fk_X8_84 rfl rfl rfl rfl rfl (At.up (At.up (At.up (At.up (At.up (At.up (At.up (At.up (At.up (At.up (At.up (At.up (At.up (At.up (At.up (At.up (At.up (At.up (At.up (At.up (At.up (At.up (At.up (At.up ha hn) rfl) rfl) rfl) rfl) rfl) rfl) rfl) rfl) rfl) rfl) rfl) rfl) rfl) rfl) rfl) rfl) rfl) rfl) rfl) rfl) rfl) rfl) rfl) (Nat.succ_ne_zero _) ?_
  refine z_iconst (v := 0) dX8_init_203 rfl ?_
  refine z_istore_n (lv' := [(0, .ref a), (1, .int 0)]) dX8_init_204 rfl (by decide) rfl ?_
  refine cuts_Z (T := tX8 T n) (G := gX8 G n a) (q := n + 1 + 1 + 1 + 1 + 1 + 1 + 1 + 1 + 1 + 1 + 1 + 1 + 1 + 1 + 1 + 1 + 1) (atX8 ha hn) (by show At (T1 (T1 (T1 (T1 (T1 (T1 (T1 (T1 (T1 (T1 (T1 (T1 (T1 (T1 (T1 (T1 (T1 (T1 (T1 (T1 (T1 (T1 (T1 (T1 T (n) 9 80) (n + 1) 10 20) (n + 1 + 1) 10 20) (n + 1 + 1 + 1) 10 20) (n + 1 + 1 + 1 + 1) 10 20) (n + 1 + 1 + 1 + 1 + 1) 10 60) (n + 1 + 1 + 1 + 1 + 1 + 1) 10 6) (n + 1 + 1 + 1 + 1 + 1 + 1 + 1) 10 48) (n + 1 + 1 + 1 + 1 + 1 + 1 + 1 + 1) 10 48) (n + 1 + 1 + 1 + 1 + 1 + 1 + 1 + 1 + 1) 10 8) (n + 1 + 1 + 1 + 1 + 1 + 1 + 1 + 1 + 1 + 1) 10 8) (n + 1 + 1 + 1 + 1 + 1 + 1 + 1 + 1 + 1 + 1 + 1) 10 6) (n + 1 + 1 + 1 + 1 + 1 + 1 + 1 + 1 + 1 + 1 + 1 + 1) 10 6) (n + 1 + 1 + 1 + 1 + 1 + 1 + 1 + 1 + 1 + 1 + 1 + 1 + 1) 10 6) (n + 1 + 1 + 1 + 1 + 1 + 1 + 1 + 1 + 1 + 1 + 1 + 1 + 1 + 1) 10 36) (n + 1 + 1 + 1 + 1 + 1 + 1 + 1 + 1 + 1 + 1 + 1 + 1 + 1 + 1 + 1) 10 288) (n + 1 + 1 + 1 + 1 + 1 + 1 + 1 + 1 + 1 + 1 + 1 + 1 + 1 + 1 + 1 + 1) 10 18) (n + 1 + 1 + 1 + 1 + 1 + 1 + 1 + 1 + 1 + 1 + 1 + 1 + 1 + 1 + 1 + 1 + 1) 10 8) (n + 1 + 1 + 1 + 1 + 1 + 1 + 1 + 1 + 1 + 1 + 1 + 1 + 1 + 1 + 1 + 1 + 1 + 1) 10 64) (n + 1 + 1 + 1 + 1 + 1 + 1 + 1 + 1 + 1 + 1 + 1 + 1 + 1 + 1 + 1 + 1 + 1 + 1 + 1) 10 256) (n + 1 + 1 + 1 + 1 + 1 + 1 + 1 + 1 + 1 + 1 + 1 + 1 + 1 + 1 + 1 + 1 + 1 + 1 + 1 + 1) 10 8) (n + 1 + 1 + 1 + 1 + 1 + 1 + 1 + 1 + 1 + 1 + 1 + 1 + 1 + 1 + 1 + 1 + 1 + 1 + 1 + 1 + 1) 10 6) (n + 1 + 1 + 1 + 1 + 1 + 1 + 1 + 1 + 1 + 1 + 1 + 1 + 1 + 1 + 1 + 1 + 1 + 1 + 1 + 1 + 1 + 1) 10 6) (n + 1 + 1 + 1 + 1 + 1 + 1 + 1 + 1 + 1 + 1 + 1 + 1 + 1 + 1 + 1 + 1 + 1 + 1 + 1 + 1 + 1 + 1 + 1) 10 20) _ _; exact (At.up (At.up (At.up (At.up (At.up (At.up (At.up At.nw rfl) rfl) rfl) rfl) rfl) rfl) rfl)) ?_ ?_ hR 18 0 0 _ (by omega) rfl (funext fun r => funext fun j => (if_neg (by omega)).symm)
  · unfold tX8
    repeat rw [T1_o (by omega)]
    rw [T1_s]
  · unfold gX8
    repeat rw [u2_n1 (by decide)]
    rw [u2_s]
/-- one CLASS more -/
def kT (T : SH) (n : Nat) : SH := tX4 (T1 T n 4 0) (n + 1)
def kF (F : MI) (n : Nat) : MI := fX4 (fr0 F (n + 1)) (n + 1) (n + 1)
def kG (G : MN) (n : Nat) : MN := gX4 (frN G (n + 1)) (n + 1) (n + 1)
def kA (A : MI) (n : Nat) : MI := aX4 A (n + 1) (n + 1)
def kB (B : MN) (n r c : Nat) : MN := u2 (bX4 B (n + 1)) r c (n + 1)
def cT (T : SH) (n : Nat) : Nat → SH
  | 0 => T
  | c + 1 => kT (cT T n c) (n + 14 * c)
def cF (F : MI) (n : Nat) : Nat → MI
  | 0 => F
  | c + 1 => kF (cF F n c) (n + 14 * c)
def cG (G : MN) (n : Nat) : Nat → MN
  | 0 => G
  | c + 1 => kG (cG G n c) (n + 14 * c)
def cA (A : MI) (n : Nat) : Nat → MI
  | 0 => A
  | c + 1 => kA (cA A n c) (n + 14 * c)
def cB (B : MN) (n r : Nat) : Nat → MN
  | 0 => B
  | c + 1 => kB (cB B n r c) (n + 14 * c) r c
theorem kT_n {n : Nat} : (kT T n).2.2 = n + 14 := rfl
theorem kT_at {n a ci : Nat} (h : At T a ci) (hn : T.2.2 = n) : At (kT T n) a ci := atX4 (At.up h hn) rfl
theorem kT_len {n x : Nat} (h : x ≤ n) : (kT T n).2.1 x = T.2.1 x := by
  unfold kT tX4 tX1
  repeat (first | rw [T1_o (by omega)] | rw [T2_o (by omega)])
theorem kG_old {n x f : Nat} (h : x ≤ n) : kG G n f x = G f x := by
  unfold kG gX4 gX1
  repeat (first | rw [u2_n2 (by omega)] | rw [frN_o (by omega)])
theorem cT_n {n : Nat} (hn : T.2.2 = n) : ∀ c, (cT T n c).2.2 = n + 14 * c
  | 0 => hn
  | c + 1 => by
    show (kT (cT T n c) (n + 14 * c)).2.2 = _
    rw [kT_n]; omega
theorem cT_at {n a ci : Nat} (h : At T a ci) (hn : T.2.2 = n) : ∀ c, At (cT T n c) a ci
  | 0 => h
  | c + 1 => kT_at (cT_at h hn c) (cT_n hn c)
theorem cT_len {n x : Nat} (h : x ≤ n) : ∀ c, (cT T n c).2.1 x = T.2.1 x
  | 0 => rfl
  | c + 1 => (kT_len (by omega)).trans (cT_len h c)
theorem cG_old {n x f : Nat} (h : x ≤ n) : ∀ c, cG G n c f x = G f x
  | 0 => rfl
  | c + 1 => (kG_old (by omega)).trans (cG_old h c)
theorem loop7 {n a r : Nat} (hn : T.2.2 = n) (ha : At T a 7) (hr : At T r 12) (hlen : T.2.1 r = 6) (gr : G 282 a = r) {ac az : Nat} (hR : R none (cT T n 6) (cF F n 6) (cG G n 6) (cA A n 6) (cB B n r 6)) : ∀ (d c : Nat) (x1 : Int32), c + d = 6 → x1 = nI c → Z l mX7_init 5 ac az (14 * d) (91 * d) R 97 [(0, .ref a), (1, .int x1)] [] (cT T n c) (cF F n c) (cG G n c) (cA A n c) (cB B n r c)
  | 0, c, x1, hd, hx => by
    subst hx
    have : c = 6 := by omega
    subst this
    refine z_iload_n dX7_init_97 1 rfl rfl ?_
    refine z_bipush (v := 6) dX7_init_98 rfl ?_
    refine z_icmp_ge (tgt := 122) dX7_init_100 (by decide) (fun _ => ?_) (fun hb => absurd (Int32.le_refl _) hb)
    exact z_vret dX7_init_122 rfl hR
  | d + 1, c, x1, hd, hx => by
    subst hx
    have hrn : r ≤ n := by have := hr.2.1; omega
    have han : a ≤ n := by have := ha.2.1; omega
    refine z_iload_n dX7_init_97 1 rfl rfl ?_
    refine z_bipush (v := 6) dX7_init_98 rfl ?_
    refine z_icmp_ge (tgt := 122) dX7_init_100 (by decide) (fun hb => absurd hb (nI_ge (a := c) (b := 6) (by omega) (by omega))) (fun _ => ?_)
    refine z_aload_n dX7_init_103 0 rfl rfl ?_
    refine z_getr (k := 2) (fc := 282) (r := r) dX7_init_104 ckX7 (by decide) fk_X7_24 rfl rfl (cT_at ha hn c) ((cG_old han c).trans gr) (by have := hr.1; omega) ?_
    refine z_iload_n dX7_init_107 1 rfl rfl ?_
    rw [show 14 * (d + 1) = (14 * d + 13) + 1 by omega, show 91 * (d + 1) = (91 * d + 82) + 9 by omega]
    refine z_new (n := n + 14 * c) dX7_init_108 ckX4 cl_X7_22 nn_X4 in_X4 (cT_n hn c) ?_
    refine z_dup dX7_init_111 ?_
    refine z_callI (ac' := 13) (az' := 82) (rc' := 14 * d) (rs' := 91 * d) (L' := 4) (As := []) (rest := [.ref (n + 14 * c + 1), .int (nI c), .ref r]) dX7_init_112 okX4_init rfl rfl imX4_init mk_X7_67 rfl rfl (Nat.le_of_ble_eq_true rfl) (by decide) (by omega) (by omega) (cX4 (n := n + 14 * c + 1) rfl At.nw ?_)
    have hT : At (kT (cT T n c) (n + 14 * c)) r 12 := kT_at (cT_at hr hn c) (cT_n hn c)
    refine z_aast (ci := 12) (cv := 4) (T := kT (cT T n c) (n + 14 * c)) dX7_init_115 ckX4 (fun _ => rfl) (by decide) hT (atX4 At.nw rfl) (by rw [kT_len (by omega), cT_len hrn, hlen]; exact vp_in_nI (by omega) (by decide)) ?_
    refine z_iinc (v := nI c + 1) (lv' := [(0, .ref a), (1, .int (nI c + 1))]) dX7_init_116 1 rfl rfl (by decide) rfl ?_
    refine z_goto (tgt := 97) dX7_init_119 (by decide) ?_
    rw [nI_clamp (by omega)]
    exact loop7 hn ha hr hlen gr hR d (c + 1) _ (by omega) (by rw [nI_1])
def tX7 (T : SH) (n : Nat) : SH := (cT (tX1 (T1 (tX3 (T1 (tX6 (T1 (tX2 (T1 (T1 (T1 (T1 (tX5 (T1 T (n) 5 0) (n + 1)) (n + 1 + 1) 11 20) (n + 1 + 1 + 1) 12 6) (n + 1 + 1 + 1 + 1) 10 6) (n + 1 + 1 + 1 + 1 + 1) 2 0) (n + 1 + 1 + 1 + 1 + 1 + 1)) (n + 1 + 1 + 1 + 1 + 1 + 1 + 21) 6 0) (n + 1 + 1 + 1 + 1 + 1 + 1 + 21 + 1)) (n + 1 + 1 + 1 + 1 + 1 + 1 + 21 + 1 + 4) 3 0) (n + 1 + 1 + 1 + 1 + 1 + 1 + 21 + 1 + 4 + 1)) (n + 1 + 1 + 1 + 1 + 1 + 1 + 21 + 1 + 4 + 1) 1 0) (n + 1 + 1 + 1 + 1 + 1 + 1 + 21 + 1 + 4 + 1 + 1)) (n + 1 + 1 + 1 + 1 + 1 + 1 + 21 + 1 + 4 + 1 + 1 + 2) 6)
def fX7 (F : MI) (n a : Nat) : MI := (cF (u2 (u2 (fX1 (fr0 (fX3 (fr0 (fX6 (fr0 (fX2 (fr0 (fX5 (fr0 F (n + 1)) (n + 1) (n + 1)) (n + 1 + 1 + 1 + 1 + 1 + 1)) (n + 1 + 1 + 1 + 1 + 1 + 1) (n + 1 + 1 + 1 + 1 + 1 + 1)) (n + 1 + 1 + 1 + 1 + 1 + 1 + 21 + 1)) (n + 1 + 1 + 1 + 1 + 1 + 1 + 21 + 1) (n + 1 + 1 + 1 + 1 + 1 + 1 + 21 + 1)) (n + 1 + 1 + 1 + 1 + 1 + 1 + 21 + 1 + 4 + 1)) (n + 1 + 1 + 1 + 1 + 1 + 1 + 21 + 1 + 4 + 1) (n + 1 + 1 + 1 + 1 + 1 + 1 + 21 + 1 + 4 + 1)) (n + 1 + 1 + 1 + 1 + 1 + 1 + 21 + 1 + 4 + 1 + 1)) (n + 1 + 1 + 1 + 1 + 1 + 1 + 21 + 1 + 4 + 1 + 1) (n + 1 + 1 + 1 + 1 + 1 + 1 + 21 + 1 + 4 + 1 + 1)) 288 a 0) 289 a 2) (n + 1 + 1 + 1 + 1 + 1 + 1 + 21 + 1 + 4 + 1 + 1 + 2) 6)
def gX7 (G : MN) (n a : Nat) : MN := (cG (u2 (gX1 (frN (u2 (gX3 (frN (u2 (gX6 (frN (u2 (gX2 (frN (u2 (u2 (u2 (u2 (gX5 (frN G (n + 1)) (n + 1) (n + 1)) 280 a (n + 1)) 281 a (n + 1 + 1 + 1)) 282 a (n + 1 + 1 + 1 + 1)) 283 a (n + 1 + 1 + 1 + 1 + 1)) (n + 1 + 1 + 1 + 1 + 1 + 1)) (n + 1 + 1 + 1 + 1 + 1 + 1) (n + 1 + 1 + 1 + 1 + 1 + 1)) 284 a (n + 1 + 1 + 1 + 1 + 1 + 1)) (n + 1 + 1 + 1 + 1 + 1 + 1 + 21 + 1)) (n + 1 + 1 + 1 + 1 + 1 + 1 + 21 + 1) (n + 1 + 1 + 1 + 1 + 1 + 1 + 21 + 1)) 285 a (n + 1 + 1 + 1 + 1 + 1 + 1 + 21 + 1)) (n + 1 + 1 + 1 + 1 + 1 + 1 + 21 + 1 + 4 + 1)) (n + 1 + 1 + 1 + 1 + 1 + 1 + 21 + 1 + 4 + 1) (n + 1 + 1 + 1 + 1 + 1 + 1 + 21 + 1 + 4 + 1)) 286 a (n + 1 + 1 + 1 + 1 + 1 + 1 + 21 + 1 + 4 + 1)) (n + 1 + 1 + 1 + 1 + 1 + 1 + 21 + 1 + 4 + 1 + 1)) (n + 1 + 1 + 1 + 1 + 1 + 1 + 21 + 1 + 4 + 1 + 1) (n + 1 + 1 + 1 + 1 + 1 + 1 + 21 + 1 + 4 + 1 + 1)) 287 a (n + 1 + 1 + 1 + 1 + 1 + 1 + 21 + 1 + 4 + 1 + 1)) (n + 1 + 1 + 1 + 1 + 1 + 1 + 21 + 1 + 4 + 1 + 1 + 2) 6)
def aX7 (A : MI) (n a : Nat) : MI := (cA (aX1 (aX3 (aX6 (aX2 (fa0 (aX5 A (n + 1) (n + 1)) (n + 1 + 1 + 1 + 1 + 1)) (n + 1 + 1 + 1 + 1 + 1 + 1) (n + 1 + 1 + 1 + 1 + 1 + 1)) (n + 1 + 1 + 1 + 1 + 1 + 1 + 21 + 1) (n + 1 + 1 + 1 + 1 + 1 + 1 + 21 + 1)) (n + 1 + 1 + 1 + 1 + 1 + 1 + 21 + 1 + 4 + 1) (n + 1 + 1 + 1 + 1 + 1 + 1 + 21 + 1 + 4 + 1)) (n + 1 + 1 + 1 + 1 + 1 + 1 + 21 + 1 + 4 + 1 + 1) (n + 1 + 1 + 1 + 1 + 1 + 1 + 21 + 1 + 4 + 1 + 1)) (n + 1 + 1 + 1 + 1 + 1 + 1 + 21 + 1 + 4 + 1 + 1 + 2) 6)
def bX7 (B : MN) (n : Nat) : MN := (cB (bX1 (bX3 (bX6 (bX2 (faN (faN (bX5 B (n + 1)) (n + 1 + 1 + 1)) (n + 1 + 1 + 1 + 1)) (n + 1 + 1 + 1 + 1 + 1 + 1)) (n + 1 + 1 + 1 + 1 + 1 + 1 + 21 + 1)) (n + 1 + 1 + 1 + 1 + 1 + 1 + 21 + 1 + 4 + 1)) (n + 1 + 1 + 1 + 1 + 1 + 1 + 21 + 1 + 4 + 1 + 1)) (n + 1 + 1 + 1 + 1 + 1 + 1 + 21 + 1 + 4 + 1 + 1 + 2) (n + 1 + 1 + 1 + 1) 6)
theorem atX7 {T : SH} {n a ci : Nat} (ha : At T a ci) (hn : T.2.2 = n) : At (tX7 T n) a ci := by
  show At (cT (tX1 (T1 (tX3 (T1 (tX6 (T1 (tX2 (T1 (T1 (T1 (T1 (tX5 (T1 T (n) 5 0) (n + 1)) (n + 1 + 1) 11 20) (n + 1 + 1 + 1) 12 6) (n + 1 + 1 + 1 + 1) 10 6) (n + 1 + 1 + 1 + 1 + 1) 2 0) (n + 1 + 1 + 1 + 1 + 1 + 1)) (n + 1 + 1 + 1 + 1 + 1 + 1 + 21) 6 0) (n + 1 + 1 + 1 + 1 + 1 + 1 + 21 + 1)) (n + 1 + 1 + 1 + 1 + 1 + 1 + 21 + 1 + 4) 3 0) (n + 1 + 1 + 1 + 1 + 1 + 1 + 21 + 1 + 4 + 1)) (n + 1 + 1 + 1 + 1 + 1 + 1 + 21 + 1 + 4 + 1) 1 0) (n + 1 + 1 + 1 + 1 + 1 + 1 + 21 + 1 + 4 + 1 + 1)) (n + 1 + 1 + 1 + 1 + 1 + 1 + 21 + 1 + 4 + 1 + 1 + 2) 6) a ci
  exact (cT_at (atX1 (At.up (atX3 (At.up (atX6 (At.up (atX2 (At.up (At.up (At.up (At.up (atX5 (At.up ha hn) rfl) rfl) rfl) rfl) rfl) rfl) rfl) rfl) rfl) rfl) rfl) rfl) rfl 6)
set_option maxRecDepth 20000 in
theorem cX7 {n a : Nat} (hn : T.2.2 = n) (ha : At T a 7) (hR : R none (tX7 T n) (fX7 F n a) (gX7 G n a) (aX7 A n a) (bX7 B n)) : Cn l mX7_init 5 120 3120 [.ref a] T F G A B R := by
  refine Cn.ofZ (lv := [(0, .ref a)]) rfl (fun _ _ => rfl) (fun _ _ => Nat.le_of_ble_eq_true rfl) ?_
  refine z_aload_n dX7_init_0 0 rfl rfl ?_
  refine z_objInit dX7_init_1 oi_X7 (by decide) (by decide) ?_
  refine z_aload_n dX7_init_4 0 rfl rfl ?_
  refine z_new (rc := 119) (rs := 3116) (n := n) dX7_init_5 ckX5 cl_X7_7 nn_X5 in_X5 hn ?_
  refine z_dup dX7_init_8 ?_
  refine z_callIN (ac' := 1) (az' := 80) (rc' := 118) (rs' := 3036) (L' := 1) (As := []) (rest := [.ref (n + 1), .ref (a)]) dX7_init_9 okX5_init rfl rfl imX5_init nest_X7_9 rfl rfl (Nat.le_of_ble_eq_true rfl) (by decide) (Nat.le_refl _) (Nat.le_refl _) (cX5 (n := n + 1) rfl At.nw ?_)
  refine z_putFr (k := 0) (fc := 280) dX7_init_12 ckX7 (by decide) fk_X7_10 rfl rfl rfl rfl rfl (atX5 (At.up ha hn) rfl) (Nat.succ_ne_zero _) ?_
  refine z_aload_n dX7_init_15 0 rfl rfl ?_
  refine z_bipush (v := 20) dX7_init_16 rfl ?_
  refine z_newr (rc := 117) (rs := 3016) (n := n + 1 + 1) (N := 20) (ci := 11) dX7_init_18 cl_X7_16 (by simp [overL]) (fun _ => rfl) (by decide) (by decide) (by decide) (by decide) rfl ?_
  refine z_putFr (k := 1) (fc := 281) dX7_init_21 ckX7 (by decide) fk_X7_18 rfl rfl rfl rfl rfl (At.up (atX5 (At.up ha hn) rfl) rfl) (Nat.succ_ne_zero _) ?_
  refine z_aload_n dX7_init_24 0 rfl rfl ?_
  refine z_bipush (v := 6) dX7_init_25 rfl ?_
  refine z_newr (rc := 116) (rs := 3010) (n := n + 1 + 1 + 1) (N := 6) (ci := 12) dX7_init_27 cl_X7_22 (by simp [overL]) (fun _ => rfl) (by decide) (by decide) (by decide) (by decide) rfl ?_
  refine z_putFr (k := 2) (fc := 282) dX7_init_30 ckX7 (by decide) fk_X7_24 rfl rfl rfl rfl rfl (At.up (At.up (atX5 (At.up ha hn) rfl) rfl) rfl) (Nat.succ_ne_zero _) ?_
  refine z_aload_n dX7_init_33 0 rfl rfl ?_
  refine z_bipush (v := 6) dX7_init_34 rfl ?_
  refine z_newi (rc := 115) (rs := 3004) (n := n + 1 + 1 + 1 + 1) (N := 6) dX7_init_36 (by decide) (by decide) (by decide) rfl ?_
  refine z_putFr (k := 3) (fc := 283) dX7_init_38 ckX7 (by decide) fk_X7_28 rfl rfl rfl rfl rfl (At.up (At.up (At.up (atX5 (At.up ha hn) rfl) rfl) rfl) rfl) (Nat.succ_ne_zero _) ?_
  refine z_aload_n dX7_init_41 0 rfl rfl ?_
  refine z_new (rc := 114) (rs := 2998) (n := n + 1 + 1 + 1 + 1 + 1) dX7_init_42 ckX2 cl_X7_32 nn_X2 in_X2 rfl ?_
  refine z_dup dX7_init_45 ?_
  refine z_callIN (ac' := 21) (az' := 2412) (rc' := 93) (rs' := 586) (L' := 1) (As := []) (rest := [.ref (n + 1 + 1 + 1 + 1 + 1 + 1), .ref (a)]) dX7_init_46 okX2_init rfl rfl imX2_init nest_X7_34 rfl rfl (Nat.le_of_ble_eq_true rfl) (by decide) (Nat.le_refl _) (Nat.le_refl _) (cX2 (n := n + 1 + 1 + 1 + 1 + 1 + 1) rfl At.nw ?_)
  refine z_putFr (k := 4) (fc := 284) dX7_init_49 ckX7 (by decide) fk_X7_35 rfl rfl rfl rfl rfl (atX2 (At.up (At.up (At.up (At.up (atX5 (At.up ha hn) rfl) rfl) rfl) rfl) rfl) rfl) (Nat.succ_ne_zero _) ?_
  refine z_aload_n dX7_init_52 0 rfl rfl ?_
  refine z_new (rc := 92) (rs := 582) (n := n + 1 + 1 + 1 + 1 + 1 + 1 + 21) dX7_init_53 ckX6 cl_X7_39 nn_X6 in_X6 rfl ?_
  refine z_dup dX7_init_56 ?_
  refine z_callIN (ac' := 4) (az' := 24) (rc' := 88) (rs' := 558) (L' := 1) (As := []) (rest := [.ref (n + 1 + 1 + 1 + 1 + 1 + 1 + 21 + 1), .ref (a)]) dX7_init_57 okX6_init rfl rfl imX6_init nest_X7_41 rfl rfl (Nat.le_of_ble_eq_true rfl) (by decide) (Nat.le_refl _) (Nat.le_refl _) (cX6 (n := n + 1 + 1 + 1 + 1 + 1 + 1 + 21 + 1) rfl At.nw ?_)
  refine z_putFr (k := 5) (fc := 285) dX7_init_60 ckX7 (by decide) fk_X7_42 rfl rfl rfl rfl rfl (atX6 (At.up (atX2 (At.up (At.up (At.up (At.up (atX5 (At.up ha hn) rfl) rfl) rfl) rfl) rfl) rfl) rfl) rfl) (Nat.succ_ne_zero _) ?_
  refine z_aload_n dX7_init_63 0 rfl rfl ?_
  refine z_new (rc := 87) (rs := 557) (n := n + 1 + 1 + 1 + 1 + 1 + 1 + 21 + 1 + 4) dX7_init_64 ckX3 cl_X7_46 nn_X3 in_X3 rfl ?_
  refine z_dup dX7_init_67 ?_
  refine z_callIN (ac' := 0) (az' := 0) (rc' := 87) (rs' := 557) (L' := 1) (As := []) (rest := [.ref (n + 1 + 1 + 1 + 1 + 1 + 1 + 21 + 1 + 4 + 1), .ref (a)]) dX7_init_68 okX3_init rfl rfl imX3_init nest_X7_48 rfl rfl (Nat.le_of_ble_eq_true rfl) (by decide) (Nat.le_refl _) (Nat.le_refl _) (cX3 (n := n + 1 + 1 + 1 + 1 + 1 + 1 + 21 + 1 + 4 + 1) rfl At.nw ?_)
  refine z_putFr (k := 6) (fc := 286) dX7_init_71 ckX7 (by decide) fk_X7_49 rfl rfl rfl rfl rfl (atX3 (At.up (atX6 (At.up (atX2 (At.up (At.up (At.up (At.up (atX5 (At.up ha hn) rfl) rfl) rfl) rfl) rfl) rfl) rfl) rfl) rfl) rfl) (Nat.succ_ne_zero _) ?_
  refine z_aload_n dX7_init_74 0 rfl rfl ?_
  refine z_new (rc := 86) (rs := 554) (n := n + 1 + 1 + 1 + 1 + 1 + 1 + 21 + 1 + 4 + 1) dX7_init_75 ckX1 cl_X7_53 nn_X1 in_X1 rfl ?_
  refine z_dup dX7_init_78 ?_
  refine z_callI (ac' := 2) (az' := 8) (rc' := 84) (rs' := 546) (L' := 3) (As := []) (rest := [.ref (n + 1 + 1 + 1 + 1 + 1 + 1 + 21 + 1 + 4 + 1 + 1), .ref (a)]) dX7_init_79 okX1_init rfl rfl imX1_init mk_X7_55 rfl rfl (Nat.le_of_ble_eq_true rfl) (by decide) (Nat.le_refl _) (Nat.le_refl _) (cX1 (n := n + 1 + 1 + 1 + 1 + 1 + 1 + 21 + 1 + 4 + 1 + 1) rfl At.nw ?_)
  refine z_putr (k := 7) (fc := 287) dX7_init_82 ckX7 (by decide) fk_X7_56 rfl rfl rfl (atX1 (At.up (atX3 (At.up (atX6 (At.up (atX2 (At.up (At.up (At.up (At.up (atX5 (At.up ha hn) rfl) rfl) rfl) rfl) rfl) rfl) rfl) rfl) rfl) rfl) rfl) rfl) (Nat.succ_ne_zero _) ?_
  refine z_aload_n dX7_init_85 0 rfl rfl ?_
  refine z_iconst (v := 0) dX7_init_86 rfl ?_
  refine z_puti (k := 8) (fc := 288) dX7_init_87 ckX7 (by decide) fk_X7_60 rfl rfl rfl (atX1 (At.up (atX3 (At.up (atX6 (At.up (atX2 (At.up (At.up (At.up (At.up (atX5 (At.up ha hn) rfl) rfl) rfl) rfl) rfl) rfl) rfl) rfl) rfl) rfl) rfl) rfl) ?_
  refine z_aload_n dX7_init_90 0 rfl rfl ?_
  refine z_iconst (v := 2) dX7_init_91 rfl ?_
  refine z_puti (k := 9) (fc := 289) dX7_init_92 ckX7 (by decide) fk_X7_64 rfl rfl rfl (atX1 (At.up (atX3 (At.up (atX6 (At.up (atX2 (At.up (At.up (At.up (At.up (atX5 (At.up ha hn) rfl) rfl) rfl) rfl) rfl) rfl) rfl) rfl) rfl) rfl) rfl) rfl) ?_
  refine z_iconst (v := 0) dX7_init_95 rfl ?_
  refine z_istore_n (lv' := [(0, .ref a), (1, .int 0)]) dX7_init_96 rfl (by decide) rfl ?_
  have han : a ≤ n := by have := ha.2.1; omega
  have h1 : 1 ≤ a := ha.1
  refine loop7 (T := (tX1 (T1 (tX3 (T1 (tX6 (T1 (tX2 (T1 (T1 (T1 (T1 (tX5 (T1 T (n) 5 0) (n + 1)) (n + 1 + 1) 11 20) (n + 1 + 1 + 1) 12 6) (n + 1 + 1 + 1 + 1) 10 6) (n + 1 + 1 + 1 + 1 + 1) 2 0) (n + 1 + 1 + 1 + 1 + 1 + 1)) (n + 1 + 1 + 1 + 1 + 1 + 1 + 21) 6 0) (n + 1 + 1 + 1 + 1 + 1 + 1 + 21 + 1)) (n + 1 + 1 + 1 + 1 + 1 + 1 + 21 + 1 + 4) 3 0) (n + 1 + 1 + 1 + 1 + 1 + 1 + 21 + 1 + 4 + 1)) (n + 1 + 1 + 1 + 1 + 1 + 1 + 21 + 1 + 4 + 1) 1 0) (n + 1 + 1 + 1 + 1 + 1 + 1 + 21 + 1 + 4 + 1 + 1))) (G := (u2 (gX1 (frN (u2 (gX3 (frN (u2 (gX6 (frN (u2 (gX2 (frN (u2 (u2 (u2 (u2 (gX5 (frN G (n + 1)) (n + 1) (n + 1)) 280 a (n + 1)) 281 a (n + 1 + 1 + 1)) 282 a (n + 1 + 1 + 1 + 1)) 283 a (n + 1 + 1 + 1 + 1 + 1)) (n + 1 + 1 + 1 + 1 + 1 + 1)) (n + 1 + 1 + 1 + 1 + 1 + 1) (n + 1 + 1 + 1 + 1 + 1 + 1)) 284 a (n + 1 + 1 + 1 + 1 + 1 + 1)) (n + 1 + 1 + 1 + 1 + 1 + 1 + 21 + 1)) (n + 1 + 1 + 1 + 1 + 1 + 1 + 21 + 1) (n + 1 + 1 + 1 + 1 + 1 + 1 + 21 + 1)) 285 a (n + 1 + 1 + 1 + 1 + 1 + 1 + 21 + 1)) (n + 1 + 1 + 1 + 1 + 1 + 1 + 21 + 1 + 4 + 1)) (n + 1 + 1 + 1 + 1 + 1 + 1 + 21 + 1 + 4 + 1) (n + 1 + 1 + 1 + 1 + 1 + 1 + 21 + 1 + 4 + 1)) 286 a (n + 1 + 1 + 1 + 1 + 1 + 1 + 21 + 1 + 4 + 1)) (n + 1 + 1 + 1 + 1 + 1 + 1 + 21 + 1 + 4 + 1 + 1)) (n + 1 + 1 + 1 + 1 + 1 + 1 + 21 + 1 + 4 + 1 + 1) (n + 1 + 1 + 1 + 1 + 1 + 1 + 21 + 1 + 4 + 1 + 1)) 287 a (n + 1 + 1 + 1 + 1 + 1 + 1 + 21 + 1 + 4 + 1 + 1))) (n := n + 1 + 1 + 1 + 1 + 1 + 1 + 21 + 1 + 4 + 1 + 1 + 2) (r := n + 1 + 1 + 1 + 1) rfl (by exact (atX1 (At.up (atX3 (At.up (atX6 (At.up (atX2 (At.up (At.up (At.up (At.up (atX5 (At.up ha hn) rfl) rfl) rfl) rfl) rfl) rfl) rfl) rfl) rfl) rfl) rfl) rfl)) ?_ ?_ ?_ hR 6 0 0 rfl rfl
  · exact (atX1 (At.up (atX3 (At.up (atX6 (At.up (atX2 (At.up (At.up At.nw rfl) rfl) rfl) rfl) rfl) rfl) rfl) rfl) rfl)
  · unfold tX1 tX3 tX6 tX2
    repeat (first | rw [T1_o (by omega)] | rw [T2_o (by omega)])
    rw [T1_s]
  · unfold gX1 gX3 gX6 gX2
    repeat (first | rw [u2_n1 (by decide)] | rw [frN_o (by omega)])
    rw [u2_s]
end CTOR2
