section BEAST
variable {l : Launch} {w : Nat → Nat} {nb : Nat} {T : SH} {F : MI} {G : MN} {A : MI} {B : MN} {R : PQ}
def tX0 (T : SH) (n : Nat) : SH := (T1 T (n) 10 3)
def fX0 (F : MI) (a : Nat) (x1 x2 x3 x4 : Int32) : MI := (u2 (u2 (u2 (u2 F 0 a x1) 1 a x2) 2 a x3) 3 a x4)
def gX0 (G : MN) (n a : Nat) : MN := (u2 G 4 a (n + 1))
theorem atX0 {T : SH} {n a ci : Nat} (ha : At T a ci) (hn : T.2.2 = n) : At (tX0 T n) a ci := by
  show At (T1 T (n) 10 3) a ci
  exact (At.up ha hn)
theorem cX0 {n a : Nat} {x1 x2 x3 x4 : Int32} (hn : T.2.2 = n) (ha : At T a 0) (hR : R none (tX0 T n) (fX0 F a x1 x2 x3 x4) (gX0 G n a) (fa0 A (n + 1)) B) : Cn l mX0_init 1 1 3 [.ref a, .int x1, .int x2, .int x3, .int x4] T F G A B R := by
  refine Cn.ofZ (lv := [(0, .ref a), (1, .int x1), (2, .int x2), (3, .int x3), (4, .int x4)]) rfl (fun _ _ => rfl) (fun _ _ => Nat.le_of_ble_eq_true rfl) ?_
  refine z_aload_n dX0_init_0 0 rfl rfl ?_
  refine z_objInit dX0_init_1 oi_X0 (by decide) (by decide) ?_
  refine z_aload_n dX0_init_4 0 rfl rfl ?_
  refine z_iconst (v := 3) dX0_init_5 rfl ?_
  refine z_newi (rc := 0) (rs := 0) (n := n) (N := 3) dX0_init_6 (by decide) (by decide) (by decide) hn ?_
  refine z_putFr (k := 4) (fc := 4) dX0_init_8 ckX0 (by decide) fk_X0_9 rfl rfl rfl rfl rfl (At.up ha hn) (Nat.succ_ne_zero _) ?_
  refine z_aload_n dX0_init_11 0 rfl rfl ?_
  refine z_iload_n dX0_init_12 1 rfl rfl ?_
  refine z_putFi (k := 0) (fc := 0) dX0_init_13 ckX0 (by decide) fk_X0_15 rfl rfl rfl rfl rfl (At.up ha hn) ?_
  refine z_aload_n dX0_init_16 0 rfl rfl ?_
  refine z_iload_n dX0_init_17 2 rfl rfl ?_
  refine z_putFi (k := 1) (fc := 1) dX0_init_18 ckX0 (by decide) fk_X0_19 rfl rfl rfl rfl rfl (At.up ha hn) ?_
  refine z_aload_n dX0_init_21 0 rfl rfl ?_
  refine z_iload_n dX0_init_22 3 rfl rfl ?_
  refine z_putFi (k := 2) (fc := 2) dX0_init_23 ckX0 (by decide) fk_X0_22 rfl rfl rfl rfl rfl (At.up ha hn) ?_
  refine z_aload_n dX0_init_26 0 rfl rfl ?_
  refine z_iload dX0_init_27 4 rfl ?_
  refine z_putFi (k := 3) (fc := 3) dX0_init_29 ckX0 (by decide) fk_X0_25 rfl rfl rfl rfl rfl (At.up ha hn) ?_
  exact z_vret dX0_init_32 rfl hR
/-- what op_beast says -/
def QB (l : Launch) (w : Nat → Nat) (x1 x2 x3 x4 : Int32) : PQ := fun v T' F' G' A' B' => ∃ r nb', v = some (.int r) ∧ LY w nb' T' G' B' ∧ CM l mX8_beast 2 w nb' [.ref 122, .int x1, .int x2, .int x3, .int x4] F' A' (qi fun r' F A => r = r' ∧ Inv w nb' F A)
theorem fX0_o {a f x : Nat} {x1 x2 x3 x4 : Int32} (h : x ≠ a) : fX0 F a x1 x2 x3 x4 f x = F f x := by
  unfold fX0
  rw [u2_n2 h, u2_n2 h, u2_n2 h, u2_n2 h]
theorem fX0_s {a : Nat} {x1 x2 x3 x4 : Int32} : fX0 F a x1 x2 x3 x4 0 a = x1 ∧ fX0 F a x1 x2 x3 x4 1 a = x2 ∧ fX0 F a x1 x2 x3 x4 2 a = x3 ∧ fX0 F a x1 x2 x3 x4 3 a = x4 := by
  unfold fX0
  refine ⟨?_, ?_, ?_, u2_s⟩
  · rw [u2_n1 (by decide), u2_n1 (by decide), u2_n1 (by decide), u2_s]
  · rw [u2_n1 (by decide), u2_n1 (by decide), u2_s]
  · rw [u2_n1 (by decide), u2_s]
theorem zq_S {M M' : MD} {L n idx L' pc : Nat} {Q : PQ} {lv : List (Nat × Value)} {st : List Value} {As rest : List Value} {P : PM} (hd : decode M.2.1 pc = .ok (.invokestatic idx, 3)) (hM : MOk M' n) (hs : Cond.static M'.1 ∈ lw_g) (hl : Cond.methodLink M.1.cls idx M'.1 ∈ lw_g) (hn : As.length = n) (hst : st = As.reverse ++ rest) (hrest : rest.length ≤ 8) (hL : L' + 1 ≤ L) (hY : LY w nb T G B)
    (kk : CM l M' L' w nb As F A P) {ac az rc rs : Nat} (h : ∀ v F A, P v F A → Z l M L ac az rc rs Q (pc + 3) lv (v.toList ++ rest) T F G A B) : Z l M L ac az rc rs Q pc lv st T F G A B :=
  z_callS (ac' := 0) (az' := 0) hd hM hs hl hn hst hrest hL (by omega) (by omega) (cm_Z hY kk h)
theorem LY.grow (hY : LY w nb T G B) (hnb : nb < 20) : LY w (nb + 1) (tX0 (T1 T (146 + 2 * nb) 0 0) (146 + 2 * nb + 1)) (gX0 (frN G (146 + 2 * nb + 1)) (146 + 2 * nb + 1) (146 + 2 * nb + 1)) (u2 B 4 nb (146 + 2 * nb + 1)) := by
  have t1 : ∀ x, x ≤ 146 + 2 * nb → (tX0 (T1 T (146 + 2 * nb) 0 0) (146 + 2 * nb + 1)).1 x = T.1 x := fun x hx => by
    unfold tX0
    show (if x = _ then _ else if x = _ then _ else T.1 x) = T.1 x
    rw [if_neg (by omega), if_neg (by omega)]
  have t2 : ∀ x, x ≤ 146 + 2 * nb → (tX0 (T1 T (146 + 2 * nb) 0 0) (146 + 2 * nb + 1)).2.1 x = T.2.1 x := fun x hx => by
    unfold tX0
    rw [T1_o (by omega), T1_o (by omega)]
  have gg : ∀ f x, x ≤ 146 + 2 * nb → gX0 (frN G (146 + 2 * nb + 1)) (146 + 2 * nb + 1) (146 + 2 * nb + 1) f x = G f x := fun f x hx => by
    unfold gX0
    rw [u2_n2 (by omega), frN_o (by omega)]
  refine ⟨fun a h1 h2 => ?_, ?_, fun q hq => ?_, fun q hq => ?_, fun c hc => ?_, ?_, hY.2.2.2.2.2.2.1, hY.2.2.2.2.2.2.2.1, by omega, fun i hi => ?_⟩
  · rw [t1 a (by omega), t2 a (by omega)]; exact hY.1 a h1 h2
  · show 146 + 2 * nb + 1 + 1 = _
    omega
  · have h1 : (lyG.all (fun q => decide (q.2.1 ≤ 146))) = true := by decide +kernel
    have h2 := List.all_eq_true.mp h1 q hq
    rw [decide_eq_true_eq] at h2
    rw [gg _ _ (by omega)]; exact hY.2.2.1 q hq
  · have h1 : (lyB.all (fun q => !(q.1 == 4))) = true := by decide +kernel
    have h2 := List.all_eq_true.mp h1 q hq
    rw [Bool.not_eq_true', beq_eq_false_iff_ne] at h2
    rw [u2_n1 h2]; exact hY.2.2.2.1 q hq
  · rw [gg _ _ (by omega)]; exact lwc hY hc
  · rw [gg _ _ (by omega)]; exact lw6 hY
  · by_cases z : i = nb
    · rw [z]
      refine ⟨by rw [u2_s]; omega, ?_, ?_, ?_, ?_⟩
      · unfold tX0
        show (if 147 + 2 * nb = 146 + 2 * nb + 1 + 1 then 10 else if 147 + 2 * nb = 146 + 2 * nb + 1 then 0 else T.1 _) = 0
        rw [if_neg (by omega), if_pos (by omega)]
      · unfold tX0
        show (if 148 + 2 * nb = 146 + 2 * nb + 1 + 1 then 10 else _) = 10
        rw [if_pos (by omega)]
      · unfold tX0
        show (if 148 + 2 * nb = 146 + 2 * nb + 1 + 1 then 3 else _) = 3
        rw [if_pos (by omega)]
      · unfold gX0
        rw [show 147 + 2 * nb = 146 + 2 * nb + 1 by omega, u2_s]
        omega
    · obtain ⟨h1, h2, h3, h4, h5⟩ := hY.2.2.2.2.2.2.2.2.2 i (by omega)
      rw [u2_n2 z, t1 _ (by omega), t1 _ (by omega), t2 _ (by omega), gg _ _ (by omega)]
      exact ⟨h1, h2, h3, h4, h5⟩
theorem op_beast {x1 x2 x3 x4 : Int32} (hw : TW w) (hI : Inv w nb F A) (hY : LY w nb T G B) : Cn l mX7_beast 2 2 8 [.ref 1, .int x1, .int x2, .int x3, .int x4] T F G A B (QB l w x1 x2 x3 x4) := by
  obtain ⟨hn1, hn2, hn3, hbst, hms, hz⟩ := id hI.2.1
  have bad : (¬ Bel x1 4 ∨ ¬ Bel x2 201 ∨ ¬ Bel x3 10 ∨ ¬ Bel x4 10 ∨ nb = 20) → QB l w x1 x2 x3 x4 (some (.int (-1))) T F G A B := by
    intro hb
    refine ⟨-1, nb, rfl, hY, kX8_beast (s_lies (a := 0) (b := 3) rfl rfl (by decide) (by decide) (fun j1 _ q1 e1 => z1 (s_lies (a := 0) (b := 200) rfl rfl (by decide) (by decide) (fun j2 _ q2 e2 => z1 (s_lies (a := 0) (b := 9) rfl rfl (by decide) (by decide) (fun j3 _ q3 e3 => z1 (s_lies (a := 0) (b := 9) rfl rfl (by decide) (by decide) (fun j4 _ q4 e4 => z1 ?_) (fun _ => z0 ⟨-1, rfl, rfl, hI⟩))) (fun _ => z0 ⟨-1, rfl, rfl, hI⟩))) (fun _ => z0 ⟨-1, rfl, rfl, hI⟩))) (fun _ => z0 ⟨-1, rfl, rfl, hI⟩))⟩
    rw [hn2]
    refine ⟨fun z => ?_, fun _ => ⟨-1, rfl, rfl, hI⟩⟩
    rcases hb with y | y | y | y | y
    · exact absurd ⟨j1, by omega, e1⟩ y
    · exact absurd ⟨j2, by omega, e2⟩ y
    · exact absurd ⟨j3, by omega, e3⟩ y
    · exact absurd ⟨j4, by omega, e4⟩ y
    · rw [y] at z; exact absurd rfl z
  have bel : ∀ {x y : Int32} {n : Nat}, y = nI n → n < 2 ^ 31 → CM l mX7_isBelow 1 w nb [.int x, .int y] F A (qi fun r F' A' => F' = F ∧ A' = A ∧ ((r = 1 ∧ Bel x n) ∨ (r = 0 ∧ ¬ Bel x n))) := fun hy hn => s_below hy hn (fun j hj e => ⟨rfl, rfl, Or.inl ⟨rfl, j, hj, e⟩⟩) (fun h => ⟨rfl, rfl, Or.inr ⟨rfl, h⟩⟩)
  refine Cn.ofZ (lv := [(0, .ref 1), (1, .int x1), (2, .int x2), (3, .int x3), (4, .int x4)]) rfl (fun _ _ => rfl) (fun _ _ => Nat.le_of_ble_eq_true rfl) ?_
  have ret46 : ∀ (rc rs : Nat) (F' A' : MI), F' = F → A' = A → (¬ Bel x1 4 ∨ ¬ Bel x2 201 ∨ ¬ Bel x3 10 ∨ ¬ Bel x4 10 ∨ nb = 20) → Z l mX7_beast 2 2 8 rc rs (QB l w x1 x2 x3 x4) 46 [(0, .ref 1), (1, .int x1), (2, .int x2), (3, .int x3), (4, .int x4)] [] T F' G A' B := fun rc rs F' A' e1 e2 h => by
    subst e1
    subst e2
    refine z_iconst (v := (-1)) dX7_beast_46 rfl ?_
    exact z_iret dX7_beast_47 rfl (bad h)
  refine z_iload_n dX7_beast_0 1 rfl rfl ?_
  refine z_iconst (v := 4) dX7_beast_1 rfl ?_
  refine zq_S (As := [.int x1, .int 4]) (rest := []) dX7_beast_2 okX7_isBelow smX7_isBelow mk_X7_102 rfl rfl (Nat.le_of_ble_eq_true rfl) (by decide) hY (bel (n := 4) rfl (by decide)) (fun v F1 A1 q => ?_)
  obtain ⟨r, rfl, rfl, rfl, q⟩ := q
  refine z_if_eq (tgt := 46) dX7_beast_5 (by decide) (fun hb => ret46 _ _ _ _ rfl rfl ?_) (fun hb => ?_)
  · rcases q with ⟨q, -⟩ | ⟨-, q⟩
    · rw [q] at hb; exact absurd hb (by decide)
    · exact Or.inl q
  obtain ⟨j1, b1, rfl⟩ : Bel x1 4 := by
    rcases q with ⟨-, q⟩ | ⟨q, -⟩
    · exact q
    · exact absurd q hb
  refine z_iload_n dX7_beast_8 2 rfl rfl ?_
  refine z_sipush (v := 201) dX7_beast_9 rfl ?_
  refine zq_S (As := [.int x2, .int 201]) (rest := []) dX7_beast_12 okX7_isBelow smX7_isBelow mk_X7_102 rfl rfl (Nat.le_of_ble_eq_true rfl) (by decide) hY (bel (n := 201) rfl (by decide)) (fun v F2 A2 q => ?_)
  obtain ⟨r, rfl, rfl, rfl, q⟩ := q
  refine z_if_eq (tgt := 46) dX7_beast_15 (by decide) (fun hb => ret46 _ _ _ _ rfl rfl ?_) (fun hb => ?_)
  · rcases q with ⟨q, -⟩ | ⟨-, q⟩
    · rw [q] at hb; exact absurd hb (by decide)
    · exact Or.inr (Or.inl q)
  obtain ⟨j2, b2, rfl⟩ : Bel x2 201 := by
    rcases q with ⟨-, q⟩ | ⟨q, -⟩
    · exact q
    · exact absurd q hb
  refine z_iload_n dX7_beast_18 3 rfl rfl ?_
  refine z_bipush (v := 10) dX7_beast_19 rfl ?_
  refine zq_S (As := [.int x3, .int 10]) (rest := []) dX7_beast_21 okX7_isBelow smX7_isBelow mk_X7_102 rfl rfl (Nat.le_of_ble_eq_true rfl) (by decide) hY (bel (n := 10) rfl (by decide)) (fun v F3 A3 q => ?_)
  obtain ⟨r, rfl, rfl, rfl, q⟩ := q
  refine z_if_eq (tgt := 46) dX7_beast_24 (by decide) (fun hb => ret46 _ _ _ _ rfl rfl ?_) (fun hb => ?_)
  · rcases q with ⟨q, -⟩ | ⟨-, q⟩
    · rw [q] at hb; exact absurd hb (by decide)
    · exact Or.inr (Or.inr (Or.inl q))
  obtain ⟨j3, b3, rfl⟩ : Bel x3 10 := by
    rcases q with ⟨-, q⟩ | ⟨q, -⟩
    · exact q
    · exact absurd q hb
  refine z_iload dX7_beast_27 4 rfl ?_
  refine z_bipush (v := 10) dX7_beast_29 rfl ?_
  refine zq_S (As := [.int x4, .int 10]) (rest := []) dX7_beast_31 okX7_isBelow smX7_isBelow mk_X7_102 rfl rfl (Nat.le_of_ble_eq_true rfl) (by decide) hY (bel (n := 10) rfl (by decide)) (fun v F4 A4 q => ?_)
  obtain ⟨r, rfl, rfl, rfl, q⟩ := q
  refine z_if_eq (tgt := 46) dX7_beast_34 (by decide) (fun hb => ret46 _ _ _ _ rfl rfl ?_) (fun hb => ?_)
  · rcases q with ⟨q, -⟩ | ⟨-, q⟩
    · rw [q] at hb; exact absurd hb (by decide)
    · exact Or.inr (Or.inr (Or.inr (Or.inl q)))
  obtain ⟨j4, b4, rfl⟩ : Bel x4 10 := by
    rcases q with ⟨-, q⟩ | ⟨q, -⟩
    · exact q
    · exact absurd q hb
  refine z_aload_n dX7_beast_37 0 rfl rfl ?_
  refine z_geti' (k := 8) (fc := 288) (x := nI nb) dX7_beast_38 ckX7 (by decide) fk_X7_60 rfl rfl (lat hY rfl) hn1 ?_
  refine z_bipush (v := 20) dX7_beast_41 rfl ?_
  refine z_icmp_lt (tgt := 48) dX7_beast_43 (by decide) (fun hb => ?_) (fun hb => ret46 _ _ _ _ rfl rfl ?_)
  rotate_left
  · have : nb = 20 := by
      rcases Nat.lt_or_ge nb 20 with z | z
      · exact absurd (nI_lt (b := 20) z (by decide)) hb
      · omega
    exact Or.inr (Or.inr (Or.inr (Or.inr this)))
  have hlt : nb < 20 := by
    have := i_lt.mp hb
    rw [nI_toInt (by omega)] at this
    have e : (20 : Int32).toInt = 20 := rfl
    omega
  have hn : T.2.2 = 146 + 2 * nb := hY.2.1
  refine z_aload_n dX7_beast_48 0 rfl rfl ?_
  refine z_getr (k := 1) (fc := 281) (r := 4) dX7_beast_49 ckX7 (by decide) fk_X7_18 rfl rfl (lat hY rfl) (lgg hY rfl) (by decide) ?_
  refine z_aload_n dX7_beast_52 0 rfl rfl ?_
  refine z_geti' (k := 8) (fc := 288) (x := nI nb) dX7_beast_53 ckX7 (by decide) fk_X7_60 rfl rfl (lat hY rfl) hn1 ?_
  refine z_new (rc := 1) (rs := 3) (n := 146 + 2 * nb) dX7_beast_56 ckX0 cl_X7_16 nn_X0 in_X0 hn ?_
  refine z_dup dX7_beast_59 ?_
  refine z_iload_n dX7_beast_60 1 rfl rfl ?_
  refine z_iload_n dX7_beast_61 2 rfl rfl ?_
  refine z_iload_n dX7_beast_62 3 rfl rfl ?_
  refine z_iload dX7_beast_63 4 rfl ?_
  refine z_callI (ac' := 1) (az' := 3) (rc' := 0) (rs' := 0) (L' := 1) (As := [.int (nI j1), .int (nI j2), .int (nI j3), .int (nI j4)]) (rest := [.ref (146 + 2 * nb + 1), .int (nI nb), .ref 4]) dX7_beast_65 okX0_init rfl rfl imX0_init mk_X7_106 rfl rfl (Nat.le_of_ble_eq_true rfl) (by decide) (Nat.le_refl _) (Nat.le_refl _) (cX0 (n := 146 + 2 * nb + 1) rfl At.nw ?_)
  have hY2 := hY.grow hlt
  have at4 : At (tX0 (T1 T (146 + 2 * nb) 0 0) (146 + 2 * nb + 1)) 4 11 := atX0 (At.up (lat hY rfl) hn) rfl
  have at1 : At (tX0 (T1 T (146 + 2 * nb) 0 0) (146 + 2 * nb + 1)) 1 7 := atX0 (At.up (lat hY rfl) hn) rfl
  have l4 : (tX0 (T1 T (146 + 2 * nb) 0 0) (146 + 2 * nb + 1)).2.1 4 = 20 := by
    unfold tX0
    rw [T1_o (by omega), T1_o (by omega)]
    exact lln hY rfl
  refine z_aast (ci := 11) (cv := 0) (T := tX0 (T1 T (146 + 2 * nb) 0 0) (146 + 2 * nb + 1)) dX7_beast_68 ckX0 (fun _ => rfl) (by decide) at4 (atX0 At.nw rfl) (by rw [l4]; exact vp_in_nI hlt (by decide)) ?_
  rw [nI_clamp (by omega)]
  generalize hF5 : fX0 (fr0 F4 (146 + 2 * nb + 1)) (146 + 2 * nb + 1) (nI j1) (nI j2) (nI j3) (nI j4) = F5
  have f5 : ∀ f a, a ≠ 147 + 2 * nb → F5 f a = F4 f a := fun f a h => by
    rw [← hF5, fX0_o (by omega)]
    exact if_neg (by omega)
  have f288 : F5 288 1 = nI nb := (f5 _ _ (by omega)).trans hn1
  refine z_aload_n dX7_beast_69 0 rfl rfl ?_
  refine z_dup dX7_beast_70 ?_
  refine z_geti' (k := 8) (fc := 288) (x := nI nb) dX7_beast_71 ckX7 (by decide) fk_X7_60 rfl rfl at1 f288 ?_
  refine z_iconst (v := 1) dX7_beast_74 rfl ?_
  refine z_iadd dX7_beast_75 ?_
  rw [nI_1]
  refine z_puti (k := 8) (fc := 288) dX7_beast_76 ckX7 (by decide) fk_X7_60 rfl rfl rfl at1 ?_
  refine z_aload_n dX7_beast_79 0 rfl rfl ?_
  refine z_geti' (k := 8) (fc := 288) (x := nI (nb + 1)) dX7_beast_80 ckX7 (by decide) fk_X7_60 rfl rfl at1 u2_s ?_
  refine z_iconst (v := 1) dX7_beast_83 rfl ?_
  refine z_isub dX7_beast_84 ?_
  rw [nI_p]
  refine z_iret dX7_beast_85 rfl ⟨nI nb, nb + 1, rfl, hY2, ?_⟩
  have hv := vp_in_nI hlt (N := 20) (by decide)
  refine kX8_beast (s_lies (a := 0) (b := 3) rfl rfl (by decide) (by decide) (fun _ _ _ _ => z1 (s_lies (a := 0) (b := 200) rfl rfl (by decide) (by decide) (fun _ _ _ _ => z1 (s_lies (a := 0) (b := 9) rfl rfl (by decide) (by decide) (fun _ _ _ _ => z1 (s_lies (a := 0) (b := 9) rfl rfl (by decide) (by decide) (fun _ _ _ _ => z1 ?_) (fun h => absurd ⟨j4, by omega, by omega, rfl⟩ h))) (fun h => absurd ⟨j3, by omega, by omega, rfl⟩ h))) (fun h => absurd ⟨j2, by omega, by omega, rfl⟩ h))) (fun h => absurd ⟨j1, by omega, by omega, rfl⟩ h))
  have e322 : (u2 F5 288 1 (nI (nb + 1))) 322 122 = nI nb := (u2_n1 (by decide)).trans ((f5 _ _ (by omega)).trans hn2)
  rw [e322, nI_1, nI_p, nI_clamp (by omega)]
  refine ⟨fun _ => ⟨hv, hv, hv, hv, _, rfl, rfl, ?_⟩, fun z => ?_⟩
  rotate_left
  · have := (nI_eq (a := nb) (b := 20) (by omega) (by decide)).mp z
    omega
  generalize hF6 : u2 (u2 F5 288 1 (nI (nb + 1))) 322 122 (nI (nb + 1)) = F6
  generalize hA6 : u2 (u2 (u2 (u2 (fa0 A4 (146 + 2 * nb + 1 + 1)) 124 nb (nI j1)) 125 nb (nI j2)) 126 nb (nI j3)) 127 nb (nI j4) = A6
  have DF : ∀ f a, ¬ (a = 147 + 2 * nb ∨ (f = 288 ∧ a = 1) ∨ (f = 322 ∧ a = 122)) → F6 f a = F4 f a := fun f a q => by rw [← hF6, u2_ne (by omega), u2_ne (by omega)]; exact f5 f a (by omega)
  have DA : ∀ a j, ¬ (a = 148 + 2 * nb ∨ ((124 ≤ a ∧ a ≤ 127) ∧ j = nb)) → A6 a j = A4 a j := fun a j q => by
    rw [← hA6, u2_ne (by omega), u2_ne (by omega), u2_ne (by omega), u2_ne (by omega)]
    exact if_neg (by omega)
  have t7d : ∀ d, d < 6 → (w d = 35 ∨ w d = 39 ∨ w d = 53 ∨ w d = 67 ∨ w d = 81 ∨ w d = 95 ∨ w d = 109) := fun d hd => tx7 (hw.1 d (by omega))
  obtain ⟨k1, k2, k3, k4, k5, k6, k7, k8, k9, k10⟩ := hI
  refine ⟨k1.cong (DF _ _ (by omega)) (DF _ _ (by omega)) (fun j => DA _ _ (by omega)) (fun j => DA _ _ (by omega)), ⟨?_, ?_, by omega, fun i hi => ?_, fun i hi m hm => ?_, fun j h1 h2 => ?_⟩, k3.cong (DF _ _ (by omega)) (DF _ _ (by omega)), k4.cong (fun j => DA _ _ (by omega)) (fun j => DA _ _ (by omega)), ?_, k6.cong (fun c hc => ?_) (fun a j _ _ => DA _ _ (by omega)) (fun c j hc => ?_) (fun c j hc => ?_), k7.cong (fun c j _ => DA _ _ (by omega)) (fun j => DA _ _ (by omega)), k8.cong (fun j => DA _ _ (by omega)) (fun c d j _ _ _ => DA _ _ (by omega)) (fun j => DA _ _ (by omega)) (fun j => DA _ _ (by omega)), k9.cong (fun c _ => DF _ _ (by omega)) (fun j => DA _ _ (by omega)) (fun c j _ => DA _ _ (by omega)) (fun j => DA _ _ (by omega)) (fun j => DA _ _ (by omega)), k10.cong (fun a j _ _ => DA _ _ (by omega))⟩
  · rw [← hF6, u2_n1 (by decide), u2_s]
  · rw [← hF6, u2_s]
  · by_cases z : i = nb
    · rw [z]
      refine ⟨j1, j2, j3, j4, b1, by omega, b3, b4, ?_⟩
      have e147 : ∀ f, F6 f (147 + 2 * nb) = F5 f (147 + 2 * nb) := fun f => by rw [← hF6, u2_n2 (by omega), u2_n2 (by omega)]
      have s4 := fX0_s (F := fr0 F4 (146 + 2 * nb + 1)) (a := 146 + 2 * nb + 1) (x1 := nI j1) (x2 := nI j2) (x3 := nI j3) (x4 := nI j4)
      rw [hF5, show 146 + 2 * nb + 1 = 147 + 2 * nb by omega] at s4
      rw [e147, e147, e147, e147, s4.1, s4.2.1, s4.2.2.1, s4.2.2.2, ← hA6]
      refine ⟨rfl, ?_, rfl, ?_, rfl, ?_, rfl, u2_s⟩
      · rw [u2_n1 (by decide), u2_n1 (by decide), u2_n1 (by decide), u2_s]
      · rw [u2_n1 (by decide), u2_n1 (by decide), u2_s]
      · rw [u2_n1 (by decide), u2_s]
    · obtain ⟨b, a, s, h, hB⟩ := hbst i (by omega)
      refine ⟨b, a, s, h, ?_⟩
      unfold Bst at hB ⊢
      rw [DF _ _ (by omega), DF _ _ (by omega), DF _ _ (by omega), DF _ _ (by omega), DA _ _ (by omega), DA _ _ (by omega), DA _ _ (by omega), DA _ _ (by omega)]
      exact hB
  · by_cases z : i = nb
    · rw [z]
      refine ⟨0, by omega, ?_, ?_⟩
      · rw [← hA6, u2_n1 (by omega), u2_n1 (by omega), u2_n1 (by omega), u2_n1 (by omega)]
        exact if_pos (by omega)
      · rw [DA _ _ (by omega)]
        exact hz _ (by omega) (by omega)
    · rw [DA _ _ (by omega), DA _ _ (by omega)]
      exact hms i (by omega) m hm
  · rw [DA _ _ (by omega)]
    exact hz j (by omega) h2
  · intro c hc
    obtain ⟨g0, g1, g2, g3, g4, g5⟩ := k5 c hc
    rw [DF 160 _ (by omega), DF 161 _ (by omega), DF 162 _ (by omega), DA 134 c (by omega), DA 135 c (by omega)]
    exact ⟨g0, g1, g2, g3, fun b hb => by have := g4 b hb; omega, fun b hb => by have := g5 b hb; omega⟩
  · have := t7d c hc
    exact DF _ _ (by omega)
  · have := t7d c hc
    exact DA _ _ (by omega)
  · have := t7d c hc
    exact DA _ _ (by omega)
end BEAST
