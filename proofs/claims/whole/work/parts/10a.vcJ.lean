theorem vin {i : Int32} {n : Nat} (h : vp_in i n) : i.toNatClampNeg < n := Nat.not_le.mp fun q => h (Or.inr q)
theorem i_ne {x y : Int32} {n : Int} (h : ¬ x = y) (hy : y.toInt = n) : x.toInt ≠ n := fun e => h (Int32.toInt_inj.mp (e.trans hy.symm))
theorem z_aloadN {l : Launch} {M : MD} {L ac az rc rs : Nat} {Q : PQ} {pc : Nat} {lv : List (Nat × Value)} {st : List Value} {T : SH} {F : MI} {G : MN} {A : MI} {B : MN} {i : Nat} (hd : decode M.2.1 pc = .ok (.aload i, 2)) (q : Nat) (hl : lv[q]? = some (i, .null)) (kk : Z l M L ac az rc rs Q (pc + 2) lv (.null :: st) T F G A B) : Z l M L ac az rc rs Q pc lv st T F G A B := by
  intro p e R s m args below meth c H locs cells slots z b D cy ls X Y
  exact lv_aloadN X.1 X.2.1 hd (lget Y.2.2.2.2 hl) (kk p e R s m args below meth c H locs cells slots z b D cy ls X Y)
theorem z_astoreN {l : Launch} {M : MD} {L ac az rc rs : Nat} {Q : PQ} {pc : Nat} {lv : List (Nat × Value)} {st : List Value} {T : SH} {F : MI} {G : MN} {A : MI} {B : MN} {i : Nat} {lv' : List (Nat × Value)} (hd : decode M.2.1 pc = .ok (.astore i, 2)) (hn : i < M.2.2.1) (hl : lset lv i (.null) = lv') (kk : Z l M L ac az rc rs Q (pc + 2) lv' st T F G A B) : Z l M L ac az rc rs Q pc lv (.null :: st) T F G A B := by
  intro p e R s m args below meth c H locs cells slots z b D cy ls X Y
  subst hl
  exact lv_astoreN X.1 X.2.1 hd Y.2.2.2.2 hn rfl (fun ls' h' => kk p e R s m args below meth c H locs cells slots z b D cy ls' X ⟨Y.1, Y.2.1, Y.2.2.1, Y.2.2.2.1, lset_has h'⟩)
theorem lib_max : Cond.code Lib.Math.max.name Lib.Math.max.code 2 (some .int) ∈ lw_g := lw_gm (List.mem_of_getElem? (i := 345) (by decide +kernel)) rfl
theorem z_mmax {l : Launch} {M : MD} {L ac az rc rs : Nat} {Q : PQ} {pc : Nat} {lv : List (Nat × Value)} {st : List Value} {T : SH} {F : MI} {G : MN} {A : MI} {B : MN} {idx : Nat} {x y : Int32} (hd : decode M.2.1 pc = .ok (.invokestatic idx, 3)) (hl : Cond.methodLink M.1.cls idx Lib.Math.max.name ∈ lw_g) (hL : 1 ≤ L) (hst : st.length ≤ 8) (kk : Z l M L ac az rc rs Q (pc + 3) lv (.int (if x < y then y else x) :: st) T F G A B) : Z l M L ac az rc rs Q pc lv (.int y :: .int x :: st) T F G A B := by
  intro p e R s m args below meth c H locs cells slots z b D cy ls X Y
  have hts := X.2.2.2.2.1
  have hfr := X.2.2.2.2.2.2.2.2.2.2.1
  have hlo := X.2.2.2.2.2.2.2.2.2.2.2.1
  have X2 := X.2.2.2.2.2.2.2.2.2.2.2.2.1
  have X3 := X.2.2.2.2.2.2.2.2.2.2.2.2.2.1
  have Y2 := Y.2.2.1
  have Y3 := Y.2.2.2.1
  have h8 := catsum (z := z) (b := b) hst
  exact va_mmax X.1 X.2.1 (X.2.2.1.trans Y.2.2.2.2.1.symm) X.2.2.2.1 (hts _ hl) (hts _ smJ9_max_7cf53) (hts _ in_J9) (hts _ lib_max) (by omega) (by omega) (by omega) (by omega) hd (kk p e R s m args below meth c H locs cells slots z b D cy ls X Y)
theorem lib_min : Cond.code Lib.Math.min.name Lib.Math.min.code 2 (some .int) ∈ lw_g := lw_gm (List.mem_of_getElem? (i := 352) (by decide +kernel)) rfl
theorem z_mmin {l : Launch} {M : MD} {L ac az rc rs : Nat} {Q : PQ} {pc : Nat} {lv : List (Nat × Value)} {st : List Value} {T : SH} {F : MI} {G : MN} {A : MI} {B : MN} {idx : Nat} {x y : Int32} (hd : decode M.2.1 pc = .ok (.invokestatic idx, 3)) (hl : Cond.methodLink M.1.cls idx Lib.Math.min.name ∈ lw_g) (hL : 1 ≤ L) (hst : st.length ≤ 8) (kk : Z l M L ac az rc rs Q (pc + 3) lv (.int (if y < x then y else x) :: st) T F G A B) : Z l M L ac az rc rs Q pc lv (.int y :: .int x :: st) T F G A B := by
  intro p e R s m args below meth c H locs cells slots z b D cy ls X Y
  have hts := X.2.2.2.2.1
  have hfr := X.2.2.2.2.2.2.2.2.2.2.1
  have hlo := X.2.2.2.2.2.2.2.2.2.2.2.1
  have X2 := X.2.2.2.2.2.2.2.2.2.2.2.2.1
  have X3 := X.2.2.2.2.2.2.2.2.2.2.2.2.2.1
  have Y2 := Y.2.2.1
  have Y3 := Y.2.2.2.1
  have h8 := catsum (z := z) (b := b) hst
  exact va_mmin X.1 X.2.1 (X.2.2.1.trans Y.2.2.2.2.1.symm) X.2.2.2.1 (hts _ hl) (hts _ smJ9_min_7cf53) (hts _ in_J9) (hts _ lib_min) (by omega) (by omega) (by omega) (by omega) hd (kk p e R s m args below meth c H locs cells slots z b D cy ls X Y)
set_option maxHeartbeats 4000000 in
set_option maxRecDepth 100000 in
theorem vJ6_bitCount_0f7a4_0 {l : Launch} {w : Nat → Nat} {nb : Nat} {Q : PM} {x0 : Int32} {F A : MI}  (h : Q (some (.int ((((((((x0 - (((x0.toUInt32 >>> ((1 : Int32).toUInt32 &&& Int32.toUInt32 31)).toInt32) &&& 1431655765)) &&& 858993459) + ((((x0 - (((x0.toUInt32 >>> ((1 : Int32).toUInt32 &&& Int32.toUInt32 31)).toInt32) &&& 1431655765)).toUInt32 >>> ((2 : Int32).toUInt32 &&& Int32.toUInt32 31)).toInt32) &&& 858993459)) + (((((x0 - (((x0.toUInt32 >>> ((1 : Int32).toUInt32 &&& Int32.toUInt32 31)).toInt32) &&& 1431655765)) &&& 858993459) + ((((x0 - (((x0.toUInt32 >>> ((1 : Int32).toUInt32 &&& Int32.toUInt32 31)).toInt32) &&& 1431655765)).toUInt32 >>> ((2 : Int32).toUInt32 &&& Int32.toUInt32 31)).toInt32) &&& 858993459)).toUInt32 >>> ((4 : Int32).toUInt32 &&& Int32.toUInt32 31)).toInt32)) &&& 252645135) + (((((((x0 - (((x0.toUInt32 >>> ((1 : Int32).toUInt32 &&& Int32.toUInt32 31)).toInt32) &&& 1431655765)) &&& 858993459) + ((((x0 - (((x0.toUInt32 >>> ((1 : Int32).toUInt32 &&& Int32.toUInt32 31)).toInt32) &&& 1431655765)).toUInt32 >>> ((2 : Int32).toUInt32 &&& Int32.toUInt32 31)).toInt32) &&& 858993459)) + (((((x0 - (((x0.toUInt32 >>> ((1 : Int32).toUInt32 &&& Int32.toUInt32 31)).toInt32) &&& 1431655765)) &&& 858993459) + ((((x0 - (((x0.toUInt32 >>> ((1 : Int32).toUInt32 &&& Int32.toUInt32 31)).toInt32) &&& 1431655765)).toUInt32 >>> ((2 : Int32).toUInt32 &&& Int32.toUInt32 31)).toInt32) &&& 858993459)).toUInt32 >>> ((4 : Int32).toUInt32 &&& Int32.toUInt32 31)).toInt32)) &&& 252645135).toUInt32 >>> ((8 : Int32).toUInt32 &&& Int32.toUInt32 31)).toInt32)) + ((((((((x0 - (((x0.toUInt32 >>> ((1 : Int32).toUInt32 &&& Int32.toUInt32 31)).toInt32) &&& 1431655765)) &&& 858993459) + ((((x0 - (((x0.toUInt32 >>> ((1 : Int32).toUInt32 &&& Int32.toUInt32 31)).toInt32) &&& 1431655765)).toUInt32 >>> ((2 : Int32).toUInt32 &&& Int32.toUInt32 31)).toInt32) &&& 858993459)) + (((((x0 - (((x0.toUInt32 >>> ((1 : Int32).toUInt32 &&& Int32.toUInt32 31)).toInt32) &&& 1431655765)) &&& 858993459) + ((((x0 - (((x0.toUInt32 >>> ((1 : Int32).toUInt32 &&& Int32.toUInt32 31)).toInt32) &&& 1431655765)).toUInt32 >>> ((2 : Int32).toUInt32 &&& Int32.toUInt32 31)).toInt32) &&& 858993459)).toUInt32 >>> ((4 : Int32).toUInt32 &&& Int32.toUInt32 31)).toInt32)) &&& 252645135) + (((((((x0 - (((x0.toUInt32 >>> ((1 : Int32).toUInt32 &&& Int32.toUInt32 31)).toInt32) &&& 1431655765)) &&& 858993459) + ((((x0 - (((x0.toUInt32 >>> ((1 : Int32).toUInt32 &&& Int32.toUInt32 31)).toInt32) &&& 1431655765)).toUInt32 >>> ((2 : Int32).toUInt32 &&& Int32.toUInt32 31)).toInt32) &&& 858993459)) + (((((x0 - (((x0.toUInt32 >>> ((1 : Int32).toUInt32 &&& Int32.toUInt32 31)).toInt32) &&& 1431655765)) &&& 858993459) + ((((x0 - (((x0.toUInt32 >>> ((1 : Int32).toUInt32 &&& Int32.toUInt32 31)).toInt32) &&& 1431655765)).toUInt32 >>> ((2 : Int32).toUInt32 &&& Int32.toUInt32 31)).toInt32) &&& 858993459)).toUInt32 >>> ((4 : Int32).toUInt32 &&& Int32.toUInt32 31)).toInt32)) &&& 252645135).toUInt32 >>> ((8 : Int32).toUInt32 &&& Int32.toUInt32 31)).toInt32)).toUInt32 >>> ((16 : Int32).toUInt32 &&& Int32.toUInt32 31)).toInt32)) &&& 63))) F A) : ZM l mJ6_bitCount_0f7a4 1 w nb Q 0 [(0, .int x0)] [] F A := by
  intro T G B hY
  refine z_iload_n dJ6_bitCount_0f7a4_0 0 rfl rfl ?_
  refine z_iload_n dJ6_bitCount_0f7a4_1 0 rfl rfl ?_
  refine z_iconst (v := 1) dJ6_bitCount_0f7a4_2 rfl ?_
  refine z_iushr dJ6_bitCount_0f7a4_3 ?_
  refine z_ldcw dJ6_bitCount_0f7a4_4 kk_J6_265 ?_
  refine z_iand dJ6_bitCount_0f7a4_7 ?_
  refine z_isub dJ6_bitCount_0f7a4_8 ?_
  refine z_istore_n (lv' := [(0, .int (x0 - (((x0.toUInt32 >>> ((1 : Int32).toUInt32 &&& Int32.toUInt32 31)).toInt32) &&& 1431655765)))]) dJ6_bitCount_0f7a4_9 rfl (by decide) rfl ?_
  refine z_iload_n dJ6_bitCount_0f7a4_10 0 rfl rfl ?_
  refine z_ldcw dJ6_bitCount_0f7a4_11 kk_J6_266 ?_
  refine z_iand dJ6_bitCount_0f7a4_14 ?_
  refine z_iload_n dJ6_bitCount_0f7a4_15 0 rfl rfl ?_
  refine z_iconst (v := 2) dJ6_bitCount_0f7a4_16 rfl ?_
  refine z_iushr dJ6_bitCount_0f7a4_17 ?_
  refine z_ldcw dJ6_bitCount_0f7a4_18 kk_J6_266 ?_
  refine z_iand dJ6_bitCount_0f7a4_21 ?_
  refine z_iadd dJ6_bitCount_0f7a4_22 ?_
  refine z_istore_n (lv' := [(0, .int (((x0 - (((x0.toUInt32 >>> ((1 : Int32).toUInt32 &&& Int32.toUInt32 31)).toInt32) &&& 1431655765)) &&& 858993459) + ((((x0 - (((x0.toUInt32 >>> ((1 : Int32).toUInt32 &&& Int32.toUInt32 31)).toInt32) &&& 1431655765)).toUInt32 >>> ((2 : Int32).toUInt32 &&& Int32.toUInt32 31)).toInt32) &&& 858993459)))]) dJ6_bitCount_0f7a4_23 rfl (by decide) rfl ?_
  refine z_iload_n dJ6_bitCount_0f7a4_24 0 rfl rfl ?_
  refine z_iload_n dJ6_bitCount_0f7a4_25 0 rfl rfl ?_
  refine z_iconst (v := 4) dJ6_bitCount_0f7a4_26 rfl ?_
  refine z_iushr dJ6_bitCount_0f7a4_27 ?_
  refine z_iadd dJ6_bitCount_0f7a4_28 ?_
  refine z_ldcw dJ6_bitCount_0f7a4_29 kk_J6_267 ?_
  refine z_iand dJ6_bitCount_0f7a4_32 ?_
  refine z_istore_n (lv' := [(0, .int (((((x0 - (((x0.toUInt32 >>> ((1 : Int32).toUInt32 &&& Int32.toUInt32 31)).toInt32) &&& 1431655765)) &&& 858993459) + ((((x0 - (((x0.toUInt32 >>> ((1 : Int32).toUInt32 &&& Int32.toUInt32 31)).toInt32) &&& 1431655765)).toUInt32 >>> ((2 : Int32).toUInt32 &&& Int32.toUInt32 31)).toInt32) &&& 858993459)) + (((((x0 - (((x0.toUInt32 >>> ((1 : Int32).toUInt32 &&& Int32.toUInt32 31)).toInt32) &&& 1431655765)) &&& 858993459) + ((((x0 - (((x0.toUInt32 >>> ((1 : Int32).toUInt32 &&& Int32.toUInt32 31)).toInt32) &&& 1431655765)).toUInt32 >>> ((2 : Int32).toUInt32 &&& Int32.toUInt32 31)).toInt32) &&& 858993459)).toUInt32 >>> ((4 : Int32).toUInt32 &&& Int32.toUInt32 31)).toInt32)) &&& 252645135))]) dJ6_bitCount_0f7a4_33 rfl (by decide) rfl ?_
  refine z_iload_n dJ6_bitCount_0f7a4_34 0 rfl rfl ?_
  refine z_iload_n dJ6_bitCount_0f7a4_35 0 rfl rfl ?_
  refine z_bipush (v := 8) dJ6_bitCount_0f7a4_36 rfl ?_
  refine z_iushr dJ6_bitCount_0f7a4_38 ?_
  refine z_iadd dJ6_bitCount_0f7a4_39 ?_
  refine z_istore_n (lv' := [(0, .int ((((((x0 - (((x0.toUInt32 >>> ((1 : Int32).toUInt32 &&& Int32.toUInt32 31)).toInt32) &&& 1431655765)) &&& 858993459) + ((((x0 - (((x0.toUInt32 >>> ((1 : Int32).toUInt32 &&& Int32.toUInt32 31)).toInt32) &&& 1431655765)).toUInt32 >>> ((2 : Int32).toUInt32 &&& Int32.toUInt32 31)).toInt32) &&& 858993459)) + (((((x0 - (((x0.toUInt32 >>> ((1 : Int32).toUInt32 &&& Int32.toUInt32 31)).toInt32) &&& 1431655765)) &&& 858993459) + ((((x0 - (((x0.toUInt32 >>> ((1 : Int32).toUInt32 &&& Int32.toUInt32 31)).toInt32) &&& 1431655765)).toUInt32 >>> ((2 : Int32).toUInt32 &&& Int32.toUInt32 31)).toInt32) &&& 858993459)).toUInt32 >>> ((4 : Int32).toUInt32 &&& Int32.toUInt32 31)).toInt32)) &&& 252645135) + (((((((x0 - (((x0.toUInt32 >>> ((1 : Int32).toUInt32 &&& Int32.toUInt32 31)).toInt32) &&& 1431655765)) &&& 858993459) + ((((x0 - (((x0.toUInt32 >>> ((1 : Int32).toUInt32 &&& Int32.toUInt32 31)).toInt32) &&& 1431655765)).toUInt32 >>> ((2 : Int32).toUInt32 &&& Int32.toUInt32 31)).toInt32) &&& 858993459)) + (((((x0 - (((x0.toUInt32 >>> ((1 : Int32).toUInt32 &&& Int32.toUInt32 31)).toInt32) &&& 1431655765)) &&& 858993459) + ((((x0 - (((x0.toUInt32 >>> ((1 : Int32).toUInt32 &&& Int32.toUInt32 31)).toInt32) &&& 1431655765)).toUInt32 >>> ((2 : Int32).toUInt32 &&& Int32.toUInt32 31)).toInt32) &&& 858993459)).toUInt32 >>> ((4 : Int32).toUInt32 &&& Int32.toUInt32 31)).toInt32)) &&& 252645135).toUInt32 >>> ((8 : Int32).toUInt32 &&& Int32.toUInt32 31)).toInt32)))]) dJ6_bitCount_0f7a4_40 rfl (by decide) rfl ?_
  refine z_iload_n dJ6_bitCount_0f7a4_41 0 rfl rfl ?_
  refine z_iload_n dJ6_bitCount_0f7a4_42 0 rfl rfl ?_
  refine z_bipush (v := 16) dJ6_bitCount_0f7a4_43 rfl ?_
  refine z_iushr dJ6_bitCount_0f7a4_45 ?_
  refine z_iadd dJ6_bitCount_0f7a4_46 ?_
  refine z_istore_n (lv' := [(0, .int (((((((x0 - (((x0.toUInt32 >>> ((1 : Int32).toUInt32 &&& Int32.toUInt32 31)).toInt32) &&& 1431655765)) &&& 858993459) + ((((x0 - (((x0.toUInt32 >>> ((1 : Int32).toUInt32 &&& Int32.toUInt32 31)).toInt32) &&& 1431655765)).toUInt32 >>> ((2 : Int32).toUInt32 &&& Int32.toUInt32 31)).toInt32) &&& 858993459)) + (((((x0 - (((x0.toUInt32 >>> ((1 : Int32).toUInt32 &&& Int32.toUInt32 31)).toInt32) &&& 1431655765)) &&& 858993459) + ((((x0 - (((x0.toUInt32 >>> ((1 : Int32).toUInt32 &&& Int32.toUInt32 31)).toInt32) &&& 1431655765)).toUInt32 >>> ((2 : Int32).toUInt32 &&& Int32.toUInt32 31)).toInt32) &&& 858993459)).toUInt32 >>> ((4 : Int32).toUInt32 &&& Int32.toUInt32 31)).toInt32)) &&& 252645135) + (((((((x0 - (((x0.toUInt32 >>> ((1 : Int32).toUInt32 &&& Int32.toUInt32 31)).toInt32) &&& 1431655765)) &&& 858993459) + ((((x0 - (((x0.toUInt32 >>> ((1 : Int32).toUInt32 &&& Int32.toUInt32 31)).toInt32) &&& 1431655765)).toUInt32 >>> ((2 : Int32).toUInt32 &&& Int32.toUInt32 31)).toInt32) &&& 858993459)) + (((((x0 - (((x0.toUInt32 >>> ((1 : Int32).toUInt32 &&& Int32.toUInt32 31)).toInt32) &&& 1431655765)) &&& 858993459) + ((((x0 - (((x0.toUInt32 >>> ((1 : Int32).toUInt32 &&& Int32.toUInt32 31)).toInt32) &&& 1431655765)).toUInt32 >>> ((2 : Int32).toUInt32 &&& Int32.toUInt32 31)).toInt32) &&& 858993459)).toUInt32 >>> ((4 : Int32).toUInt32 &&& Int32.toUInt32 31)).toInt32)) &&& 252645135).toUInt32 >>> ((8 : Int32).toUInt32 &&& Int32.toUInt32 31)).toInt32)) + ((((((((x0 - (((x0.toUInt32 >>> ((1 : Int32).toUInt32 &&& Int32.toUInt32 31)).toInt32) &&& 1431655765)) &&& 858993459) + ((((x0 - (((x0.toUInt32 >>> ((1 : Int32).toUInt32 &&& Int32.toUInt32 31)).toInt32) &&& 1431655765)).toUInt32 >>> ((2 : Int32).toUInt32 &&& Int32.toUInt32 31)).toInt32) &&& 858993459)) + (((((x0 - (((x0.toUInt32 >>> ((1 : Int32).toUInt32 &&& Int32.toUInt32 31)).toInt32) &&& 1431655765)) &&& 858993459) + ((((x0 - (((x0.toUInt32 >>> ((1 : Int32).toUInt32 &&& Int32.toUInt32 31)).toInt32) &&& 1431655765)).toUInt32 >>> ((2 : Int32).toUInt32 &&& Int32.toUInt32 31)).toInt32) &&& 858993459)).toUInt32 >>> ((4 : Int32).toUInt32 &&& Int32.toUInt32 31)).toInt32)) &&& 252645135) + (((((((x0 - (((x0.toUInt32 >>> ((1 : Int32).toUInt32 &&& Int32.toUInt32 31)).toInt32) &&& 1431655765)) &&& 858993459) + ((((x0 - (((x0.toUInt32 >>> ((1 : Int32).toUInt32 &&& Int32.toUInt32 31)).toInt32) &&& 1431655765)).toUInt32 >>> ((2 : Int32).toUInt32 &&& Int32.toUInt32 31)).toInt32) &&& 858993459)) + (((((x0 - (((x0.toUInt32 >>> ((1 : Int32).toUInt32 &&& Int32.toUInt32 31)).toInt32) &&& 1431655765)) &&& 858993459) + ((((x0 - (((x0.toUInt32 >>> ((1 : Int32).toUInt32 &&& Int32.toUInt32 31)).toInt32) &&& 1431655765)).toUInt32 >>> ((2 : Int32).toUInt32 &&& Int32.toUInt32 31)).toInt32) &&& 858993459)).toUInt32 >>> ((4 : Int32).toUInt32 &&& Int32.toUInt32 31)).toInt32)) &&& 252645135).toUInt32 >>> ((8 : Int32).toUInt32 &&& Int32.toUInt32 31)).toInt32)).toUInt32 >>> ((16 : Int32).toUInt32 &&& Int32.toUInt32 31)).toInt32)))]) dJ6_bitCount_0f7a4_47 rfl (by decide) rfl ?_
  refine z_iload_n dJ6_bitCount_0f7a4_48 0 rfl rfl ?_
  refine z_bipush (v := 63) dJ6_bitCount_0f7a4_49 rfl ?_
  refine z_iand dJ6_bitCount_0f7a4_51 ?_
  exact z_iretM dJ6_bitCount_0f7a4_52 rfl h
theorem kJ6_bitCount_0f7a4 {l : Launch} {w : Nat → Nat} {nb : Nat} {Q : PM} {x0 : Int32} {F A : MI}  (h : Q (some (.int ((((((((x0 - (((x0.toUInt32 >>> ((1 : Int32).toUInt32 &&& Int32.toUInt32 31)).toInt32) &&& 1431655765)) &&& 858993459) + ((((x0 - (((x0.toUInt32 >>> ((1 : Int32).toUInt32 &&& Int32.toUInt32 31)).toInt32) &&& 1431655765)).toUInt32 >>> ((2 : Int32).toUInt32 &&& Int32.toUInt32 31)).toInt32) &&& 858993459)) + (((((x0 - (((x0.toUInt32 >>> ((1 : Int32).toUInt32 &&& Int32.toUInt32 31)).toInt32) &&& 1431655765)) &&& 858993459) + ((((x0 - (((x0.toUInt32 >>> ((1 : Int32).toUInt32 &&& Int32.toUInt32 31)).toInt32) &&& 1431655765)).toUInt32 >>> ((2 : Int32).toUInt32 &&& Int32.toUInt32 31)).toInt32) &&& 858993459)).toUInt32 >>> ((4 : Int32).toUInt32 &&& Int32.toUInt32 31)).toInt32)) &&& 252645135) + (((((((x0 - (((x0.toUInt32 >>> ((1 : Int32).toUInt32 &&& Int32.toUInt32 31)).toInt32) &&& 1431655765)) &&& 858993459) + ((((x0 - (((x0.toUInt32 >>> ((1 : Int32).toUInt32 &&& Int32.toUInt32 31)).toInt32) &&& 1431655765)).toUInt32 >>> ((2 : Int32).toUInt32 &&& Int32.toUInt32 31)).toInt32) &&& 858993459)) + (((((x0 - (((x0.toUInt32 >>> ((1 : Int32).toUInt32 &&& Int32.toUInt32 31)).toInt32) &&& 1431655765)) &&& 858993459) + ((((x0 - (((x0.toUInt32 >>> ((1 : Int32).toUInt32 &&& Int32.toUInt32 31)).toInt32) &&& 1431655765)).toUInt32 >>> ((2 : Int32).toUInt32 &&& Int32.toUInt32 31)).toInt32) &&& 858993459)).toUInt32 >>> ((4 : Int32).toUInt32 &&& Int32.toUInt32 31)).toInt32)) &&& 252645135).toUInt32 >>> ((8 : Int32).toUInt32 &&& Int32.toUInt32 31)).toInt32)) + ((((((((x0 - (((x0.toUInt32 >>> ((1 : Int32).toUInt32 &&& Int32.toUInt32 31)).toInt32) &&& 1431655765)) &&& 858993459) + ((((x0 - (((x0.toUInt32 >>> ((1 : Int32).toUInt32 &&& Int32.toUInt32 31)).toInt32) &&& 1431655765)).toUInt32 >>> ((2 : Int32).toUInt32 &&& Int32.toUInt32 31)).toInt32) &&& 858993459)) + (((((x0 - (((x0.toUInt32 >>> ((1 : Int32).toUInt32 &&& Int32.toUInt32 31)).toInt32) &&& 1431655765)) &&& 858993459) + ((((x0 - (((x0.toUInt32 >>> ((1 : Int32).toUInt32 &&& Int32.toUInt32 31)).toInt32) &&& 1431655765)).toUInt32 >>> ((2 : Int32).toUInt32 &&& Int32.toUInt32 31)).toInt32) &&& 858993459)).toUInt32 >>> ((4 : Int32).toUInt32 &&& Int32.toUInt32 31)).toInt32)) &&& 252645135) + (((((((x0 - (((x0.toUInt32 >>> ((1 : Int32).toUInt32 &&& Int32.toUInt32 31)).toInt32) &&& 1431655765)) &&& 858993459) + ((((x0 - (((x0.toUInt32 >>> ((1 : Int32).toUInt32 &&& Int32.toUInt32 31)).toInt32) &&& 1431655765)).toUInt32 >>> ((2 : Int32).toUInt32 &&& Int32.toUInt32 31)).toInt32) &&& 858993459)) + (((((x0 - (((x0.toUInt32 >>> ((1 : Int32).toUInt32 &&& Int32.toUInt32 31)).toInt32) &&& 1431655765)) &&& 858993459) + ((((x0 - (((x0.toUInt32 >>> ((1 : Int32).toUInt32 &&& Int32.toUInt32 31)).toInt32) &&& 1431655765)).toUInt32 >>> ((2 : Int32).toUInt32 &&& Int32.toUInt32 31)).toInt32) &&& 858993459)).toUInt32 >>> ((4 : Int32).toUInt32 &&& Int32.toUInt32 31)).toInt32)) &&& 252645135).toUInt32 >>> ((8 : Int32).toUInt32 &&& Int32.toUInt32 31)).toInt32)).toUInt32 >>> ((16 : Int32).toUInt32 &&& Int32.toUInt32 31)).toInt32)) &&& 63))) F A) : CM l mJ6_bitCount_0f7a4 1 w nb [.int x0] F A Q := CM.ofZ (by decide) (fun _ _ => rfl) (fun _ _ => Nat.le_of_ble_eq_true rfl) (vJ6_bitCount_0f7a4_0  h)
set_option maxHeartbeats 4000000 in
set_option maxRecDepth 100000 in
theorem vJ7_fill_53178_0 {l : Launch} {w : Nat → Nat} {nb : Nat} {Q : PM} {x1 : Int32} {F A : MI} {a n : Nat} (hn : n < 1000) (ha : ∀ T G B, LY w nb T G B → At T a 10 ∧ T.2.1 a = n) (h : ZM l mJ7_fill_53178 1 w nb Q 5 [(0, .ref a), (1, .int x1), (2, .int 0), (3, .int (nI n))] [] F A) : ZM l mJ7_fill_53178 1 w nb Q 0 [(0, .ref a), (1, .int x1)] [] F A := by
  intro T G B hY
  refine z_iconst (v := 0) dJ7_fill_53178_0 rfl ?_
  refine z_istore_n (lv' := [(0, .ref a), (1, .int x1), (2, .int 0)]) dJ7_fill_53178_1 rfl (by decide) rfl ?_
  refine z_aload_n dJ7_fill_53178_2 0 rfl rfl ?_
  refine z_alen (v := nI n) dJ7_fill_53178_3 ((ha T G B hY).1) (by rw [((ha T G B hY).2)]; rfl) ?_
  refine z_istore_n (lv' := [(0, .ref a), (1, .int x1), (2, .int 0), (3, .int (nI n))]) dJ7_fill_53178_4 rfl (by decide) rfl ?_
  exact z_pick [0, 1, 2, 3] rfl (h T G B hY)
theorem kJ7_fill_53178 {l : Launch} {w : Nat → Nat} {nb : Nat} {Q : PM} {x1 : Int32} {F A : MI} {a n : Nat} (hn : n < 1000) (ha : ∀ T G B, LY w nb T G B → At T a 10 ∧ T.2.1 a = n) (h : ZM l mJ7_fill_53178 1 w nb Q 5 [(0, .ref a), (1, .int x1), (2, .int 0), (3, .int (nI n))] [] F A) : CM l mJ7_fill_53178 1 w nb [.ref a, .int x1] F A Q := CM.ofZ (by decide) (fun _ _ => rfl) (fun _ _ => Nat.le_of_ble_eq_true rfl) (vJ7_fill_53178_0 hn ha h)
set_option maxHeartbeats 4000000 in
set_option maxRecDepth 100000 in
theorem vJ7_fill_53178_5 {l : Launch} {w : Nat → Nat} {nb : Nat} {Q : PM} {x1 x2 x3 : Int32} {F A : MI} {a n : Nat} (hn : n < 1000) (ha : ∀ T G B, LY w nb T G B → At T a 10 ∧ T.2.1 a = n) (h : ((x3 ≤ x2 → Q none F A) ∧ (¬ x3 ≤ x2 → (vp_in x2 n ∧ ZM l mJ7_fill_53178 1 w nb Q 5 [(0, .ref a), (1, .int x1), (2, .int (x2 + 1)), (3, .int x3)] [] F (u2 A a x2.toNatClampNeg x1))))) : ZM l mJ7_fill_53178 1 w nb Q 5 [(0, .ref a), (1, .int x1), (2, .int x2), (3, .int x3)] [] F A := by
  intro T G B hY
  refine z_iload_n dJ7_fill_53178_5 2 rfl rfl ?_
  refine z_iload_n dJ7_fill_53178_6 3 rfl rfl ?_
  refine z_icmp_ge (tgt := 20) dJ7_fill_53178_7 (by decide) (fun hb => ?_) (fun hb => ?_)
  · have h := h.1 hb
    exact z_vretM dJ7_fill_53178_20 rfl h
  · have h := h.2 hb
    refine z_aload_n dJ7_fill_53178_10 0 rfl rfl ?_
    refine z_iload_n dJ7_fill_53178_11 2 rfl rfl ?_
    refine z_iload_n dJ7_fill_53178_12 1 rfl rfl ?_
    have hin1 := h.1
    have h := h.2
    refine z_iast' (n := n) dJ7_fill_53178_13 ((ha T G B hY).1) ((ha T G B hY).2) hin1 ?_
    refine z_iinc (v := (x2 + 1)) (lv' := [(0, .ref a), (1, .int x1), (2, .int (x2 + 1)), (3, .int x3)]) dJ7_fill_53178_14 2 rfl rfl (by decide) rfl ?_
    refine z_goto (tgt := 5) dJ7_fill_53178_17 (by decide) ?_
    exact z_pick [0, 1, 2, 3] rfl (h T G B hY)
