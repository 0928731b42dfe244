def MOk (M : MD) (n : Nat) : Prop := Cond.code M.1 M.2.1 M.2.2.1 M.2.2.2 ∈ lw_g ∧ Cond.initialized M.1.cls ∈ lw_g ∧ (M.1.cls ≠ "java/lang/invoke/MethodHandle" ∧ M.1.cls ≠ "java/lang/invoke/VarHandle" ∧ (parseMethodDescriptor M.1.desc).map (fun d => d.parameters.length) = some n) ∧ M.2.2.1 ≤ 40
def IOk (M : MD) : Prop := Cond.instanceMethod M.1 ∈ lw_g ∧ Cond.selects M.1.cls M.1 M.1 ∈ lw_g
section CALL
variable {l : Launch} {M : MD} {L ac az rc rs : Nat} {Q : PQ} {pc : Nat} {lv : List (Nat × Value)} {st : List Value} {T : SH} {F : MI} {G : MN} {A : MI} {B : MN}
theorem z_iret {v : Int32} (hd : decode M.2.1 pc = .ok (.ireturn, 1)) (hret : M.2.2.2 = some .int) (hq : Q (some (.int v)) T F G A B) : Z l M L ac az rc rs Q pc lv [.int v] T F G A B := by
  intro p e R s m args below meth c H locs cells slots z b D cy ls X Y
  refine W.widen (k := ac) (n := az) (by have := Y.2.2.1; omega) (by have := Y.2.2.2.1; omega) ?_
  exact W.iret X.1 X.2.1 (X.2.2.2.2.2.2.1.trans hret) (fun t ht _ => ⟨⟨some (.int v), T, F, G, A, B, rfl, hq, by rw [ht]; exact Y.1⟩, Y.2.1.F ht⟩) Y.2.1.2.2 hd (hlocks := X.2.2.2.2.2.1)
theorem z_zret {v : Int32} (hd : decode M.2.1 pc = .ok (.ireturn, 1)) (hret : M.2.2.2 = some .boolean) (hv : v = 0 ∨ v = 1) (hq : Q (some (.int v)) T F G A B) : Z l M L ac az rc rs Q pc lv [.int v] T F G A B := by
  intro p e R s m args below meth c H locs cells slots z b D cy ls X Y
  refine W.widen (k := ac) (n := az) (by have := Y.2.2.1; omega) (by have := Y.2.2.2.1; omega) ?_
  have hn : narrow .boolean (.int v) = .int v := by rcases hv with rfl | rfl <;> rfl
  exact W.zret X.1 X.2.1 (X.2.2.2.2.2.2.1.trans hret) hn (fun t ht _ => ⟨⟨some (.int v), T, F, G, A, B, rfl, hq, by rw [ht]; exact Y.1⟩, Y.2.1.F ht⟩) Y.2.1.2.2 hd (hlocks := X.2.2.2.2.2.1)
theorem z_vret (hd : decode M.2.1 pc = .ok (.return_, 1)) (hret : M.2.2.2 = none) (hq : Q none T F G A B) : Z l M L ac az rc rs Q pc lv [] T F G A B := by
  intro p e R s m args below meth c H locs cells slots z b D cy ls X Y
  refine W.widen (k := ac) (n := az) (by have := Y.2.2.1; omega) (by have := Y.2.2.2.1; omega) ?_
  exact W.vret X.1 X.2.1 (X.2.2.2.2.2.2.1.trans hret) (fun t ht _ => ⟨⟨none, T, F, G, A, B, rfl, hq, by rw [ht]; exact Y.1⟩, Y.2.1.F ht⟩) Y.2.1.2.2 hd (hlocks := X.2.2.2.2.2.1)
theorem z_aret {v : Value} {C : String} (hd : decode M.2.1 pc = .ok (.areturn, 1)) (hret : M.2.2.2 = some (.object C)) (hv : v = .null ∨ ∃ a, v = .ref a) (hq : Q (some v) T F G A B) : Z l M L ac az rc rs Q pc lv [v] T F G A B := by
  intro p e R s m args below meth c H locs cells slots z b D cy ls X Y
  refine W.widen (k := ac) (n := az) (by have := Y.2.2.1; omega) (by have := Y.2.2.2.1; omega) ?_
  have hv2 : tr z b v = .null ∨ ∃ a, tr z b v = .ref a := by
    rcases hv with rfl | ⟨a, rfl⟩
    · exact Or.inl rfl
    · exact Or.inr ⟨_, rfl⟩
  exact W.aret X.1 X.2.1 (X.2.2.2.2.2.2.1.trans hret) (Or.inl ⟨C, rfl⟩) hv2 (fun t ht _ => ⟨⟨some v, T, F, G, A, B, rfl, hq, by rw [ht]; exact Y.1⟩, Y.2.1.F ht⟩) Y.2.1.2.2 hd (hlocks := X.2.2.2.2.2.1)
/-- behind a call -/
theorem z_back {p : Program} {e : Env} {R : Room} {s : State} {m : MethodId} {args a : Array Value} {below : List Frame} {meth : Method} {c : Code} {H : Heap} {locs : List Loc} {cells slots z b : Nat} {D : va_G} {cy : Nat → ClassId} {ls : Array Slot} {ac' az' rc' rs' : Nat} {rest st0 : List Value} {lvn : List (Nat × Value)}
    (X : ZC M L ac az p R s m args meth c z D cy) (Y : ZH M ac az rc rs lv T F G A B s H locs cells slots z b D cy ls) (hac : ac' + rc' ≤ rc) (haz : az' + rs' ≤ rs)
    (hr : va_Run p l e R s m args below meth c H locs cells slots ac' az' (F0 m pc ls st0) (rest.map (tr z b)) (QC z b cy D (fun v T F G A B => Z l M L ac az rc' rs' Q (pc + 3) lv (v.toList ++ rest) T F G A B) a) (fun q => z < q)) :
    W p l e R s m args below meth c H locs cells slots (MQ below (QC z b cy D Q) args s ac az (fun q => z < q)) (F0 m pc ls st0) := by
  intro T0 hT X0
  obtain ⟨v, st₀, t, T', Lc, h0, X', hL, e1, e2, ⟨⟨v2, T2, F2, G2, A2, B2, hv, hq, hRP⟩, hF⟩, stp⟩ := hr T0 hT X0
  cases hv
  have hS := Y.2.1
  have hS2 : va_S (fun q => z < q) s.heap T'.heap (locs ++ Lc) := by
    refine ⟨by rw [e1]; exact Nat.le_trans hS.1 (by rw [← h0]; exact hF.1), fun q h1 h2 => ?_, fun q hq => ?_⟩
    · rw [e1, hF.2 q (by rw [h0]; exact Nat.lt_of_lt_of_le h1 hS.1) h2, h0]
      exact hS.2.1 q h1 h2
    · rcases List.mem_append.mp hq with h | h
      · exact hS.2.2 q h
      · exact hL q h
  obtain ⟨t2, a1, b1⟩ := hq p e R s m args below meth c T'.heap (locs ++ Lc) (cells + ac') (slots + az') z b D cy ls X ⟨by rw [e1]; exact hRP, hS2, by have := Y.2.2.1; omega, by have := Y.2.2.2.1; omega, Y.2.2.2.2⟩ T' rfl X'
  refine ⟨t2, stp t2 ?_, b1⟩
  cases v2 <;> exact a1
theorem z_callB {p : Program} {R : Room} {s : State} {m : MethodId} {args : Array Value} {meth : Method} {c : Code} {z : Nat} {D : va_G} {cy : Nat → ClassId} {M' : MD} {n idx L' ac' az' : Nat} (X : ZC M L ac az p R s m args meth c z D cy) (hM : MOk M' n) (hl : Cond.methodLink M.1.cls idx M'.1 ∈ lw_g) (hL : L' + 1 ≤ L) :
    CallB R s args M.1.cls idx M'.1 M'.2.1 M'.2.2.1 M'.2.2.2 (.code M'.1 M'.2.1 M'.2.2.1 M'.2.2.2 :: lw_g) (rmL L' ac' az') ac' az' n := by
  obtain ⟨-, -, -, -, hts, -, -, -, -, -, hfr, hlo, -⟩ := X
  obtain ⟨h1, h2, h3, h4⟩ := hM
  have hG : GoodIn lw_g (.code M'.1 M'.2.1 M'.2.2.1 M'.2.2.2 :: lw_g) := fun w hw => by
    rcases List.mem_cons.mp hw with h | h
    · rw [h]; exact lw_good _ h1
    · exact lw_good _ h
  exact callB_of n hts hG rfl rfl rfl (hts _ h2) (hts _ hl) h3 ⟨Nat.le_trans hL hfr, by show 8 + (M'.2.2.1 + 11) + 64 * L' ≤ R.locals; omega⟩
theorem z_blind {z b : Nat} {cy : Nat → ClassId} {D : va_G} {av : List Value} : FrameBlind (va_Pc (av.map (tr z b)) (fun U => z < U.heap.size ∧ RP z cy D T F G A B U.heap ∧ va_K D vwCl (tyL cy) U ∧ NW U)) :=
  fun a U g mk q => by obtain ⟨q0, q1, q2, q3, q4⟩ := q; exact ⟨q0, q1, q2, va_K.moved (u := U) (U := U.calling g mk a) (Vm.Alike.refl U.vm) q3, NW.same (u := U) (U := U.calling g mk a) rfl q4⟩
theorem z_start {p : Program} {R : Room} {s U : State} {m : MethodId} {args : Array Value} {meth : Method} {c : Code} {H : Heap} {locs : List Loc} {cells slots z b : Nat} {D : va_G} {cy : Nat → ClassId} {ls : Array Slot} (X : ZC M L ac az p R s m args meth c z D cy) (Y : ZH M ac az rc rs lv T F G A B s H locs cells slots z b D cy ls) (hU : U.heap = H) (hW : s.WarmedH U.vm) :
    z < U.heap.size ∧ RP z cy D T F G A B U.heap ∧ va_K D vwCl (tyL cy) U ∧ NW U := by
  rw [hU]
  exact ⟨Nat.lt_of_lt_of_le X.2.2.2.2.2.2.2.2.1 Y.2.1.1, Y.1, va_K.moved hW.alike X.2.2.2.2.2.2.2.2.2.1, NW.warm hW X.2.2.2.2.2.2.2.2.2.2.2.2.2.2⟩
theorem catsum {z b : Nat} : ∀ {rest : List Value}, rest.length ≤ 8 → ((rest.map (tr z b)).map fun v => v.category).sum ≤ 8 := by
  intro rest h
  have : ((rest.map (tr z b)).map fun v => v.category).sum = rest.length := by
    clear h
    induction rest with
    | nil => rfl
    | cons x r ih => rw [List.map_cons, List.map_cons, List.sum_cons, ih, tr_cat, List.length_cons]; omega
  omega
theorem z_callV {M' : MD} {n idx L' ac' az' rc' rs' ci : Nat} {TT : u_T} {N a : Nat} {As rest : List Value} (hd : decode M.2.1 pc = .ok (.invokevirtual idx, 3)) (hM : MOk M' n) (hI : IOk M') (hl : Cond.methodLink M.1.cls idx M'.1 ∈ lw_g) (hcl : vwCl[ci]? = some (M'.1.cls, TT, N)) (h9 : ci < 9) (ha : At T a ci) (hn : As.length = n) (hst : st = As.reverse ++ .ref a :: rest) (hrest : rest.length ≤ 8) (hL : L' + 1 ≤ L) (hac : ac' + rc' ≤ rc) (haz : az' + rs' ≤ rs)
    (kk : Cn l M' L' ac' az' (.ref a :: As) T F G A B (fun v T F G A B => Z l M L ac az rc' rs' Q (pc + 3) lv (v.toList ++ rest) T F G A B)) : Z l M L ac az rc rs Q pc lv st T F G A B := by
  intro p e R s m args below meth c H locs cells slots z b D cy ls X Y
  subst hst
  have hts := X.2.2.2.2.1
  obtain ⟨cell, q1, q2, q3, q4⟩ := Y.1.obj ha h9
  obtain ⟨hS, hfc, -⟩ := X.2.2.2.2.2.2.2.2.2.1.1 ci _ hcl
  have Y2 := Y.2.2.1
  have Y3 := Y.2.2.2.1
  have X2 := X.2.2.2.2.2.2.2.2.2.2.2.2.1
  have X3 := X.2.2.2.2.2.2.2.2.2.2.2.2.2.1
  refine z_back (rest := rest) (a := (Value.ref (z + a) :: As.map (tr z b)).toArray) (lvn := lv) X Y hac haz ?_
  refine va_runV (C := M'.1.cls) (nL := M.2.2.1) (Ts := lw_g) (own := M.1.cls) (As := As.map (tr z b)) (rest := rest.map (tr z b)) (b := z + a) ⟨X.1, X.2.1, X.2.2.1, X.2.2.2.1, hts⟩ (kk z b cy D) ⟨z_callB X hM hl hL, hts _ hI.1, hts _ hI.2⟩ ⟨z_blind, ⟨cell, q1, by rw [q3]; rfl, by rw [q2]; exact hfc⟩, fun U hU hW => ⟨rfl, z_start X Y hU hW⟩⟩ rfl (by rw [List.length_map]; exact hn) Y.2.2.2.2.1 ?_ (lv_room (catsum hrest)) hd ⟨by omega, by omega⟩
  show List.map (tr z b) (As.reverse ++ Value.ref a :: rest) = _
  rw [List.map_append, List.map_reverse]
  rfl
theorem z_callS {M' : MD} {n idx L' ac' az' rc' rs' : Nat} {As rest : List Value} (hd : decode M.2.1 pc = .ok (.invokestatic idx, 3)) (hM : MOk M' n) (hs : Cond.static M'.1 ∈ lw_g) (hl : Cond.methodLink M.1.cls idx M'.1 ∈ lw_g) (hn : As.length = n) (hst : st = As.reverse ++ rest) (hrest : rest.length ≤ 8) (hL : L' + 1 ≤ L) (hac : ac' + rc' ≤ rc) (haz : az' + rs' ≤ rs)
    (kk : Cn l M' L' ac' az' As T F G A B (fun v T F G A B => Z l M L ac az rc' rs' Q (pc + 3) lv (v.toList ++ rest) T F G A B)) : Z l M L ac az rc rs Q pc lv st T F G A B := by
  intro p e R s m args below meth c H locs cells slots z b D cy ls X Y
  subst hst
  have hts := X.2.2.2.2.1
  have Y2 := Y.2.2.1
  have Y3 := Y.2.2.2.1
  have X2 := X.2.2.2.2.2.2.2.2.2.2.2.2.1
  have X3 := X.2.2.2.2.2.2.2.2.2.2.2.2.2.1
  refine z_back (rest := rest) (a := (As.map (tr z b)).toArray) (lvn := lv) X Y hac haz ?_
  refine va_runS (nL := M.2.2.1) (Ts := lw_g) (own := M.1.cls) (As := As.map (tr z b)) (rest := rest.map (tr z b)) ⟨X.1, X.2.1, X.2.2.1, X.2.2.2.1, hts⟩ (kk z b cy D) ⟨z_callB X hM hl hL, hts _ hs⟩ ⟨z_blind, fun U hU hW => ⟨rfl, z_start X Y hU hW⟩⟩ rfl (by rw [List.length_map]; exact hn) Y.2.2.2.2.1 ?_ (lv_room (catsum hrest)) hd ⟨by omega, by omega⟩
  show List.map (tr z b) (As.reverse ++ rest) = _
  rw [List.map_append, List.map_reverse]
theorem z_callI {M' : MD} {n idx L' ac' az' rc' rs' : Nat} {a : Nat} {As rest : List Value} (hd : decode M.2.1 pc = .ok (.invokespecial idx, 3)) (hM : MOk M' n) (hr : M'.2.2.2 = none) (hini : M'.1.name = "<init>") (hi : Cond.instanceMethod M'.1 ∈ lw_g) (hl : Cond.methodLink M.1.cls idx M'.1 ∈ lw_g) (hn : As.length = n) (hst : st = As.reverse ++ .ref a :: rest) (hrest : rest.length ≤ 8) (hL : L' + 1 ≤ L) (hac : ac' + rc' ≤ rc) (haz : az' + rs' ≤ rs)
    (kk : Cn l M' L' ac' az' (.ref a :: As) T F G A B (fun v T F G A B => Z l M L ac az rc' rs' Q (pc + 3) lv (v.toList ++ rest) T F G A B)) : Z l M L ac az rc rs Q pc lv st T F G A B := by
  intro p e R s m args below meth c H locs cells slots z b D cy ls X Y
  subst hst
  have hts := X.2.2.2.2.1
  have Y2 := Y.2.2.1
  have Y3 := Y.2.2.2.1
  have X2 := X.2.2.2.2.2.2.2.2.2.2.2.2.1
  have X3 := X.2.2.2.2.2.2.2.2.2.2.2.2.2.1
  have hB := z_callB (ac' := ac') (az' := az') X hM hl hL
  have hk := kk z b cy D
  rw [hr] at hB hk
  refine z_back (rest := rest) (a := (Value.ref (z + a) :: As.map (tr z b)).toArray) (lvn := lv) X Y hac haz ?_
  refine va_runI (nL := M.2.2.1) (Ts := lw_g) (own := M.1.cls) (As := As.map (tr z b)) (rest := rest.map (tr z b)) (b := z + a) ⟨X.1, X.2.1, X.2.2.1, X.2.2.2.1, hts⟩ hk ⟨hB, hini, hts _ hi⟩ ⟨z_blind (av := .ref a :: As), fun U hU hW => ⟨rfl, z_start X Y hU hW⟩⟩ rfl (by rw [List.length_map]; exact hn) Y.2.2.2.2.1 ?_ (lv_room (catsum hrest)) hd ⟨by omega, by omega⟩
  show List.map (tr z b) (As.reverse ++ Value.ref a :: rest) = _
  rw [List.map_append, List.map_reverse]
  rfl
theorem z_callSN {M' : MD} {n idx L' ac' az' rc' rs' : Nat} {As rest : List Value} (hd : decode M.2.1 pc = .ok (.invokestatic idx, 3)) (hM : MOk M' n) (hs : Cond.static M'.1 ∈ lw_g) (hl : (M.1.cls, idx, M'.1) ∈ nestL) (hn : As.length = n) (hst : st = As.reverse ++ rest) (hrest : rest.length ≤ 8) (hL : L' + 1 ≤ L) (hac : ac' + rc' ≤ rc) (haz : az' + rs' ≤ rs)
    (kk : Cn l M' L' ac' az' As T F G A B (fun v T F G A B => Z l M L ac az rc' rs' Q (pc + 3) lv (v.toList ++ rest) T F G A B)) : Z l M L ac az rc rs Q pc lv st T F G A B := by
  intro p e R s m args below meth c H locs cells slots z b D cy ls X Y
  subst hst
  have hts := X.2.2.2.2.1
  have Y2 := Y.2.2.1
  have Y3 := Y.2.2.2.1
  have X2 := X.2.2.2.2.2.2.2.2.2.2.2.2.1
  have X3 := X.2.2.2.2.2.2.2.2.2.2.2.2.2.1
  have hNW := X.2.2.2.2.2.2.2.2.2.2.2.2.2.2
  have hfr := X.2.2.2.2.2.2.2.2.2.2.1
  have hlo := X.2.2.2.2.2.2.2.2.2.2.2.1
  obtain ⟨h1, h2, h3, h4⟩ := hM
  have hG : GoodIn lw_g (.code M'.1 M'.2.1 M'.2.2.1 M'.2.2.2 :: lw_g) := fun w hw => by
    rcases List.mem_cons.mp hw with h | h
    · rw [h]; exact lw_good _ h1
    · exact lw_good _ h
  refine z_back (rest := rest) (a := (As.map (tr z b)).toArray) (lvn := lv) X Y hac haz ?_
  refine va_runSN (host := RX7) (nL := M.2.2.1) (Ts := lw_g) (own := M.1.cls) (As := As.map (tr z b)) (rest := rest.map (tr z b)) ⟨X.1, X.2.1, X.2.2.1, X.2.2.2.1, hts⟩ (kk z b cy D) ⟨va_cnB n hts hG rfl rfl rfl (hNW.1 _ hl) (hts _ h2) h3 ⟨Nat.le_trans hL hfr, by show 8 + (M'.2.2.1 + 11) + 64 * L' ≤ R.locals; omega⟩, hts _ hs, trivial⟩ ⟨z_blind, fun U hU hW => ⟨rfl, z_start X Y hU hW⟩⟩ rfl (by rw [List.length_map]; exact hn) Y.2.2.2.2.1 ?_ (lv_room (catsum hrest)) hd ⟨by omega, by omega⟩
  show List.map (tr z b) (As.reverse ++ rest) = _
  rw [List.map_append, List.map_reverse]
theorem z_callIN {M' : MD} {n idx L' ac' az' rc' rs' : Nat} {a : Nat} {As rest : List Value} (hd : decode M.2.1 pc = .ok (.invokespecial idx, 3)) (hM : MOk M' n) (hr : M'.2.2.2 = none) (hini : M'.1.name = "<init>") (hi : Cond.instanceMethod M'.1 ∈ lw_g) (hl : (M.1.cls, idx, M'.1) ∈ nestL) (hn : As.length = n) (hst : st = As.reverse ++ .ref a :: rest) (hrest : rest.length ≤ 8) (hL : L' + 1 ≤ L) (hac : ac' + rc' ≤ rc) (haz : az' + rs' ≤ rs)
    (kk : Cn l M' L' ac' az' (.ref a :: As) T F G A B (fun v T F G A B => Z l M L ac az rc' rs' Q (pc + 3) lv (v.toList ++ rest) T F G A B)) : Z l M L ac az rc rs Q pc lv st T F G A B := by
  intro p e R s m args below meth c H locs cells slots z b D cy ls X Y
  subst hst
  have hts := X.2.2.2.2.1
  have Y2 := Y.2.2.1
  have Y3 := Y.2.2.2.1
  have X2 := X.2.2.2.2.2.2.2.2.2.2.2.2.1
  have X3 := X.2.2.2.2.2.2.2.2.2.2.2.2.2.1
  have hNW := X.2.2.2.2.2.2.2.2.2.2.2.2.2.2
  have hfr := X.2.2.2.2.2.2.2.2.2.2.1
  have hlo := X.2.2.2.2.2.2.2.2.2.2.2.1
  obtain ⟨h1, h2, h3, h4⟩ := hM
  rw [hr] at h1
  have hk := kk z b cy D
  rw [hr] at hk
  have hG : GoodIn lw_g (.code M'.1 M'.2.1 M'.2.2.1 none :: lw_g) := fun w hw => by
    rcases List.mem_cons.mp hw with h | h
    · rw [h]; exact lw_good _ h1
    · exact lw_good _ h
  refine z_back (rest := rest) (a := (Value.ref (z + a) :: As.map (tr z b)).toArray) (lvn := lv) X Y hac haz ?_
  refine va_runIN (host := RX7) (nL := M.2.2.1) (Ts := lw_g) (own := M.1.cls) (As := As.map (tr z b)) (rest := rest.map (tr z b)) (b := z + a) ⟨X.1, X.2.1, X.2.2.1, X.2.2.2.1, hts⟩ hk ⟨va_cnB n hts hG rfl rfl rfl (hNW.1 _ hl) (hts _ h2) h3 ⟨Nat.le_trans hL hfr, by show 8 + (M'.2.2.1 + 11) + 64 * L' ≤ R.locals; omega⟩, hini, hts _ hi⟩ ⟨z_blind (av := .ref a :: As), fun U hU hW => ⟨rfl, z_start X Y hU hW⟩⟩ rfl (by rw [List.length_map]; exact hn) Y.2.2.2.2.1 ?_ (lv_room (catsum hrest)) hd ⟨by omega, by omega⟩
  show List.map (tr z b) (As.reverse ++ Value.ref a :: rest) = _
  rw [List.map_append, List.map_reverse]
  rfl
theorem Cn.ofZ {av : List Value} (hy : plainName M.1.cls = true) (hlv : ∀ z b, lv_args 0 (av.map (tr z b)) = lv.map (tq z b)) (hlen : ∀ z b, (lg_sl (av.map (tr z b))).length ≤ M.2.2.1) (h : Z l M L ac az ac az Q 0 lv [] T F G A B) : Cn l M L ac az av T F G A B Q := by
  intro z b cy D
  refine Met.ofW (cc := M.2.1) (maxL := M.2.2.1) (ret := M.2.2.2) hy rfl ?_
  intro p e s m args below meth c s₁ Bd hml hv
  obtain ⟨rfl, hz, hRP, hK, hNW⟩ := hv
  have hts := atoms_spec (ws := .code M.1 M.2.1 M.2.2.1 M.2.2.2 :: lw_g) Bd.pre
  have hl := lv_entry (av.map (tr z b)) (n := M.2.2.1) (hlen z b)
  rw [hlv z b] at hl
  rw [lg_entry_eq]
  exact h p e (rmL L ac az) s m _ below meth c s.heap [] 0 0 z b D cy _ ⟨Bd.exec, Bd.bytes, hml, findClass_of_methodNamed Bd.named, fun w hw => hts w (List.mem_cons_of_mem _ hw), Bd.notSynchronized, Bd.returns, (name_of_methodNamed Bd.named Bd.method).1, hz, hK, Nat.le_refl _, Nat.le_refl _, Nat.le_refl _, Nat.le_refl _, hNW⟩ ⟨hRP, va_S.rf, by omega, by omega, hl⟩
end CALL
