/-! THE LAW'S OWN BODY: what stands at its entry, and its end (the skeleton's rows) -/
def R_law : String := "CattleShowLaw"
def lw_P (b : Addr) (xs : List Int32) (args : Array Value) (s : State) : Prop := args = #[.ref b] ∧ s.IntsAt b xs ∧ xs.length ≤ 3072 ∧ (Jvm.Cond.and given_1 narrow_1).before args s = true
def lw_Q (_ : Array Value) (s : State) (o : Outcome) (t : State) : Prop := o = .returned (some (.int 1)) ∧ Framed s o t [] 642648 7174304
def lw_Z (below : List Frame) (a : Array Value) (s : State) : State → Prop := fun t => ∃ o, t.status = .running ∧ Ended t below o ∧ lw_Q a s o t
/-- the law's own end, with 1 on the stack, nothing written that was there before, its room as the claim has it -/
theorem lw_ret {p : Program} {l : Launch} {e : Env} {s : State} {m : MethodId} {below : List Frame} {meth : Method} {c : Code} {b : Nat} (hx : p.tables.exec = Jvm.exec) (hb : c.code = code) (hr : meth.sig.returnType = ret) (hlocks : meth.locks = false) {pc : Nat} {H : Heap} {ls : Array Slot} (hdg : decode code pc = .ok (.ireturn, 1)) : W p l e room_1 s m #[Value.ref b] below meth c H [] 642648 7174304 (lw_Z below #[Value.ref b] s) (F0 m pc ls [.int 1]) := by
  intro T hT X
  obtain ⟨fs, hret, hrun, hended, hW, hframe⟩ := X.leave (v := some (.int 1)) (hlocks := hlocks) (fun h => by rw [hr] at h; cases h)
  have hmeth' : T.vm.method? m = some meth := X.method'
  refine ⟨T.setFrames fs, ?_, .returned (some (.int 1)), hrun, hended, rfl, ⟨_, rfl⟩, hW, hframe⟩
  jvm_step X.here [X.here.top, hx, hb, hdg, hmeth', hr, ret, narrow_b1]
  (try refine ⟨rfl, ?_⟩); (try refine ⟨rfl, ?_⟩)
  first | (intro acts; rw [hret _ acts rfl rfl rfl]) | rw [hret _ _ rfl rfl rfl]
  exact Steps.refl _
/-- what holds at the law's entry: the machine, the code, the tables' words (any of lw_tbl by 'hts w (by decide +kernel)'), the script of L ints xs at the cell b, what the Statement gives of the start (any of its parts by flat_of_before) -/
def lw_At (p : Program) (s : State) (m : MethodId) (meth : Method) (c : Code) (b L : Nat) (xs : Nat → Int32) : Prop :=
  p.tables.exec = Jvm.exec ∧ c.code = code ∧ meth.sig.returnType = ret ∧ c.maxLocals = 4 ∧ s.vm.findClass R_law = some m.cls ∧ (∀ w ∈ lw_tbl, w.before #[Value.ref b] s = true) ∧ va_X b L xs s s.heap ∧ b < s.heap.size ∧ meth.locks = false ∧ (Jvm.Cond.and given_1 narrow_1).before #[Value.ref b] s = true
/-- what stands while the law runs: the script lies at b, below all that the law makes -/
def LC (M : MD) (p : Program) (s : State) (m : MethodId) (meth : Method) (c : Code) (z b NN : Nat) (xs : Nat → Int32) (D : va_G) (cy : Nat → ClassId) : Prop := ZC M 12 642648 7174304 p room_1 s m #[Value.ref b] meth c z D cy ∧ va_X b NN xs s s.heap ∧ b < s.heap.size ∧ s.heap.size = z + 1
def ZL (l : Launch) (p : Program) (e : Env) (s : State) (m : MethodId) (below : List Frame) (meth : Method) (c : Code) (z b NN : Nat) (xs : Nat → Int32) (D : va_G) (cy : Nat → ClassId) (M : MD) (rc rs : Nat) (pc : Nat) (lv : List (Nat × Value)) (st : List Value) (T : SH) (F : MI) (G : MN) (A : MI) (B : MN) : Prop :=
  LC M p s m meth c z b NN xs D cy → ∀ (H : Heap) (locs : List Loc) (cells slots : Nat) (ls : Array Slot), ZH M 642648 7174304 rc rs lv T F G A B s H locs cells slots z b D cy ls →
    W p l e room_1 s m #[Value.ref b] below meth c H locs cells slots (lw_Z below #[Value.ref b] s) (F0 m pc ls (st.map (tr z b)))
section LAWROWS
variable {l : Launch} {p : Program} {e : Env} {s : State} {m : MethodId} {below : List Frame} {meth : Method} {c : Code} {z b NN : Nat} {xs : Nat → Int32} {D : va_G} {cy : Nat → ClassId} {M : MD} {rc rs : Nat} {pc : Nat} {lv : List (Nat × Value)} {st : List Value} {T : SH} {F : MI} {G : MN} {A : MI} {B : MN}
theorem lz_iconst {n : Int} {v : Int32} (hd : decode M.2.1 pc = .ok (.iconst n, 1)) (hv : Int32.ofInt n = v) (kk : ZL l p e s m below meth c z b NN xs D cy M rc rs (pc + 1) lv (.int v :: st) T F G A B) : ZL l p e s m below meth c z b NN xs D cy M rc rs pc lv st T F G A B := by
  intro X0 H locs cells slots ls Y
  have X := X0.1
  exact lv_iconst X.1 X.2.1 hd hv (kk X0 H locs cells slots ls Y)
theorem lz_bipush {n : Int} {v : Int32} (hd : decode M.2.1 pc = .ok (.bipush n, 2)) (hv : (Int8.ofInt n).toInt32 = v) (kk : ZL l p e s m below meth c z b NN xs D cy M rc rs (pc + 2) lv (.int v :: st) T F G A B) : ZL l p e s m below meth c z b NN xs D cy M rc rs pc lv st T F G A B := by
  intro X0 H locs cells slots ls Y
  have X := X0.1
  exact lv_bipush X.1 X.2.1 hd hv (kk X0 H locs cells slots ls Y)
theorem lz_iload_n {k : Fin 4} {x : Int32} (hd : decode M.2.1 pc = .ok (.iload_n k, 1)) (q : Nat) {i : Nat} (hi : (k : Nat) = i) (hl : lv[q]? = some (i, .int x)) (kk : ZL l p e s m below meth c z b NN xs D cy M rc rs (pc + 1) lv (.int x :: st) T F G A B) : ZL l p e s m below meth c z b NN xs D cy M rc rs pc lv st T F G A B := by
  intro X0 H locs cells slots ls Y
  have X := X0.1
  exact lv_iload_n X.1 X.2.1 hd hi (lget Y.2.2.2.2 hl) (kk X0 H locs cells slots ls Y)
theorem lz_aload_n {k : Fin 4} {x : Nat} (hd : decode M.2.1 pc = .ok (.aload_n k, 1)) (q : Nat) {i : Nat} (hi : (k : Nat) = i) (hl : lv[q]? = some (i, .ref x)) (kk : ZL l p e s m below meth c z b NN xs D cy M rc rs (pc + 1) lv (.ref x :: st) T F G A B) : ZL l p e s m below meth c z b NN xs D cy M rc rs pc lv st T F G A B := by
  intro X0 H locs cells slots ls Y
  have X := X0.1
  exact lv_aload_n X.1 X.2.1 hd hi (lget Y.2.2.2.2 hl) (kk X0 H locs cells slots ls Y)
theorem lz_aload_nS {k : Fin 4} {x : Int64} (hd : decode M.2.1 pc = .ok (.aload_n k, 1)) (q : Nat) {i : Nat} (hi : (k : Nat) = i) (hl : lv[q]? = some (i, .long x)) (kk : ZL l p e s m below meth c z b NN xs D cy M rc rs (pc + 1) lv (.long x :: st) T F G A B) : ZL l p e s m below meth c z b NN xs D cy M rc rs pc lv st T F G A B := by
  intro X0 H locs cells slots ls Y
  have X := X0.1
  exact lv_aload_n X.1 X.2.1 hd hi (lget Y.2.2.2.2 hl) (kk X0 H locs cells slots ls Y)
theorem lz_istore_n {k : Fin 4} {i : Nat} {x : Int32} {lv' : List (Nat × Value)} (hd : decode M.2.1 pc = .ok (.istore_n k, 1)) (hi : (k : Nat) = i) (hn : i < M.2.2.1) (hl : lset lv i (.int x) = lv') (kk : ZL l p e s m below meth c z b NN xs D cy M rc rs (pc + 1) lv' st T F G A B) : ZL l p e s m below meth c z b NN xs D cy M rc rs pc lv (.int x :: st) T F G A B := by
  intro X0 H locs cells slots ls Y
  have X := X0.1
  subst hl
  exact lv_istore_n X.1 X.2.1 hd hi Y.2.2.2.2 hn rfl (fun ls' h' => kk X0 H locs cells slots ls' ⟨Y.1, Y.2.1, Y.2.2.1, Y.2.2.2.1, lset_has h'⟩)
theorem lz_astore_n {k : Fin 4} {i : Nat} {x : Nat} {lv' : List (Nat × Value)} (hd : decode M.2.1 pc = .ok (.astore_n k, 1)) (hi : (k : Nat) = i) (hn : i < M.2.2.1) (hl : lset lv i (.ref x) = lv') (kk : ZL l p e s m below meth c z b NN xs D cy M rc rs (pc + 1) lv' st T F G A B) : ZL l p e s m below meth c z b NN xs D cy M rc rs pc lv (.ref x :: st) T F G A B := by
  intro X0 H locs cells slots ls Y
  have X := X0.1
  subst hl
  exact lv_astore_n X.1 X.2.1 hd hi Y.2.2.2.2 hn rfl (fun ls' h' => kk X0 H locs cells slots ls' ⟨Y.1, Y.2.1, Y.2.2.1, Y.2.2.2.1, lset_has h'⟩)
theorem lz_iinc {lv' : List (Nat × Value)} {i : Nat} {n : Int} {x v : Int32} (hd : decode M.2.1 pc = .ok (.iinc i n, 3)) (q : Nat) (hk : lv[q]? = some (i, .int x)) (hv : x + Int32.ofInt n = v) (hn : i < M.2.2.1) (hl : lset lv i (.int v) = lv') (kk : ZL l p e s m below meth c z b NN xs D cy M rc rs (pc + 3) lv' st T F G A B) : ZL l p e s m below meth c z b NN xs D cy M rc rs pc lv st T F G A B := by
  intro X0 H locs cells slots ls Y
  have X := X0.1
  subst hl
  exact lv_iinc (k := q) X.1 X.2.1 hd Y.2.2.2.2 (by rw [List.getElem?_map, hk]; rfl) hv hn rfl (fun ls' h' => kk X0 H locs cells slots ls' ⟨Y.1, Y.2.1, Y.2.2.1, Y.2.2.2.1, lset_has h'⟩)
theorem lz_iadd {x y : Int32} (hd : decode M.2.1 pc = .ok (.iadd, 1))  (kk : ZL l p e s m below meth c z b NN xs D cy M rc rs (pc + 1) lv (.int (x + y) :: st) T F G A B) : ZL l p e s m below meth c z b NN xs D cy M rc rs pc lv (.int y :: .int x :: st) T F G A B := by
  intro X0 H locs cells slots ls Y
  have X := X0.1
  exact lv_iadd X.1 X.2.1 hd (kk X0 H locs cells slots ls Y)
theorem lz_isub {x y : Int32} (hd : decode M.2.1 pc = .ok (.isub, 1))  (kk : ZL l p e s m below meth c z b NN xs D cy M rc rs (pc + 1) lv (.int (x - y) :: st) T F G A B) : ZL l p e s m below meth c z b NN xs D cy M rc rs pc lv (.int y :: .int x :: st) T F G A B := by
  intro X0 H locs cells slots ls Y
  have X := X0.1
  exact lv_isub X.1 X.2.1 hd (kk X0 H locs cells slots ls Y)
theorem lz_iand {x y : Int32} (hd : decode M.2.1 pc = .ok (.iand, 1))  (kk : ZL l p e s m below meth c z b NN xs D cy M rc rs (pc + 1) lv (.int (x &&& y) :: st) T F G A B) : ZL l p e s m below meth c z b NN xs D cy M rc rs pc lv (.int y :: .int x :: st) T F G A B := by
  intro X0 H locs cells slots ls Y
  have X := X0.1
  exact lv_iand X.1 X.2.1 hd (kk X0 H locs cells slots ls Y)
theorem lz_dup {v : Value} (hd : decode M.2.1 pc = .ok (.dup, 1))  (kk : ZL l p e s m below meth c z b NN xs D cy M rc rs (pc + 1) lv (v :: v :: st) T F G A B) : ZL l p e s m below meth c z b NN xs D cy M rc rs pc lv (v :: st) T F G A B := by
  intro X0 H locs cells slots ls Y
  have X := X0.1
  exact lv_dup X.1 X.2.1 hd (tr_cat z b v) (kk X0 H locs cells slots ls Y)
theorem lz_goto {off : Int} {tgt : Nat} (hd : decode M.2.1 pc = .ok (.goto off, 3)) (ht : (pc : Int) + off = (tgt : Int)) (kk : ZL l p e s m below meth c z b NN xs D cy M rc rs tgt lv st T F G A B) : ZL l p e s m below meth c z b NN xs D cy M rc rs pc lv st T F G A B := by
  intro X0 H locs cells slots ls Y
  have X := X0.1
  exact lv_goto X.1 X.2.1 hd ht (kk X0 H locs cells slots ls Y)
theorem lz_icmp_gt {x y : Int32} {off : Int} {tgt : Nat} (hd : decode M.2.1 pc = .ok (.if_icmp .gt off, 3)) (ht : (pc : Int) + off = (tgt : Int)) (kt : y < x → ZL l p e s m below meth c z b NN xs D cy M rc rs tgt lv st T F G A B) (kf : ¬ y < x → ZL l p e s m below meth c z b NN xs D cy M rc rs (pc + 3) lv st T F G A B) : ZL l p e s m below meth c z b NN xs D cy M rc rs pc lv (.int y :: .int x :: st) T F G A B := by
  intro X0 H locs cells slots ls Y
  have X := X0.1
  exact lv_icmp_gt X.1 X.2.1 hd ht (fun h => kt h X0 H locs cells slots ls Y) (fun h => kf h X0 H locs cells slots ls Y)
theorem lz_icmp_eq {x y : Int32} {off : Int} {tgt : Nat} (hd : decode M.2.1 pc = .ok (.if_icmp .eq off, 3)) (ht : (pc : Int) + off = (tgt : Int)) (kt : x = y → ZL l p e s m below meth c z b NN xs D cy M rc rs tgt lv st T F G A B) (kf : ¬ x = y → ZL l p e s m below meth c z b NN xs D cy M rc rs (pc + 3) lv st T F G A B) : ZL l p e s m below meth c z b NN xs D cy M rc rs pc lv (.int y :: .int x :: st) T F G A B := by
  intro X0 H locs cells slots ls Y
  have X := X0.1
  exact lv_icmp_eq X.1 X.2.1 hd ht (fun h => kt h X0 H locs cells slots ls Y) (fun h => kf h X0 H locs cells slots ls Y)
theorem lz_tableIn {dflt lo hi : Int} {offs : Array Int} {len : Nat} {x : Int32} {off : Int} {tgt : Nat} (hd : decode M.2.1 pc = .ok (.tableswitch dflt lo hi offs, len)) (h1 : ¬ x.toInt < lo) (h2 : ¬ hi < x.toInt) (ho : offs[(x.toInt - lo).toNat]? = some off) (ht : (pc : Int) + off = (tgt : Int)) (kk : ZL l p e s m below meth c z b NN xs D cy M rc rs tgt lv st T F G A B) : ZL l p e s m below meth c z b NN xs D cy M rc rs pc lv (.int x :: st) T F G A B := by
  intro X0 H locs cells slots ls Y
  have X := X0.1
  exact lv_tableIn X.1 X.2.1 hd h1 h2 ho ht (kk X0 H locs cells slots ls Y)
theorem lz_tableOut {dflt lo hi : Int} {offs : Array Int} {len : Nat} {x : Int32} {tgt : Nat} (hd : decode M.2.1 pc = .ok (.tableswitch dflt lo hi offs, len)) (h : x.toInt < lo ∨ hi < x.toInt) (ht : (pc : Int) + dflt = (tgt : Int)) (kk : ZL l p e s m below meth c z b NN xs D cy M rc rs tgt lv st T F G A B) : ZL l p e s m below meth c z b NN xs D cy M rc rs pc lv (.int x :: st) T F G A B := by
  intro X0 H locs cells slots ls Y
  have X := X0.1
  exact lv_tableOut X.1 X.2.1 hd h ht (kk X0 H locs cells slots ls Y)
theorem lz_new {ci idx n N : Nat} {C : String} {TT : u_T} {ty : Nat → FieldType} (hd : decode M.2.1 pc = .ok (.new idx, 3)) (hcl : ClsOk ci C TT N ty) (hlk : Cond.classLink M.1.cls idx C ∈ lw_g) (hin : Cond.instantiable C N ∈ lw_g) (hini : Cond.initialized C ∈ lw_g) (hn : T.2.2 = n)
    (kk : ZL l p e s m below meth c z b NN xs D cy M rc rs (pc + 3) lv (.ref (n + 1) :: st) (T1 T n ci 0) (fr0 F (n + 1)) (frN G (n + 1)) A B) : ZL l p e s m below meth c z b NN xs D cy M (rc + 1) (rs + N) pc lv st T F G A B := by
  intro X0 H locs cells slots ls Y
  have X := X0.1
  have hts := X.2.2.2.2.1
  have hK := X.2.2.2.2.2.2.2.2.2.1
  have X2 := X.2.2.2.2.2.2.2.2.2.2.2.2.1
  have X3 := X.2.2.2.2.2.2.2.2.2.2.2.2.2.1
  obtain ⟨Y1, Y2, Y3, Y4, Y5⟩ := Y
  obtain ⟨h1, h2, h3, h4, h5, h6, h7⟩ := hcl
  have hKn := hK.1 ci _ h1
  have hH : H.size = z + n + 1 := by rw [Y1.1, hn]
  refine W.newcK (own := M.1.cls) (h := z + n + 1) X.1 X.2.1 X.2.2.2.1 (hts _ hlk) (hts _ hin) (hts _ hini) rfl hd (by omega) (by omega) hKn.2.1 hH fun H1 kC hkC e1 z1 o1 => ?_
  have ob := u_born ty hts h4 hKn hkC e1 h5
  have rp : RP z cy D (T1 T n ci 0) (fr0 F (n + 1)) (frN G (n + 1)) A B H1 := by
    refine Y1.grow hn z1 o1 (fun k x e => if_neg e) (fun k x e => if_neg e) (fun _ _ _ => rfl) (fun _ _ _ => rfl) ?_
    unfold cOk
    rw [if_pos h2, ← h3]
    refine t_OB.to ob (fun j hj => ?_)
    unfold fv
    rcases h7 j hj with ⟨r1, r2⟩ | ⟨r1, r2⟩
    · rw [if_neg (by rw [r1]; decide), r2]
      show defaultValue .int = .int (if n + 1 = n + 1 then 0 else F (40 * ci + j) (n + 1))
      rw [if_pos rfl]; rfl
    · rw [if_pos r1]
      show defaultValue (ty j) = va_rf (ro z (if n + 1 = n + 1 then 0 else G (40 * ci + j) (n + 1)))
      rw [if_pos rfl, ro_0]
      cases q : ty j <;> rw [q] at r2 <;> first | rfl | cases r2
  exact kk X0 H1 locs (cells + 1) (slots + N) ls ⟨rp, ⟨by have := Y2.1; omega, fun q a1 a2 => (o1 q (by have := Y2.1; omega)).trans (Y2.2.1 q a1 a2), Y2.2.2⟩, by omega, by omega, Y5⟩
theorem lz_back {a : Array Value} {H : Heap} {locs : List Loc} {cells slots : Nat} {ls : Array Slot} {ac' az' rc' rs' : Nat} {rest st0 : List Value}
    (X0 : LC M p s m meth c z b NN xs D cy) (Y : ZH M 642648 7174304 rc rs lv T F G A B s H locs cells slots z b D cy ls) (hac : ac' + rc' ≤ rc) (haz : az' + rs' ≤ rs)
    (hr : va_Run p l e room_1 s m #[Value.ref b] below meth c H locs cells slots ac' az' (F0 m pc ls st0) (rest.map (tr z b)) (QC z b cy D (fun v T F G A B => ZL l p e s m below meth c z b NN xs D cy M rc' rs' (pc + 3) lv (v.toList ++ rest) T F G A B) a) (fun q => z < q)) :
    W p l e room_1 s m #[Value.ref b] below meth c H locs cells slots (lw_Z below #[Value.ref b] s) (F0 m pc ls st0) := by
  intro T0 hT XX
  obtain ⟨v, st₀, t, T', Lc, h0, X', hL, e1, e2, ⟨⟨v2, T2, F2, G2, A2, B2, hv, hq, hRP⟩, hF⟩, stp⟩ := hr T0 hT XX
  cases hv
  have hS := Y.2.1
  have hS2 : va_S (fun q => z < q) s.heap T'.heap (locs ++ Lc) := by
    refine ⟨by rw [e1]; exact Nat.le_trans hS.1 (by rw [← h0]; exact hF.1), fun q h1 h2 => ?_, fun q hq => ?_⟩
    · rw [e1, hF.2 q (by rw [h0]; exact Nat.lt_of_lt_of_le h1 hS.1) h2, h0]
      exact hS.2.1 q h1 h2
    · rcases List.mem_append.mp hq with h | h
      · exact hS.2.2 q h
      · exact hL q h
  obtain ⟨t2, a1, b1⟩ := hq X0 T'.heap (locs ++ Lc) (cells + ac') (slots + az') ls ⟨by rw [e1]; exact hRP, hS2, by have := Y.2.2.1; omega, by have := Y.2.2.2.1; omega, Y.2.2.2.2⟩ T' rfl X'
  refine ⟨t2, stp t2 ?_, b1⟩
  cases v2 <;> exact a1
theorem lz_callV {M' : MD} {n idx L' ac' az' rc' rs' ci : Nat} {TT : u_T} {N a : Nat} {As rest : List Value} (hd : decode M.2.1 pc = .ok (.invokevirtual idx, 3)) (hM : MOk M' n) (hI : IOk M') (hl : Cond.methodLink M.1.cls idx M'.1 ∈ lw_g) (hcl : vwCl[ci]? = some (M'.1.cls, TT, N)) (h9 : ci < 9) (ha : At T a ci) (hn : As.length = n) (hst : st = As.reverse ++ .ref a :: rest) (hrest : rest.length ≤ 8) (hL : L' + 1 ≤ 12) (hac : ac' + rc' ≤ rc) (haz : az' + rs' ≤ rs)
    (kk : Cn l M' L' ac' az' (.ref a :: As) T F G A B (fun v T F G A B => ZL l p e s m below meth c z b NN xs D cy M rc' rs' (pc + 3) lv (v.toList ++ rest) T F G A B)) : ZL l p e s m below meth c z b NN xs D cy M rc rs pc lv st T F G A B := by
  intro X0 H locs cells slots ls Y
  have X := X0.1
  subst hst
  have hts := X.2.2.2.2.1
  obtain ⟨cell, q1, q2, q3, q4⟩ := Y.1.obj ha h9
  obtain ⟨hS, hfc, -⟩ := X.2.2.2.2.2.2.2.2.2.1.1 ci _ hcl
  have Y2 := Y.2.2.1
  have Y3 := Y.2.2.2.1
  have X2 := X.2.2.2.2.2.2.2.2.2.2.2.2.1
  have X3 := X.2.2.2.2.2.2.2.2.2.2.2.2.2.1
  refine lz_back (rest := rest) (a := (Value.ref (z + a) :: As.map (tr z b)).toArray) X0 Y hac haz ?_
  refine va_runV (C := M'.1.cls) (nL := M.2.2.1) (Ts := lw_g) (own := M.1.cls) (As := As.map (tr z b)) (rest := rest.map (tr z b)) (b := z + a) ⟨X.1, X.2.1, X.2.2.1, X.2.2.2.1, hts⟩ (kk z b cy D) ⟨z_callB X hM hl hL, hts _ hI.1, hts _ hI.2⟩ ⟨z_blind, ⟨cell, q1, by rw [q3]; rfl, by rw [q2]; exact hfc⟩, fun U hU hW => ⟨rfl, z_start X Y hU hW⟩⟩ rfl (by rw [List.length_map]; exact hn) Y.2.2.2.2.1 ?_ (lv_room (catsum hrest)) hd ⟨by omega, by omega⟩
  show List.map (tr z b) (As.reverse ++ Value.ref a :: rest) = _
  rw [List.map_append, List.map_reverse]
  rfl
theorem lz_callI {M' : MD} {n idx L' ac' az' rc' rs' : Nat} {a : Nat} {As rest : List Value} (hd : decode M.2.1 pc = .ok (.invokespecial idx, 3)) (hM : MOk M' n) (hr : M'.2.2.2 = none) (hini : M'.1.name = "<init>") (hi : Cond.instanceMethod M'.1 ∈ lw_g) (hl : Cond.methodLink M.1.cls idx M'.1 ∈ lw_g) (hn : As.length = n) (hst : st = As.reverse ++ .ref a :: rest) (hrest : rest.length ≤ 8) (hL : L' + 1 ≤ 12) (hac : ac' + rc' ≤ rc) (haz : az' + rs' ≤ rs)
    (kk : Cn l M' L' ac' az' (.ref a :: As) T F G A B (fun v T F G A B => ZL l p e s m below meth c z b NN xs D cy M rc' rs' (pc + 3) lv (v.toList ++ rest) T F G A B)) : ZL l p e s m below meth c z b NN xs D cy M rc rs pc lv st T F G A B := by
  intro X0 H locs cells slots ls Y
  have X := X0.1
  subst hst
  have hts := X.2.2.2.2.1
  have Y2 := Y.2.2.1
  have Y3 := Y.2.2.2.1
  have X2 := X.2.2.2.2.2.2.2.2.2.2.2.2.1
  have X3 := X.2.2.2.2.2.2.2.2.2.2.2.2.2.1
  have hB := z_callB (ac' := ac') (az' := az') X hM hl hL
  have hk := kk z b cy D
  rw [hr] at hB hk
  refine lz_back (rest := rest) (a := (Value.ref (z + a) :: As.map (tr z b)).toArray) X0 Y hac haz ?_
  refine va_runI (nL := M.2.2.1) (Ts := lw_g) (own := M.1.cls) (As := As.map (tr z b)) (rest := rest.map (tr z b)) (b := z + a) ⟨X.1, X.2.1, X.2.2.1, X.2.2.2.1, hts⟩ hk ⟨hB, hini, hts _ hi⟩ ⟨z_blind (av := .ref a :: As), fun U hU hW => ⟨rfl, z_start X Y hU hW⟩⟩ rfl (by rw [List.length_map]; exact hn) Y.2.2.2.2.1 ?_ (lv_room (catsum hrest)) hd ⟨by omega, by omega⟩
  show List.map (tr z b) (As.reverse ++ Value.ref a :: rest) = _
  rw [List.map_append, List.map_reverse]
  rfl
theorem lz_room {rc' rs' : Nat} (h1 : rc' ≤ rc) (h2 : rs' ≤ rs) (kk : ZL l p e s m below meth c z b NN xs D cy M rc' rs' pc lv st T F G A B) : ZL l p e s m below meth c z b NN xs D cy M rc rs pc lv st T F G A B := by
  intro X0 H locs cells slots ls Y
  exact kk X0 H locs cells slots ls ⟨Y.1, Y.2.1, by have := Y.2.2.1; omega, by have := Y.2.2.2.1; omega, Y.2.2.2.2⟩
theorem lz_slen {x : Int64} (hd : decode M.2.1 pc = .ok (.arraylength, 1)) (kk : ZL l p e s m below meth c z b NN xs D cy M rc rs (pc + 1) lv (.int (nI NN) :: st) T F G A B) : ZL l p e s m below meth c z b NN xs D cy M rc rs pc lv (.long x :: st) T F G A B := by
  intro X0 H locs cells slots ls Y
  have X := X0.1
  exact va_slen X.1 X.2.1 X0.2.1 X0.2.2.1 (show ¬ z < b by have := X0.2.2.1; have := X0.2.2.2; omega) Y.2.1 hd (kk X0 H locs cells slots ls Y)
theorem lz_sld {x : Int64} {i : Int32} (hin : vp_in i NN) (hd : decode M.2.1 pc = .ok (.iaload, 1)) (kk : ZL l p e s m below meth c z b NN xs D cy M rc rs (pc + 1) lv (.int (xs i.toNatClampNeg) :: st) T F G A B) : ZL l p e s m below meth c z b NN xs D cy M rc rs pc lv (.int i :: .long x :: st) T F G A B := by
  intro X0 H locs cells slots ls Y
  have X := X0.1
  exact va_sld X.1 X.2.1 X0.2.1 X0.2.2.1 (show ¬ z < b by have := X0.2.2.1; have := X0.2.2.2; omega) Y.2.1 hin hd (kk X0 H locs cells slots ls Y)
theorem lz_ret (h1 : M.2.1 = code) (h2 : M.2.2.2 = ret) (hd : decode code pc = .ok (.ireturn, 1)) : ZL l p e s m below meth c z b NN xs D cy M rc rs pc lv [.int 1] T F G A B := by
  intro X0 H locs cells slots ls Y
  have X := X0.1
  refine va_forget (fun q hq => ?_) ?_
  · have h3 : z < q.base := Y.2.1.2.2 q hq
    have := X0.2.2.2
    omega
  · refine W.widen (k := 642648) (n := 7174304) (by have := Y.2.2.1; omega) (by have := Y.2.2.2.1; omega) ?_
    exact lw_ret X.1 (X.2.1.trans h1) (X.2.2.2.2.2.2.1.trans h2) X.2.2.2.2.2.1 hd
end LAWROWS
