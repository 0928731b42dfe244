theorem oi_inst : Cond.instanceMethod Lib.objectInit ∈ lw_g := lw_gm (List.mem_of_getElem? (i := 69) rfl) rfl
theorem oi_code : Cond.code Lib.objectInit ⟨#[0xb1]⟩ 1 none ∈ lw_g := lw_gm (List.mem_of_getElem? (i := 70) rfl) rfl
theorem oi_X7 : Cond.methodLink RX7 1 Lib.objectInit ∈ lw_g := lw_gm (List.mem_of_getElem? (i := 68) rfl) rfl
theorem oi_X5 : Cond.methodLink RX5 3 Lib.objectInit ∈ lw_g := lw_gm (List.mem_of_getElem? (i := 76) rfl) rfl
theorem oi_X2 : Cond.methodLink RX2 3 Lib.objectInit ∈ lw_g := lw_gm (List.mem_of_getElem? (i := 100) rfl) rfl
theorem oi_X6 : Cond.methodLink RX6 3 Lib.objectInit ∈ lw_g := lw_gm (List.mem_of_getElem? (i := 127) rfl) rfl
theorem oi_X3 : Cond.methodLink RX3 3 Lib.objectInit ∈ lw_g := lw_gm (List.mem_of_getElem? (i := 147) rfl) rfl
theorem oi_X1 : Cond.methodLink RX1 5 Lib.objectInit ∈ lw_g := lw_gm (List.mem_of_getElem? (i := 157) rfl) rfl
theorem oi_X4 : Cond.methodLink RX4 3 Lib.objectInit ∈ lw_g := lw_gm (List.mem_of_getElem? (i := 179) rfl) rfl
theorem oi_X0 : Cond.methodLink RX0 3 Lib.objectInit ∈ lw_g := lw_gm (List.mem_of_getElem? (i := 377) rfl) rfl
set_option maxRecDepth 20000 in
theorem oi_X8 : Cond.methodLink RX8 1 Lib.objectInit ∈ lw_g := lw_gm (List.mem_of_getElem? (i := 664) rfl) rfl
theorem nn_X0 : Cond.instantiable RX0 5 ∈ lw_g := lw_gm (List.mem_of_getElem? (i := 373) rfl) rfl
theorem nn_X1 : Cond.instantiable RX1 3 ∈ lw_g := lw_gm (List.mem_of_getElem? (i := 153) rfl) rfl
theorem nn_X2 : Cond.instantiable RX2 6 ∈ lw_g := lw_gm (List.mem_of_getElem? (i := 96) rfl) rfl
theorem nn_X3 : Cond.instantiable RX3 1 ∈ lw_g := lw_gm (List.mem_of_getElem? (i := 143) rfl) rfl
theorem nn_X4 : Cond.instantiable RX4 9 ∈ lw_g := lw_gm (List.mem_of_getElem? (i := 175) rfl) rfl
theorem nn_X5 : Cond.instantiable RX5 4 ∈ lw_g := lw_gm (List.mem_of_getElem? (i := 72) rfl) rfl
theorem nn_X6 : Cond.instantiable RX6 4 ∈ lw_g := lw_gm (List.mem_of_getElem? (i := 123) rfl) rfl
theorem nn_X7 : Cond.instantiable RX7 10 ∈ lw_g := lw_gm (List.mem_of_getElem? (i := 64) rfl) rfl
set_option maxRecDepth 20000 in
theorem nn_X8 : Cond.instantiable RX8 34 ∈ lw_g := lw_gm (List.mem_of_getElem? (i := 660) rfl) rfl
theorem ac_int : Cond.arrayClass .int ∈ lw_g := lw_gm (List.mem_of_getElem? (i := 90) rfl) rfl
set_option maxRecDepth 20000 in
theorem ac_byte : Cond.arrayClass .byte ∈ lw_g := lw_gm (List.mem_of_getElem? (i := 768) rfl) rfl
/-! new cells -/
def fr0 (F : MI) (a : Nat) : MI := fun f x => if x = a then 0 else F f x
def frN (G : MN) (a : Nat) : MN := fun f x => if x = a then 0 else G f x
def fa0 (A : MI) (a : Nat) : MI := fun x j => if x = a then 0 else A x j
def faN (B : MN) (a : Nat) : MN := fun x j => if x = a then 0 else B x j
def T1 (T : SH) (n ci len : Nat) : SH := (fun x => if x = n + 1 then ci else T.1 x, fun x => if x = n + 1 then len else T.2.1 x, n + 1)
theorem At.up {T : SH} {a ci n c2 len : Nat} (h : At T a ci) (hn : T.2.2 = n) : At (T1 T n c2 len) a ci := by
  obtain ⟨h1, h2, h3⟩ := h
  refine ⟨h1, by show a ≤ n + 1; omega, ?_⟩
  show (if a = n + 1 then c2 else T.1 a) = ci
  rw [if_neg (by omega)]; exact h3
theorem At.nw {T : SH} {n ci len : Nat} : At (T1 T n ci len) (n + 1) ci := ⟨by omega, Nat.le_refl _, if_pos rfl⟩
theorem over_use {ty : FieldType} {args : Array Value} {U : State} (h : va_Nw (.arrayOver ty) U) : (Cond.arrayOver ty).before args U = true := by
  unfold va_Nw at h
  simp only [Cond.before, Cond.holds, Cond.value] at h ⊢
  exact h
section ALLOC
variable {l : Launch} {M : MD} {L ac az rc rs : Nat} {Q : PQ} {pc : Nat} {lv : List (Nat × Value)} {st : List Value} {T : SH} {F : MI} {G : MN} {A : MI} {B : MN}
theorem z_objInit {idx a : Nat} (hd : decode M.2.1 pc = .ok (.invokespecial idx, 3)) (hl : Cond.methodLink M.1.cls idx Lib.objectInit ∈ lw_g) (hL : 1 ≤ L) (hrest : st.length ≤ 8) (kk : Z l M L ac az rc rs Q (pc + 3) lv st T F G A B) : Z l M L ac az rc rs Q pc lv (.ref a :: st) T F G A B := by
  intro p e R s m args below meth c H locs cells slots z b D cy ls X Y
  have hts := X.2.2.2.2.1
  have hfr := X.2.2.2.2.2.2.2.2.2.2.1
  have hlo := X.2.2.2.2.2.2.2.2.2.2.2.1
  have h8 := lv_room (m := m) (pc := pc) (ls := ls) (rest := (Value.ref a :: st).map (tr z b)) (catsum (z := z) (b := b) hrest)
  exact W.objInit (own := M.1.cls) (a := z + a) (rest := st.map (tr z b)) X.1 X.2.1 X.2.2.2.1 (hts _ hl) (hts _ oi_inst) (hts _ oi_code) rfl (Y.2.2.2.2.1.trans X.2.2.1.symm) rfl hd (by omega) (by omega) (kk p e R s m args below meth c H locs cells slots z b D cy ls X Y)
theorem RP.grow {z : Nat} {cy : Nat → ClassId} {D : va_G} {F' : MI} {G' : MN} {A' : MI} {B' : MN} {H H1 : Heap} {n ci len : Nat} (h : RP z cy D T F G A B H) (hn : T.2.2 = n) (hz : H1.size = z + n + 1 + 1) (oq : ∀ q, q < z + n + 1 → H1[q]? = H[q]?)
    (hF : ∀ k x, x ≠ n + 1 → F' k x = F k x) (hG : ∀ k x, x ≠ n + 1 → G' k x = G k x) (hA : ∀ j x, x ≠ n + 1 → A' x j = A x j) (hB : ∀ j x, x ≠ n + 1 → B' x j = B x j) (ha : cOk z cy D (T1 T n ci len).2.1 F' G' A' B' H1 (n + 1) ci) : RP z cy D (T1 T n ci len) F' G' A' B' H1 := by
  refine ⟨hz, fun x h1 h2 => ?_⟩
  have h2' : x ≤ n + 1 := h2
  by_cases e : x = n + 1
  · rw [e]
    show cOk z cy D (T1 T n ci len).2.1 F' G' A' B' H1 (n + 1) (if n + 1 = n + 1 then ci else T.1 (n + 1))
    rw [if_pos rfl]; exact ha
  · show cOk z cy D (T1 T n ci len).2.1 F' G' A' B' H1 x (if x = n + 1 then ci else T.1 x)
    rw [if_neg e]
    exact cOk_kept (cOk_mem (h.2 x h1 (by omega)) (show (if x = n + 1 then len else T.2.1 x) = T.2.1 x by rw [if_neg e]) (fun k => hF k x e) (fun k => hG k x e) (fun j => hA j x e) (fun j => hB j x e)) (oq _ (by omega))
theorem z_new {ci idx n N : Nat} {C : String} {TT : u_T} {ty : Nat → FieldType} (hd : decode M.2.1 pc = .ok (.new idx, 3)) (hcl : ClsOk ci C TT N ty) (hlk : Cond.classLink M.1.cls idx C ∈ lw_g) (hin : Cond.instantiable C N ∈ lw_g) (hini : Cond.initialized C ∈ lw_g) (hn : T.2.2 = n)
    (kk : Z l M L ac az rc rs Q (pc + 3) lv (.ref (n + 1) :: st) (T1 T n ci 0) (fr0 F (n + 1)) (frN G (n + 1)) A B) : Z l M L ac az (rc + 1) (rs + N) Q pc lv st T F G A B := by
  intro p e R s m args below meth c H locs cells slots z b D cy ls X Y
  have hts := X.2.2.2.2.1
  have hK := X.2.2.2.2.2.2.2.2.2.1
  have X2 := X.2.2.2.2.2.2.2.2.2.2.2.2.1
  have X3 := X.2.2.2.2.2.2.2.2.2.2.2.2.2.1
  obtain ⟨Y1, Y2, Y3, Y4, Y5⟩ := Y
  obtain ⟨h1, h2, h3, h4, h5, h6, h7⟩ := hcl
  have hKn := hK.1 ci _ h1
  have hH : H.size = z + n + 1 := by rw [Y1.1, hn]
  refine W.newcK (own := M.1.cls) (h := z + n + 1) X.1 X.2.1 X.2.2.2.1 (hts _ hlk) (hts _ hin) (hts _ hini) rfl hd (by omega) (by omega) hKn.2.1 hH fun H1 kC hkC e1 z1 o1 => ?_
  have ob := u_born ty hts h4 hKn hkC e1 h5
  have rp : RP z cy D (T1 T n ci 0) (fr0 F (n + 1)) (frN G (n + 1)) A B H1 := by
    refine Y1.grow hn z1 o1 (fun k x e => if_neg e) (fun k x e => if_neg e) (fun _ _ _ => rfl) (fun _ _ _ => rfl) ?_
    unfold cOk
    rw [if_pos h2, ← h3]
    refine t_OB.to ob (fun j hj => ?_)
    unfold fv
    rcases h7 j hj with ⟨r1, r2⟩ | ⟨r1, r2⟩
    · rw [if_neg (by rw [r1]; decide), r2]
      show defaultValue .int = .int (if n + 1 = n + 1 then 0 else F (40 * ci + j) (n + 1))
      rw [if_pos rfl]; rfl
    · rw [if_pos r1]
      show defaultValue (ty j) = va_rf (ro z (if n + 1 = n + 1 then 0 else G (40 * ci + j) (n + 1)))
      rw [if_pos rfl, ro_0]
      cases q : ty j <;> rw [q] at r2 <;> first | rfl | cases r2
  exact kk p e R s m args below meth c H1 locs (cells + 1) (slots + N) z b D cy ls X ⟨rp, ⟨by have := Y2.1; omega, fun q a1 a2 => (o1 q (by have := Y2.1; omega)).trans (Y2.2.1 q a1 a2), Y2.2.2⟩, by omega, by omega, Y5⟩
theorem z_newi {n N : Nat} {x : Int32} (hd : decode M.2.1 pc = .ok (.newarray .int, 2)) (hx : ¬ x < 0) (hN : x.toNatClampNeg = N) (hb : N ≤ 1000) (hn : T.2.2 = n)
    (kk : Z l M L ac az rc rs Q (pc + 2) lv (.ref (n + 1) :: st) (T1 T n 10 N) F G (fa0 A (n + 1)) B) : Z l M L ac az (rc + 1) (rs + N) Q pc lv (.int x :: st) T F G A B := by
  intro p e R s m args below meth c H locs cells slots z b D cy ls X Y
  have hts := X.2.2.2.2.1
  have hK := X.2.2.2.2.2.2.2.2.2.1
  have X2 := X.2.2.2.2.2.2.2.2.2.2.2.2.1
  have X3 := X.2.2.2.2.2.2.2.2.2.2.2.2.2.1
  obtain ⟨Y1, Y2, Y3, Y4, Y5⟩ := Y
  have hH : H.size = z + n + 1 := by rw [Y1.1, hn]
  refine va_newaK (atype := .int) (h := z + n + 1) X.1 X.2.1 (hts _ ac_int) rfl hd rfl hx hN (by show N * 4 ≤ 536870912; omega) (by omega) (by omega) hH fun H1 cA e1 z1 o1 hAr hNm => ?_
  have hc : cA = cy 10 := Option.some.inj (hNm.symm.trans (hK.2 1 _ rfl).2)
  have rp : RP z cy D (T1 T n 10 N) F G (fa0 A (n + 1)) B H1 := by
    refine Y1.grow hn z1 o1 (fun _ _ _ => rfl) (fun _ _ _ => rfl) (fun j x e => if_neg e) (fun _ _ _ => rfl) ?_
    unfold cOk
    rw [if_neg (by decide), if_pos (by decide)]
    show H1[z + (n + 1)]? = some (arrV (cy 10) (if n + 1 = n + 1 then N else T.2.1 (n + 1)) (fun j => .int (if n + 1 = n + 1 then 0 else A (n + 1) j)))
    simp only [if_pos]
    rw [← hc]
    exact e1
  exact kk p e R s m args below meth c H1 locs (cells + 1) (slots + N) z b D cy ls X ⟨rp, ⟨by have := Y2.1; omega, fun q a1 a2 => (o1 q (by have := Y2.1; omega)).trans (Y2.2.1 q a1 a2), Y2.2.2⟩, by omega, by omega, Y5⟩
theorem z_newb {n N : Nat} {x : Int32} (hd : decode M.2.1 pc = .ok (.newarray .byte, 2)) (hx : ¬ x < 0) (hN : x.toNatClampNeg = N) (hb : N ≤ 1000) (hn : T.2.2 = n)
    (kk : Z l M L ac az rc rs Q (pc + 2) lv (.ref (n + 1) :: st) (T1 T n 9 N) F G (fa0 A (n + 1)) B) : Z l M L ac az (rc + 1) (rs + N) Q pc lv (.int x :: st) T F G A B := by
  intro p e R s m args below meth c H locs cells slots z b D cy ls X Y
  have hts := X.2.2.2.2.1
  have hK := X.2.2.2.2.2.2.2.2.2.1
  have X2 := X.2.2.2.2.2.2.2.2.2.2.2.2.1
  have X3 := X.2.2.2.2.2.2.2.2.2.2.2.2.2.1
  obtain ⟨Y1, Y2, Y3, Y4, Y5⟩ := Y
  have hH : H.size = z + n + 1 := by rw [Y1.1, hn]
  refine va_newaK (atype := .byte) (h := z + n + 1) X.1 X.2.1 (hts _ ac_byte) rfl hd rfl hx hN (by show N * 1 ≤ 536870912; omega) (by omega) (by omega) hH fun H1 cA e1 z1 o1 hAr hNm => ?_
  have hc : cA = cy 9 := Option.some.inj (hNm.symm.trans (hK.2 0 _ rfl).2)
  have rp : RP z cy D (T1 T n 9 N) F G (fa0 A (n + 1)) B H1 := by
    refine Y1.grow hn z1 o1 (fun _ _ _ => rfl) (fun _ _ _ => rfl) (fun j x e => if_neg e) (fun _ _ _ => rfl) ?_
    unfold cOk
    rw [if_neg (by decide), if_pos (by decide)]
    show H1[z + (n + 1)]? = some (arrV (cy 9) (if n + 1 = n + 1 then N else T.2.1 (n + 1)) (fun j => .int (if n + 1 = n + 1 then 0 else A (n + 1) j)))
    simp only [if_pos]
    rw [← hc]
    exact e1
  exact kk p e R s m args below meth c H1 locs (cells + 1) (slots + N) z b D cy ls X ⟨rp, ⟨by have := Y2.1; omega, fun q a1 a2 => (o1 q (by have := Y2.1; omega)).trans (Y2.2.1 q a1 a2), Y2.2.2⟩, by omega, by omega, Y5⟩
theorem z_newr {n N idx ci : Nat} {C : String} {x : Int32} (hd : decode M.2.1 pc = .ok (.anewarray idx, 3)) (hlk : Cond.classLink M.1.cls idx C ∈ lw_g) (hov : FieldType.object C ∈ overL) (hty : ∀ cy, (tyL cy)[ci - 9]? = some (cy ci, .object C)) (h11 : 11 ≤ ci) (hx : ¬ x < 0) (hN : x.toNatClampNeg = N) (hb : N ≤ 1000) (hn : T.2.2 = n)
    (kk : Z l M L ac az rc rs Q (pc + 3) lv (.ref (n + 1) :: st) (T1 T n ci N) F G A (faN B (n + 1))) : Z l M L ac az (rc + 1) (rs + N) Q pc lv (.int x :: st) T F G A B := by
  intro p e R s m args below meth c H locs cells slots z b D cy ls X Y
  have hts := X.2.2.2.2.1
  have hK := X.2.2.2.2.2.2.2.2.2.1
  have X2 := X.2.2.2.2.2.2.2.2.2.2.2.2.1
  have X3 := X.2.2.2.2.2.2.2.2.2.2.2.2.2.1
  have hNW := X.2.2.2.2.2.2.2.2.2.2.2.2.2.2
  obtain ⟨Y1, Y2, Y3, Y4, Y5⟩ := Y
  have hH : H.size = z + n + 1 := by rw [Y1.1, hn]
  subst hN
  refine W.anew (own := M.1.cls) X.1 X.2.1 X.2.2.2.1 (hts _ hlk) (over_use (hNW.2 _ hov)) rfl hd rfl hx (by omega) (by omega) (by omega) fun cA kA comp f1 f2 f3 f4 => ?_
  obtain ⟨kA', comp', -, -, -, k4⟩ := (hK.2 (ci - 9) _ (hty cy)).2
  have hc : cA = cy ci := Option.some.inj (f1.symm.trans k4)
  generalize hH1 : H.push ({ cls := cA, slots := Array.replicate x.toNatClampNeg .null, vm := .none } : Cell) = H1
  have z1 : H1.size = z + n + 1 + 1 := by rw [← hH1, Array.size_push, hH]
  have e1 : H1[z + n + 1]? = some (arrV cA x.toNatClampNeg (fun _ => .null)) := by rw [← hH1, ← hH, Array.getElem?_push_size, ← arrV_new]
  have o1 : ∀ q : Nat, q < z + n + 1 → H1[q]? = H[q]? := fun q hq => by rw [← hH1, Array.getElem?_push, if_neg (by omega)]
  have rp : RP z cy D (T1 T n ci x.toNatClampNeg) F G A (faN B (n + 1)) H1 := by
    refine Y1.grow hn z1 o1 (fun _ _ _ => rfl) (fun _ _ _ => rfl) (fun _ _ _ => rfl) (fun j x e => if_neg e) ?_
    unfold cOk
    rw [if_neg (by omega), if_neg (by omega)]
    show H1[z + (n + 1)]? = some (arrV (cy ci) (if n + 1 = n + 1 then x.toNatClampNeg else T.2.1 (n + 1)) (fun j => va_rf (ro z (if n + 1 = n + 1 then 0 else B (n + 1) j))))
    simp only [if_pos, ro_0]
    rw [← hc]
    exact e1
  show W p l e R s m args below meth c H1 locs (cells + 1) (slots + x.toNatClampNeg) _ (F0 m (pc + 3) ls (.ref H.size :: st.map (tr z b)))
  rw [hH]
  exact kk p e R s m args below meth c H1 locs (cells + 1) (slots + x.toNatClampNeg) z b D cy ls X ⟨rp, ⟨by have := Y2.1; omega, fun q a1 a2 => (o1 q (by have := Y2.1; omega)).trans (Y2.2.1 q a1 a2), Y2.2.2⟩, by omega, by omega, Y5⟩
/-- an object into a row of references -/
theorem z_aast {a v ci cv : Nat} {C : String} {TT : u_T} {N : Nat} {ty : Nat → FieldType} {i : Int32} (hd : decode M.2.1 pc = .ok (.aastore, 1)) (hcl : ClsOk cv C TT N ty) (hty : ∀ cy, (tyL cy)[ci - 9]? = some (cy ci, .object C)) (h11 : 11 ≤ ci) (ha : At T a ci) (hv : At T v cv) (hin : vp_in i (T.2.1 a))
    (kk : Z l M L ac az rc rs Q (pc + 1) lv st T F G A (u2 B a i.toNatClampNeg v)) : Z l M L ac az rc rs Q pc lv (.ref v :: .int i :: .ref a :: st) T F G A B := by
  intro p e R s m args below meth c H locs cells slots z b D cy ls X Y
  have hK := X.2.2.2.2.2.2.2.2.2.1
  have hlt : i.toNatClampNeg < T.2.1 a := Nat.not_le.mp fun q => hin (Or.inr q)
  have h0 : ¬ i < 0 := fun q => hin (Or.inl q)
  obtain ⟨h1, h2, h3, -⟩ := hcl
  obtain ⟨cell, q1, q2, q3, q4⟩ := Y.1.obj hv h2
  have hcls := (hK.1 cv _ h1).2
  obtain ⟨kA, comp, k1, k2, k3, -⟩ := (hK.2 (ci - 9) _ (hty cy)).2
  have hcomp : comp = D.1 cv := Option.some.inj (k3.symm.trans hcls.1)
  subst hcomp
  obtain ⟨kC, hkC, -⟩ := hcls.2
  have hrow := Y.1.refs ha (by omega)
  refine W.aast (a := z + a) (v := z + v) X.1 X.2.1 hrow (fun q h => by cases h) (fun h => by cases h) k1 k2 rfl hkC ⟨h0, by show _ < (arrV _ _ _).slots.size; rw [arrV_size]; exact hlt⟩ q1 (fun q h => by rw [q3] at h; cases h) (by rw [q2]; exact hkC) (by rw [q2]; exact va_assign hcls) rfl rfl hd fun H1 e1 z1 oq => ?_
  have hv0 : v ≠ 0 := by have := hv.1; omega
  have rp : RP z cy D T F G A (u2 B a i.toNatClampNeg v) H1 := by
    refine Y.1.put (a := a) z1 oq (fun _ _ _ => rfl) (fun _ _ _ => rfl) (fun _ _ _ => rfl) (fun j x e => u2_n1 e) ?_
    rw [ha.2.2]
    unfold cOk
    rw [if_neg (by omega), if_neg (by omega), e1, arrV_store]
    congr 2
    funext q
    by_cases hq : q = i.toNatClampNeg
    · rw [hq, u2_s, ro_ne hv0]
      simp [updV]
    · rw [u2_n2 hq]
      simp [updV, hq]
  exact kk p e R s m args below meth c H1 _ cells slots z b D cy ls X ⟨rp, Y.2.1.put z1 oq (by show z < z + a; have := ha.1; omega), Y.2.2.1, Y.2.2.2.1, Y.2.2.2.2⟩
/-- rows in a row -/
def T2 (T : SH) (n N K : Nat) : SH := (fun x => if x = n + 1 then 13 else if n + 1 < x ∧ x ≤ n + 1 + N then 10 else T.1 x, fun x => if x = n + 1 then N else if n + 1 < x ∧ x ≤ n + 1 + N then K else T.2.1 x, n + 1 + N)
def fa2 (A : MI) (n N : Nat) : MI := fun x j => if n + 1 < x ∧ x ≤ n + 1 + N then 0 else A x j
def fb2 (B : MN) (n N : Nat) : MN := fun x j => if x = n + 1 then (if j < N then n + 2 + j else 0) else B x j
theorem At.up2 {a ci n N K : Nat} (h : At T a ci) (hn : T.2.2 = n) : At (T2 T n N K) a ci := by
  obtain ⟨h1, h2, h3⟩ := h
  refine ⟨h1, by show a ≤ n + 1 + N; omega, ?_⟩
  show (if a = n + 1 then 13 else if n + 1 < a ∧ a ≤ n + 1 + N then 10 else T.1 a) = ci
  rw [if_neg (by omega), if_neg (by omega)]; exact h3
theorem outer_row (cA : ClassId) (N h : Nat) : ∀ i, Multi.outerC cA N h i = arrV cA N (fun j => if j < i then .ref (h + 1 + j) else .null)
  | 0 => by
    simp only [Multi.outerC]
    rw [arrV_new]
    congr 1
  | i + 1 => by
    simp only [Multi.outerC]
    rw [outer_row cA N h i, arrV_store]
    congr 1
    funext j
    by_cases q : j = i
    · subst q
      simp [updV]
    · rw [show (if j < i + 1 then Value.ref (h + 1 + j) else .null) = (if j < i then Value.ref (h + 1 + j) else .null) by
        by_cases y : j < i
        · rw [if_pos y, if_pos (by omega)]
        · rw [if_neg y, if_neg (by omega)]]
      simp [updV, q]
theorem W_multi {p : Program} {e : Env} {R : Room} {s : State} {m : MethodId} {args : Array Value} {below : List Frame} {meth : Method} {c : Code} {H : Heap} {locs : List Loc} {cells slots : Nat} {Q : State → Prop} {cc : ByteArray} {ls : Array Slot} {rest : List Value} (hexec : p.tables.exec = Jvm.exec) (hb : c.code = cc) {own : String} {idx : Nat} (hown : s.vm.findClass own = some m.cls) (hlk : (Cond.classLink own idx "[[I").before args s = true) (hov : (Cond.arrayOver (.array .int)).before args s = true) (hac : (Cond.arrayClass .int).before args s = true) (hd : decode cc pc = .ok (.multianewarray idx 2, 4)) {x y : Int32} {N K : Nat} (hx : ¬ x < 0) (hy : ¬ y < 0) (hN : x.toNatClampNeg = N) (hK : y.toNatClampNeg = K) (hb1 : N ≤ 1000) (hb2 : K ≤ 1000) (hcells : cells + (1 + N) ≤ R.cells) (hslots : slots + (N + N * K) ≤ R.slots)
    (kk : ∀ (H1 : Heap) (cA comp : ClassId), s.vm.findClass "[[I" = some cA → s.vm.findClass "[I" = some comp → H1.size = H.size + 1 + N → H1[H.size]? = some (arrV cA N (fun j => if j < N then .ref (H.size + 1 + j) else .null)) → (∀ j, j < N → H1[H.size + 1 + j]? = some (arrV comp K (fun _ => .int 0))) → (∀ q, q < H.size → H1[q]? = H[q]?) → W p l e R s m args below meth c H1 locs (cells + 1 + N) (slots + N + N * K) Q (F0 m (pc + 4) ls (.ref H.size :: rest))) : W p l e R s m args below meth c H locs cells slots Q (F0 m pc ls (.int y :: .int x :: rest)) := by
  subst hN
  subst hK
  intro U hU X
  obtain ⟨vm1, cA, comp, b1, b2, b3, b4, b5, b6, b7⟩ := X.multianewarray2F (ty := .int) hexec hown hlk hov hac (g := F0 m pc ls (.int y :: .int x :: rest)) rfl (by rw [hb]; exact hd) (n := x) (k := y) rfl hx hy (by omega) (by show _ * 4 ≤ _; omega) (by omega) rfl rfl hcells hslots
  have hU1 : (U.setVm vm1).heap = H := hU
  obtain ⟨f1, f2, f3, f4⟩ := Multi.fill_facts (U.setVm vm1) cA comp x.toNatClampNeg y.toNatClampNeg (defaultValue .int) x.toNatClampNeg
  have fi := Multi.fill_inner (U.setVm vm1) cA comp x.toNatClampNeg y.toNatClampNeg (defaultValue .int) x.toNatClampNeg
  have fo := fun (a : Nat) h => Multi.fill_old (U.setVm vm1) cA comp x.toNatClampNeg y.toNatClampNeg (defaultValue .int) (a := a) h x.toNatClampNeg
  rw [hU1] at f1 f2 fi fo
  have eo := outer_row cA x.toNatClampNeg H.size x.toNatClampNeg
  have ei : Multi.innerC comp y.toNatClampNeg (defaultValue .int) = arrV comp y.toNatClampNeg (fun _ => .int 0) := by
    unfold Multi.innerC
    rw [← arrV_new]
    rfl
  rw [eo] at f2
  obtain ⟨t, a1, c1⟩ := kk _ cA comp b2 b3 f1 f2 (fun j hj => by rw [fi j hj, ei]) fo _ rfl b6
  refine ⟨t, b7 t ?_, c1⟩
  rw [hU] 
  exact a1
theorem z_multi {n N K idx : Nat} {x y : Int32} (hd : decode M.2.1 pc = .ok (.multianewarray idx 2, 4)) (hlk : Cond.classLink M.1.cls idx "[[I" ∈ lw_g) (hx : ¬ x < 0) (hy : ¬ y < 0) (hN : x.toNatClampNeg = N) (hK : y.toNatClampNeg = K) (hb1 : N ≤ 1000) (hb2 : K ≤ 1000) (hn : T.2.2 = n)
    (kk : Z l M L ac az rc rs Q (pc + 4) lv (.ref (n + 1) :: st) (T2 T n N K) F G (fa2 A n N) (fb2 B n N)) : Z l M L ac az (rc + (1 + N)) (rs + (N + N * K)) Q pc lv (.int y :: .int x :: st) T F G A B := by
  intro p e R s m args below meth c H locs cells slots z b D cy ls X Y
  have hts := X.2.2.2.2.1
  have hKK := X.2.2.2.2.2.2.2.2.2.1
  have X2 := X.2.2.2.2.2.2.2.2.2.2.2.2.1
  have X3 := X.2.2.2.2.2.2.2.2.2.2.2.2.2.1
  have hNW := X.2.2.2.2.2.2.2.2.2.2.2.2.2.2
  obtain ⟨Y1, Y2, Y3, Y4, Y5⟩ := Y
  have hH : H.size = z + n + 1 := by rw [Y1.1, hn]
  refine W_multi (own := M.1.cls) X.1 X.2.1 X.2.2.2.1 (hts _ hlk) (over_use (hNW.2 _ (by decide))) (hts _ ac_int) hd hx hy hN hK hb1 hb2 (by omega) (by omega) fun H1 cA comp f1 f2 z1 e1 e2 o1 => ?_
  have hc : cA = cy 13 := Option.some.inj (f1.symm.trans (hKK.2 4 _ rfl).2)
  have hi : comp = cy 10 := Option.some.inj (f2.symm.trans (hKK.2 1 _ rfl).2)
  rw [hH] at z1 e1 e2 o1
  have rp : RP z cy D (T2 T n N K) F G (fa2 A n N) (fb2 B n N) H1 := by
    refine ⟨by show H1.size = z + (n + 1 + N) + 1; omega, fun a h1 h2 => ?_⟩
    have h2' : a ≤ n + 1 + N := h2
    show cOk z cy D (T2 T n N K).2.1 F G (fa2 A n N) (fb2 B n N) H1 a (if a = n + 1 then 13 else if n + 1 < a ∧ a ≤ n + 1 + N then 10 else T.1 a)
    by_cases q : a = n + 1
    · rw [if_pos q, q]
      unfold cOk
      rw [if_neg (by decide), if_neg (by decide)]
      show H1[z + (n + 1)]? = some (arrV (cy 13) (if n + 1 = n + 1 then N else _) (fun j => va_rf (ro z (if n + 1 = n + 1 then (if j < N then n + 2 + j else 0) else B (n + 1) j))))
      simp only [if_pos]
      have e1' : H1[z + (n + 1)]? = some (arrV cA N (fun j => if j < N then .ref (z + n + 1 + 1 + j) else .null)) := e1
      rw [e1', hc]
      congr 2
      funext j
      by_cases y : j < N
      · rw [if_pos y, if_pos y, ro_ne (by omega), show z + n + 1 + 1 + j = z + (n + 2 + j) by omega]
      · rw [if_neg y, if_neg y, ro_0]
    · rw [if_neg q]
      by_cases y : n + 1 < a ∧ a ≤ n + 1 + N
      · rw [if_pos y]
        unfold cOk
        rw [if_neg (by decide), if_pos (by decide)]
        show H1[z + a]? = some (arrV (cy 10) (if a = n + 1 then N else if n + 1 < a ∧ a ≤ n + 1 + N then K else T.2.1 a) (fun j => .int (if n + 1 < a ∧ a ≤ n + 1 + N then 0 else A a j)))
        simp only [if_neg q, if_pos y]
        have := e2 (a - (n + 2)) (by omega)
        rw [show z + n + 1 + 1 + (a - (n + 2)) = z + a by omega] at this
        rw [this, hi]
      · rw [if_neg y]
        exact cOk_kept (cOk_mem (h := Y1.2 a h1 (by omega)) (show (if a = n + 1 then N else if n + 1 < a ∧ a ≤ n + 1 + N then K else T.2.1 a) = T.2.1 a by rw [if_neg q, if_neg y]) (fun _ => rfl) (fun _ => rfl) (fun j => if_neg y) (fun j => if_neg q)) (o1 _ (by omega))
  rw [hH]
  exact kk p e R s m args below meth c H1 locs (cells + 1 + N) (slots + N + N * K) z b D cy ls X ⟨rp, ⟨by have := Y2.1; omega, fun q a1 a2 => (o1 q (by have := Y2.1; omega)).trans (Y2.2.1 q a1 a2), Y2.2.2⟩, by omega, by omega, Y5⟩
end ALLOC
