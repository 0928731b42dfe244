/-- the words that a callee may take over, of the tables' -/
def lw_g : List Cond := lw_tbl.filter goodWord
theorem lw_gm {w : Cond} (h : w ∈ lw_tbl) (hg : goodWord w = true) : w ∈ lw_g := List.mem_filter.mpr ⟨h, hg⟩
theorem lw_good : GoodIn lw_g lw_g := fun _ hw => ⟨hw, good_of_word (List.mem_filter.mp hw).2⟩
/-- the words that go along with the state: links by the nest, arrays over a type -/
def nestL : List (String × Nat × MethodName) := [(RX7, 9, yX5_init), (RX7, 34, yX2_init), (RX7, 41, yX6_init), (RX7, 48, yX3_init), (RX5, 29, yX7_isBelow), (RX3, 88, yX7_isBelow)]
def overL : List FieldType := [.object RX0, .object RX4, .array .int]
def NW (U : State) : Prop := (∀ q ∈ nestL, va_Nw (.methodLinkNest q.1 q.2.1 q.2.2 RX7) U) ∧ ∀ ty ∈ overL, va_Nw (.arrayOver ty) U
theorem over_vm {ty : FieldType} {u U : State} (h : u.vm = U.vm) (hZ : va_Nw (.arrayOver ty) u) : va_Nw (.arrayOver ty) U := by
  unfold va_Nw at hZ ⊢
  simp only [Cond.before, Cond.holds, Cond.value] at hZ ⊢
  rw [← h]
  exact hZ
theorem NW.warm {s U : State} (hW : s.WarmedH U.vm) (h : NW s) : NW U := ⟨fun q hq => va_Nw.warmM hW (h.1 q hq), fun ty hty => over_vm (rfl : (s.setVm U.vm).vm = U.vm) (by unfold va_Nw; rw [Cond.arrayOver_setVmC hW.alike]; exact h.2 ty hty)⟩
theorem NW.same {u U : State} (h : u.vm = U.vm) (hN : NW u) : NW U := ⟨fun q hq => va_Nw.same rfl h (hN.1 q hq), fun ty hty => over_vm h (hN.2 ty hty)⟩
/-! The memory: virtual cells 1 .. n (cell a lies at z + a), of kinds 0 .. 8 (objects of the nine own classes), 9 byte rows, 10 int rows, 11, 12, 13 rows of references. F: int fields by code (40 * kind + slot) and cell; G: reference fields (0: null); A: int and byte rows by cell and index; B: reference rows. -/
def u2 {α : Type} (f : Nat → Nat → α) (i j : Nat) (v : α) : Nat → Nat → α := fun a b => if a = i then (if b = j then v else f a b) else f a b
theorem u2_s {α : Type} {f : Nat → Nat → α} {i j : Nat} {v : α} : u2 f i j v i j = v := by simp [u2]
theorem u2_n1 {α : Type} {f : Nat → Nat → α} {i j a b : Nat} {v : α} (h : a ≠ i) : u2 f i j v a b = f a b := by simp [u2, h]
theorem u2_n2 {α : Type} {f : Nat → Nat → α} {i j a b : Nat} {v : α} (h : b ≠ j) : u2 f i j v a b = f a b := by simp [u2, h]
abbrev SH : Type := (Nat → Nat) × (Nat → Nat) × Nat
abbrev MI : Type := Nat → Nat → Int32
abbrev MN : Type := Nat → Nat → Nat
abbrev MD : Type := MethodName × ByteArray × Nat × Option FieldType
abbrev PQ : Type := Option Value → SH → MI → MN → MI → MN → Prop
def ro (z n : Nat) : Option Nat := if n = 0 then none else some (z + n)
def tr (z b : Nat) : Value → Value
  | .int x => .int x
  | .ref a => .ref (z + a)
  | .long _ => .ref b
  | _ => .null
def tq (z b : Nat) (q : Nat × Value) : Nat × Value := (q.1, tr z b q.2)
theorem tr_cat (z b : Nat) (v : Value) : (tr z b v).category = 1 := by cases v <;> rfl
theorem ro_ne {z n : Nat} (h : n ≠ 0) : va_rf (ro z n) = .ref (z + n) := by simp [ro, h, va_rf]
theorem ro_0 {z : Nat} : va_rf (ro z 0) = .null := by simp [ro, va_rf]
def refT : List (List Bool) := [[false, false, false, false, true], [true, true, false], [true, true, false, true, true, true], [false], [false, false, false, true, true, true, true, false, true], [true, false, false, false], [true, true, true, true], [true, true, true, true, true, true, true, true, false, false], [true, false, false, false, true, true, true, true, true, true, true, true, false, true, true, true, true, true, true, true, true, false, false, false, false, false, true, true, true, true, false, true, true, true]]
def isR (ci k : Nat) : Bool := (refT.getD ci []).getD k false
def cN (ci : Nat) : Nat := ([5, 3, 6, 1, 9, 4, 4, 10, 34] : List Nat).getD ci 0
def fv (z : Nat) (F : MI) (G : MN) (a ci k : Nat) : Value := if isR ci k = true then va_rf (ro z (G (40 * ci + k) a)) else .int (F (40 * ci + k) a)
def cOk (z : Nat) (cy : Nat → ClassId) (D : va_G) (N : Nat → Nat) (F : MI) (G : MN) (A : MI) (B : MN) (H : Heap) (a ci : Nat) : Prop :=
  if ci < 9 then t_OB (z + a) (D.1 ci) (cN ci) (D.2 ci) H (fv z F G a ci)
  else if ci < 11 then H[z + a]? = some (arrV (cy ci) (N a) (fun j => .int (A a j)))
  else H[z + a]? = some (arrV (cy ci) (N a) (fun j => va_rf (ro z (B a j))))
def RP (z : Nat) (cy : Nat → ClassId) (D : va_G) (T : SH) (F : MI) (G : MN) (A : MI) (B : MN) (H : Heap) : Prop :=
  H.size = z + T.2.2 + 1 ∧ ∀ a, 1 ≤ a → a ≤ T.2.2 → cOk z cy D T.2.1 F G A B H a (T.1 a)
def At (T : SH) (a ci : Nat) : Prop := 1 ≤ a ∧ a ≤ T.2.2 ∧ T.1 a = ci
def tyL (cy : Nat → ClassId) : List (ClassId × FieldType) := [(cy 9, .byte), (cy 10, .int), (cy 11, .object RX0), (cy 12, .object RX4), (cy 13, .array .int)]
def ClsOk (ci : Nat) (C : String) (TT : u_T) (N : Nat) (ty : Nat → FieldType) : Prop :=
  vwCl[ci]? = some (C, TT, N) ∧ ci < 9 ∧ N = cN ci ∧ (∀ w ∈ u_ws C TT N, w ∈ lw_g) ∧ (∀ k, k < N → parseFieldDescriptor (TT k).2.2.1 = some (ty k)) ∧ (∀ a, a < N → ∀ b, b < N → a ≠ b → (TT a).2.1 ≠ (TT b).2.1) ∧
  (∀ k, k < N → (isR ci k = false ∧ ty k = .int) ∨ (isR ci k = true ∧ (ty k).isReference = true))
theorem cOk_kept {z : Nat} {cy : Nat → ClassId} {D : va_G} {N : Nat → Nat} {F : MI} {G : MN} {A : MI} {B : MN} {H H1 : Heap} {a ci : Nat} (h : cOk z cy D N F G A B H a ci) (h1 : H1[z + a]? = H[z + a]?) : cOk z cy D N F G A B H1 a ci := by
  unfold cOk at h ⊢
  split
  · rename_i hc
    rw [if_pos hc] at h
    exact h.kept h1
  · rename_i hc
    rw [if_neg hc] at h
    rw [h1]
    exact h
theorem cOk_mem {z : Nat} {cy : Nat → ClassId} {D : va_G} {N N' : Nat → Nat} {F F' : MI} {G G' : MN} {A A' : MI} {B B' : MN} {H : Heap} {a ci : Nat} (h : cOk z cy D N F G A B H a ci) (hN : N' a = N a) (hF : ∀ k, F' k a = F k a) (hG : ∀ k, G' k a = G k a) (hA : ∀ j, A' a j = A a j) (hB : ∀ j, B' a j = B a j) : cOk z cy D N' F' G' A' B' H a ci := by
  have e1 : fv z F' G' a ci = fv z F G a ci := by funext k; simp [fv, hF, hG]
  have e2 : (fun j => Value.int (A' a j)) = (fun j => Value.int (A a j)) := by funext j; rw [hA]
  have e3 : (fun j => va_rf (ro z (B' a j))) = (fun j => va_rf (ro z (B a j))) := by funext j; rw [hB]
  unfold cOk at h ⊢
  rw [e1, e2, e3, hN]
  exact h
/-- one cell's words and contents change, all else stays -/
theorem RP.put {z : Nat} {cy : Nat → ClassId} {D : va_G} {T : SH} {F F' : MI} {G G' : MN} {A A' : MI} {B B' : MN} {H H1 : Heap} {a : Nat} (h : RP z cy D T F G A B H) (hz : H1.size = H.size) (oq : ∀ q, q ≠ z + a → H1[q]? = H[q]?)
    (hF : ∀ k x, x ≠ a → F' k x = F k x) (hG : ∀ k x, x ≠ a → G' k x = G k x) (hA : ∀ j x, x ≠ a → A' x j = A x j) (hB : ∀ j x, x ≠ a → B' x j = B x j) (ha : cOk z cy D T.2.1 F' G' A' B' H1 a (T.1 a)) : RP z cy D T F' G' A' B' H1 := by
  refine ⟨hz.trans h.1, fun x h1 h2 => ?_⟩
  by_cases e : x = a
  · subst e
    exact ha
  · exact cOk_kept (cOk_mem (h.2 x h1 h2) rfl (fun k => hF k x e) (fun k => hG k x e) (fun j => hA j x e) (fun j => hB j x e)) (oq _ (by omega))
def QC (z b : Nat) (cy : Nat → ClassId) (D : va_G) (Q : PQ) : Array Value → State → Outcome → State → Prop := fun _ st o t =>
  (∃ (v : Option Value) (T : SH) (F : MI) (G : MN) (A : MI) (B : MN), o = .returned (v.map (tr z b)) ∧ Q v T F G A B ∧ RP z cy D T F G A B t.heap) ∧ va_F (fun q => z < q) st t
def rmL (L ac az : Nat) : Room := { frames := L, cells := ac, slots := az, locals := 64 * L }
/-- what stands in a method's body -/
def ZC (M : MD) (L ac az : Nat) (p : Program) (R : Room) (s : State) (m : MethodId) (args : Array Value) (meth : Method) (c : Code) (z : Nat) (D : va_G) (cy : Nat → ClassId) : Prop :=
  p.tables.exec = Jvm.exec ∧ c.code = M.2.1 ∧ c.maxLocals = M.2.2.1 ∧ s.vm.findClass M.1.cls = some m.cls ∧ (∀ w ∈ lw_g, w.before args s = true) ∧ meth.locks = false ∧ meth.sig.returnType = M.2.2.2 ∧ meth.name = M.1.name ∧ z < s.heap.size ∧ va_K D vwCl (tyL cy) s ∧ L ≤ R.frames ∧ 64 * L ≤ R.locals ∧ ac ≤ R.cells ∧ az ≤ R.slots ∧ NW s
def ZH (M : MD) (ac az rc rs : Nat) (lv : List (Nat × Value)) (T : SH) (F : MI) (G : MN) (A : MI) (B : MN) (s : State) (H : Heap) (locs : List Loc) (cells slots z b : Nat) (D : va_G) (cy : Nat → ClassId) (ls : Array Slot) : Prop :=
  RP z cy D T F G A B H ∧ va_S (fun q => z < q) s.heap H locs ∧ cells + rc ≤ ac ∧ slots + rs ≤ az ∧ lv_has ls M.2.2.1 (lv.map (tq z b))
/-- method M, at pc, with the locals lv and the stack st, in the memory T F G A B, comes to its end with Q; L: frames below it; rc, rs: what it may still make, ac, az: what it may make in all -/
def Z (l : Launch) (M : MD) (L ac az rc rs : Nat) (Q : PQ) (pc : Nat) (lv : List (Nat × Value)) (st : List Value) (T : SH) (F : MI) (G : MN) (A : MI) (B : MN) : Prop :=
  ∀ (p : Program) (e : Env) (R : Room) (s : State) (m : MethodId) (args : Array Value) (below : List Frame) (meth : Method) (c : Code) (H : Heap) (locs : List Loc) (cells slots z b : Nat) (D : va_G) (cy : Nat → ClassId) (ls : Array Slot),
    ZC M L ac az p R s m args meth c z D cy → ZH M ac az rc rs lv T F G A B s H locs cells slots z b D cy ls →
    W p l e R s m args below meth c H locs cells slots (MQ below (QC z b cy D Q) args s ac az (fun q => z < q)) (F0 m pc ls (st.map (tr z b)))
/-- the contract of M at these arguments, in this memory -/
def Cn (l : Launch) (M : MD) (L ac az : Nat) (av : List Value) (T : SH) (F : MI) (G : MN) (A : MI) (B : MN) (Q : PQ) : Prop :=
  ∀ (z b : Nat) (cy : Nat → ClassId) (D : va_G), Met l M.1 (.code M.1 M.2.1 M.2.2.1 M.2.2.2 :: lw_g) (rmL L ac az) (va_Pc (av.map (tr z b)) (fun U => z < U.heap.size ∧ RP z cy D T F G A B U.heap ∧ va_K D vwCl (tyL cy) U ∧ NW U)) (QC z b cy D Q) ac az (fun q => z < q)
theorem lv_mono {ls : Array Slot} {n : Nat} {l l' : List (Nat × Value)} (h : lv_has ls n l) (hs : ∀ q ∈ l', q ∈ l) : lv_has ls n l' := ⟨h.1, h.2.1, fun q hq => h.2.2 q (hs q hq)⟩
/-- the locals, by number; one of them set -/
def lins (i : Nat) (v : Value) : List (Nat × Value) → List (Nat × Value)
  | [] => [(i, v)]
  | q :: r => if i < q.1 then (i, v) :: q :: r else q :: lins i v r
def lset (lv : List (Nat × Value)) (i : Nat) (v : Value) : List (Nat × Value) := lins i v (lv.filter (fun q => !(q.1 == i)))
theorem lins_mem {i : Nat} {v : Value} {q : Nat × Value} : ∀ {lv : List (Nat × Value)}, q ∈ lins i v lv → q = (i, v) ∨ q ∈ lv
  | [], h => Or.inl (List.mem_singleton.mp h)
  | x :: r, h => by
    unfold lins at h
    split at h
    · rcases List.mem_cons.mp h with h | h
      · exact Or.inl h
      · exact Or.inr h
    · rcases List.mem_cons.mp h with h | h
      · exact Or.inr (by rw [h]; exact List.mem_cons_self)
      · rcases lins_mem h with h | h
        · exact Or.inl h
        · exact Or.inr (List.mem_cons_of_mem _ h)
theorem lset_has {ls : Array Slot} {n z b i : Nat} {lv : List (Nat × Value)} {v : Value} (h : lv_has ls n ((i, tr z b v) :: (lv.map (tq z b)).filter (fun q => !(q.1 == i) && !(q.1 + 1 == i && q.2.category == 2)))) : lv_has ls n ((lset lv i v).map (tq z b)) := by
  refine lv_mono h (fun q hq => ?_)
  obtain ⟨x, hx, rfl⟩ := List.mem_map.mp hq
  rcases lins_mem hx with rfl | hx
  · exact List.mem_cons_self
  · obtain ⟨h1, h2⟩ := List.mem_filter.mp hx
    refine List.mem_cons_of_mem _ (List.mem_filter.mpr ⟨List.mem_map.mpr ⟨x, h1, rfl⟩, ?_⟩)
    have : (tr z b x.2).category = 1 := tr_cat z b x.2
    simp only [Bool.not_eq_true', beq_eq_false_iff_ne] at h2
    simp [this, tq, h2]
theorem lget {ls : Array Slot} {n z b k i : Nat} {lv : List (Nat × Value)} {v : Value} (h : lv_has ls n (lv.map (tq z b))) (hk : lv[k]? = some (i, v)) : ls[i]? = some (.val (tr z b v)) :=
  lv_at h k (i := i) (v := tr z b v) (by rw [List.getElem?_map, hk]; rfl)
