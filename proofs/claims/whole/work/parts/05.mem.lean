section MEM
variable {l : Launch} {M : MD} {L ac az rc rs : Nat} {Q : PQ} {pc : Nat} {lv : List (Nat × Value)} {st : List Value} {T : SH} {F : MI} {G : MN} {A : MI} {B : MN}
theorem RP.obj {z : Nat} {cy : Nat → ClassId} {D : va_G} {H : Heap} {a ci : Nat} (h : RP z cy D T F G A B H) (ha : At T a ci) (hc : ci < 9) : t_OB (z + a) (D.1 ci) (cN ci) (D.2 ci) H (fv z F G a ci) := by
  have h1 := h.2 a ha.1 ha.2.1
  rw [ha.2.2] at h1
  unfold cOk at h1
  rw [if_pos hc] at h1
  exact h1
theorem RP.ints {z : Nat} {cy : Nat → ClassId} {D : va_G} {H : Heap} {a ci : Nat} (h : RP z cy D T F G A B H) (ha : At T a ci) (hc : ¬ ci < 9) (hc2 : ci < 11) : H[z + a]? = some (arrV (cy ci) (T.2.1 a) (fun j => .int (A a j))) := by
  have h1 := h.2 a ha.1 ha.2.1
  rw [ha.2.2] at h1
  unfold cOk at h1
  rw [if_neg hc, if_pos hc2] at h1
  exact h1
theorem RP.refs {z : Nat} {cy : Nat → ClassId} {D : va_G} {H : Heap} {a ci : Nat} (h : RP z cy D T F G A B H) (ha : At T a ci) (hc : ¬ ci < 11) : H[z + a]? = some (arrV (cy ci) (T.2.1 a) (fun j => va_rf (ro z (B a j)))) := by
  have h1 := h.2 a ha.1 ha.2.1
  rw [ha.2.2] at h1
  unfold cOk at h1
  rw [if_neg (by omega), if_neg hc] at h1
  exact h1
/-- getfield, the value as the memory's word has it -/
theorem z_getv {ci k a idx : Nat} {C : String} {TT : u_T} {N : Nat} {ty : Nat → FieldType} {v : Value} (hd : decode M.2.1 pc = .ok (.getfield idx, 3)) (hcl : ClsOk ci C TT N ty) (hk : k < N) (hm : Cond.fieldLink M.1.cls idx (TT k).1 (TT k).2.1 (TT k).2.2.1 ∈ lw_g) (ha : At T a ci) (hv : ∀ z b, fv z F G a ci k = tr z b v)
    (kk : Z l M L ac az rc rs Q (pc + 3) lv (v :: st) T F G A B) : Z l M L ac az rc rs Q pc lv (.ref a :: st) T F G A B := by
  intro p e R s m args below meth c H locs cells slots z b D cy ls X Y
  obtain ⟨hc, h9, hN, hin, hty, hnm, hrf⟩ := hcl
  have hts := X.2.2.2.2.1
  obtain ⟨cell, q1, q2, q3, q4⟩ := Y.1.obj ha h9
  obtain ⟨hS, hfc, kC, hkC, hkind⟩ := X.2.2.2.2.2.2.2.2.2.1.1 ci _ hc
  obtain ⟨cf, kf, fi, f, hi, hsl⟩ := hS k hk
  refine W.getf X.1 X.2.1 X.2.2.2.1 (hts _ hm) hi (u_facts hfc hkC (u_lays hts hin hk) hi).1 q1 (by rw [q3]; exact fun h => by cases h) (v := tr z b v) ?_ rfl rfl hd (kk p e R s m args below meth c H locs cells slots z b D cy ls X Y)
  rw [hsl, q4 k (by rw [← hN]; exact hk), hv z b]
theorem z_geti {ci k a fc idx : Nat} {C : String} {TT : u_T} {N : Nat} {ty : Nat → FieldType} (hd : decode M.2.1 pc = .ok (.getfield idx, 3)) (hcl : ClsOk ci C TT N ty) (hk : k < N) (hm : Cond.fieldLink M.1.cls idx (TT k).1 (TT k).2.1 (TT k).2.2.1 ∈ lw_g) (hr : isR ci k = false) (hfc : 40 * ci + k = fc) (ha : At T a ci)
    (kk : Z l M L ac az rc rs Q (pc + 3) lv (.int (F fc a) :: st) T F G A B) : Z l M L ac az rc rs Q pc lv (.ref a :: st) T F G A B :=
  z_getv hd hcl hk hm ha (v := .int (F fc a)) (fun z b => by subst hfc; simp [fv, hr, tr]) kk
theorem z_getr {ci k a fc idx : Nat} {C : String} {TT : u_T} {N : Nat} {ty : Nat → FieldType} {r : Nat} (hd : decode M.2.1 pc = .ok (.getfield idx, 3)) (hcl : ClsOk ci C TT N ty) (hk : k < N) (hm : Cond.fieldLink M.1.cls idx (TT k).1 (TT k).2.1 (TT k).2.2.1 ∈ lw_g) (hr : isR ci k = true) (hfc : 40 * ci + k = fc) (ha : At T a ci) (hg : G fc a = r) (h0 : r ≠ 0)
    (kk : Z l M L ac az rc rs Q (pc + 3) lv (.ref r :: st) T F G A B) : Z l M L ac az rc rs Q pc lv (.ref a :: st) T F G A B :=
  z_getv hd hcl hk hm ha (v := .ref r) (fun z b => by subst hfc; simp [fv, hr, tr, hg, ro_ne h0]) kk
/-- a field's word changes: the cell behind it -/
theorem RP.field {z : Nat} {cy : Nat → ClassId} {D : va_G} {H H1 : Heap} {a ci k i : Nat} {v : Value} {F' : MI} {G' : MN} {cell : Cell} (h : RP z cy D T F G A B H) (ha : At T a ci) (h9 : ci < 9) (hk : k < cN ci) (hap : ∀ x y, x < cN ci → y < cN ci → x ≠ y → D.2 ci x ≠ D.2 ci y)
    (q2 : cell.cls = D.1 ci) (q3 : cell.vm = .none) (q4 : ∀ k, k < cN ci → cell.slots[D.2 ci k]? = some (fv z F G a ci k)) (hi : i = D.2 ci k) (e1 : H1[z + a]? = some (cell.setSlot i v)) (hz : H1.size = H.size) (oq : ∀ q, q ≠ z + a → H1[q]? = H[q]?)
    (hF : ∀ k x, x ≠ a → F' k x = F k x) (hG : ∀ k x, x ≠ a → G' k x = G k x) (hv : ∀ j, j < cN ci → fv z F' G' a ci j = if j = k then v else fv z F G a ci j) : RP z cy D T F' G' A B H1 := by
  refine h.put hz oq hF hG (fun _ _ _ => rfl) (fun _ _ _ => rfl) ?_
  rw [ha.2.2]
  unfold cOk
  rw [if_pos h9]
  subst hi
  exact t_OB.to (V := updV (fv z F G a ci) k v) ⟨_, e1, q2, q3, t_set q4 hap hk v⟩ (fun j hj => (hv j hj).symm)
theorem z_putv {ci k a idx : Nat} {C : String} {TT : u_T} {N : Nat} {ty : Nat → FieldType} {v : Value} {F' : MI} {G' : MN} (hd : decode M.2.1 pc = .ok (.putfield idx, 3)) (hcl : ClsOk ci C TT N ty) (hk : k < N) (hm : Cond.fieldLink M.1.cls idx (TT k).1 (TT k).2.1 (TT k).2.2.1 ∈ lw_g) (hfin : (TT k).2.2.2 = false) (ha : At T a ci)
    (hn : ∀ z b, narrow (ty k) (tr z b v) = tr z b v) (hfit : ∀ z b, fits (ty k) (tr z b v) = true) (hF : ∀ k x, x ≠ a → F' k x = F k x) (hG : ∀ k x, x ≠ a → G' k x = G k x) (hv : ∀ z b j, j < cN ci → fv z F' G' a ci j = if j = k then tr z b v else fv z F G a ci j)
    (kk : Z l M L ac az rc rs Q (pc + 3) lv st T F' G' A B) : Z l M L ac az rc rs Q pc lv (v :: .ref a :: st) T F G A B := by
  intro p e R s m args below meth c H locs cells slots z b D cy ls X Y
  obtain ⟨hc, h9, hN, hin, hty, hnm, hrf⟩ := hcl
  have hts := X.2.2.2.2.1
  have hK := X.2.2.2.2.2.2.2.2.2.1
  have hap := va_apart (own := M.1.cls) hts hin ty hty hnm hK hc
  obtain ⟨cell, q1, q2, q3, q4⟩ := Y.1.obj ha h9
  obtain ⟨hS, hfc, kC, hkC, hkind⟩ := hK.1 ci _ hc
  obtain ⟨cf, kf, fi, f, hi, hsl⟩ := hS k hk
  have hlay := hts _ (hin _ (u_in_lay hk))
  unfold u_lay at hlay
  rw [if_neg (by rw [hfin]; decide)] at hlay
  have hst := (u_facts hfc hkC (u_lays hts hin hk) hi).1
  have h6 := u_store hfc hkC hkind hlay hi (hty k hk) (hn z b) (hfit z b)
  have hk2 : k < cN ci := by rw [← hN]; exact hk
  refine W.putK X.1 X.2.1 (f := f) ⟨X.2.2.2.1, hts _ hm, ⟨_, _, _, hi⟩, hst⟩ (by rw [q2]; exact h6) q1 q3 (by rw [hsl]; exact k2_hasslot (q4 k hk2)) rfl rfl hd fun H' e1 e2 e3 => ?_
  have hR := Y.1.field ha h9 hk2 (by rw [← hN]; exact hap) q2 q3 q4 hsl e1 e2 e3 hF hG (hv z b)
  exact kk p e R s m args below meth c H' _ cells slots z b D cy ls X ⟨hR, Y.2.1.put e2 e3 (by have := ha.1; omega), Y.2.2⟩
theorem z_putFv {ci k a idx : Nat} {C : String} {TT : u_T} {N : Nat} {ty : Nat → FieldType} {v : Value} {F' : MI} {G' : MN} (hd : decode M.2.1 pc = .ok (.putfield idx, 3)) (hcl : ClsOk ci C TT N ty) (hk : k < N) (hm : Cond.fieldLink M.1.cls idx (TT k).1 (TT k).2.1 (TT k).2.2.1 ∈ lw_g) (hfin : (TT k).2.2.2 = true) (hini : M.1.name = "<init>") (hdecl : (TT k).1 = M.1.cls) (ha : At T a ci)
    (hn : ∀ z b, narrow (ty k) (tr z b v) = tr z b v) (hfit : ∀ z b, fits (ty k) (tr z b v) = true) (hF : ∀ k x, x ≠ a → F' k x = F k x) (hG : ∀ k x, x ≠ a → G' k x = G k x) (hv : ∀ z b j, j < cN ci → fv z F' G' a ci j = if j = k then tr z b v else fv z F G a ci j)
    (kk : Z l M L ac az rc rs Q (pc + 3) lv st T F' G' A B) : Z l M L ac az rc rs Q pc lv (v :: .ref a :: st) T F G A B := by
  intro p e R s m args below meth c H locs cells slots z b D cy ls X Y
  obtain ⟨hc, h9, hN, hin, hty, hnm, hrf⟩ := hcl
  have hts := X.2.2.2.2.1
  have hown := X.2.2.2.1
  have hK := X.2.2.2.2.2.2.2.2.2.1
  have hap := va_apart (own := M.1.cls) hts hin ty hty hnm hK hc
  obtain ⟨cell, q1, q2, q3, q4⟩ := Y.1.obj ha h9
  obtain ⟨hS, hfc, kC, hkC, hkind⟩ := hK.1 ci _ hc
  obtain ⟨cf, kf, fi, f, hi, hsl⟩ := hS k hk
  have hlay := hts _ (hin _ (u_in_lay hk))
  unfold u_lay at hlay
  rw [if_pos hfin] at hlay
  have hst := (u_facts hfc hkC (u_lays hts hin hk) hi).1
  have hcf : m.cls = cf := by
    obtain ⟨_, _, c', _, _, _, -, -, hf', -, -, -, hown2, -⟩ := Cond.laysFinal_spec hlay
    have e1 : c' = cf := by have := hi.symm.trans hf'; simp at this; exact this.1.symm
    rw [hdecl] at hown2
    rw [← e1]; exact Option.some.inj (hown.symm.trans hown2)
  have h6 := u_fits hfc hkC hkind (Or.inr hlay) hi (hty k hk) (hn z b) (hfit z b)
  have hk2 : k < cN ci := by rw [← hN]; exact hk
  refine W.putFinK X.1 X.2.1 hown (hts _ hm) hi hst hcf (X.2.2.2.2.2.2.2.1.trans hini) (by rw [q2]; exact h6) q1 q3 (by rw [hsl]; exact k2_hasslot (q4 k hk2)) rfl rfl hd fun H' e1 e2 e3 => ?_
  have hR := Y.1.field ha h9 hk2 (by rw [← hN]; exact hap) q2 q3 q4 hsl e1 e2 e3 hF hG (hv z b)
  exact kk p e R s m args below meth c H' _ cells slots z b D cy ls X ⟨hR, Y.2.1.put e2 e3 (by have := ha.1; omega), Y.2.2⟩
theorem fv_putF {ci k a fc : Nat} {x : Int32} (hr : isR ci k = false) (hfc : 40 * ci + k = fc) (z b j : Nat) : fv z (u2 F fc a x) G a ci j = if j = k then tr z b (.int x) else fv z F G a ci j := by
  subst hfc
  by_cases e : j = k
  · subst e
    simp [fv, hr, tr, u2]
  · have : ¬ (40 * ci + j = 40 * ci + k) := by omega
    simp [fv, e, u2]
theorem fv_putG {ci k a fc r : Nat} (hr : isR ci k = true) (hfc : 40 * ci + k = fc) (h0 : r ≠ 0) (z b j : Nat) : fv z F (u2 G fc a r) a ci j = if j = k then tr z b (.ref r) else fv z F G a ci j := by
  subst hfc
  by_cases e : j = k
  · subst e
    simp [fv, hr, tr, u2, ro_ne h0]
  · have : ¬ (40 * ci + j = 40 * ci + k) := by omega
    simp [fv, e, u2]
theorem cls_int {ci k : Nat} {C : String} {TT : u_T} {N : Nat} {ty : Nat → FieldType} (hcl : ClsOk ci C TT N ty) (hk : k < N) (hr : isR ci k = false) : ty k = .int := by
  rcases hcl.2.2.2.2.2.2 k hk with h | h
  · exact h.2
  · rw [hr] at h; exact absurd h.1 (by decide)
theorem cls_ref {ci k : Nat} {C : String} {TT : u_T} {N : Nat} {ty : Nat → FieldType} (hcl : ClsOk ci C TT N ty) (hk : k < N) (hr : isR ci k = true) (a : Nat) : narrow (ty k) (.ref a) = .ref a ∧ fits (ty k) (.ref a) = true := by
  rcases hcl.2.2.2.2.2.2 k hk with h | h
  · rw [hr] at h; exact absurd h.1 (by decide)
  · have h2 := h.2
    cases e : ty k <;> rw [e] at h2 <;> first | (exact absurd h2 (by decide)) | exact ⟨rfl, rfl⟩
theorem z_puti {ci k a fc idx : Nat} {C : String} {TT : u_T} {N : Nat} {ty : Nat → FieldType} {x : Int32} (hd : decode M.2.1 pc = .ok (.putfield idx, 3)) (hcl : ClsOk ci C TT N ty) (hk : k < N) (hm : Cond.fieldLink M.1.cls idx (TT k).1 (TT k).2.1 (TT k).2.2.1 ∈ lw_g) (hfin : (TT k).2.2.2 = false) (hr : isR ci k = false) (hfc : 40 * ci + k = fc) (ha : At T a ci)
    (kk : Z l M L ac az rc rs Q (pc + 3) lv st T (u2 F fc a x) G A B) : Z l M L ac az rc rs Q pc lv (.int x :: .ref a :: st) T F G A B :=
  z_putv hd hcl hk hm hfin ha (fun z b => by rw [cls_int hcl hk hr]; rfl) (fun z b => by rw [cls_int hcl hk hr]; rfl) (fun k y h => u2_n2 h) (fun _ _ _ => rfl) (fun z b j _ => fv_putF hr hfc z b j) kk
theorem z_putr {ci k a fc idx r : Nat} {C : String} {TT : u_T} {N : Nat} {ty : Nat → FieldType} (hd : decode M.2.1 pc = .ok (.putfield idx, 3)) (hcl : ClsOk ci C TT N ty) (hk : k < N) (hm : Cond.fieldLink M.1.cls idx (TT k).1 (TT k).2.1 (TT k).2.2.1 ∈ lw_g) (hfin : (TT k).2.2.2 = false) (hr : isR ci k = true) (hfc : 40 * ci + k = fc) (ha : At T a ci) (h0 : r ≠ 0)
    (kk : Z l M L ac az rc rs Q (pc + 3) lv st T F (u2 G fc a r) A B) : Z l M L ac az rc rs Q pc lv (.ref r :: .ref a :: st) T F G A B :=
  z_putv hd hcl hk hm hfin ha (fun z b => (cls_ref hcl hk hr _).1) (fun z b => (cls_ref hcl hk hr _).2) (fun _ _ _ => rfl) (fun k y h => u2_n2 h) (fun z b j _ => fv_putG hr hfc h0 z b j) kk
theorem z_putFi {ci k a fc idx : Nat} {C : String} {TT : u_T} {N : Nat} {ty : Nat → FieldType} {x : Int32} (hd : decode M.2.1 pc = .ok (.putfield idx, 3)) (hcl : ClsOk ci C TT N ty) (hk : k < N) (hm : Cond.fieldLink M.1.cls idx (TT k).1 (TT k).2.1 (TT k).2.2.1 ∈ lw_g) (hfin : (TT k).2.2.2 = true) (hini : M.1.name = "<init>") (hdecl : (TT k).1 = M.1.cls) (hr : isR ci k = false) (hfc : 40 * ci + k = fc) (ha : At T a ci)
    (kk : Z l M L ac az rc rs Q (pc + 3) lv st T (u2 F fc a x) G A B) : Z l M L ac az rc rs Q pc lv (.int x :: .ref a :: st) T F G A B :=
  z_putFv hd hcl hk hm hfin hini hdecl ha (fun z b => by rw [cls_int hcl hk hr]; rfl) (fun z b => by rw [cls_int hcl hk hr]; rfl) (fun k y h => u2_n2 h) (fun _ _ _ => rfl) (fun z b j _ => fv_putF hr hfc z b j) kk
theorem z_putFr {ci k a fc idx r : Nat} {C : String} {TT : u_T} {N : Nat} {ty : Nat → FieldType} (hd : decode M.2.1 pc = .ok (.putfield idx, 3)) (hcl : ClsOk ci C TT N ty) (hk : k < N) (hm : Cond.fieldLink M.1.cls idx (TT k).1 (TT k).2.1 (TT k).2.2.1 ∈ lw_g) (hfin : (TT k).2.2.2 = true) (hini : M.1.name = "<init>") (hdecl : (TT k).1 = M.1.cls) (hr : isR ci k = true) (hfc : 40 * ci + k = fc) (ha : At T a ci) (h0 : r ≠ 0)
    (kk : Z l M L ac az rc rs Q (pc + 3) lv st T F (u2 G fc a r) A B) : Z l M L ac az rc rs Q pc lv (.ref r :: .ref a :: st) T F G A B :=
  z_putFv hd hcl hk hm hfin hini hdecl ha (fun z b => (cls_ref hcl hk hr _).1) (fun z b => (cls_ref hcl hk hr _).2) (fun _ _ _ => rfl) (fun k y h => u2_n2 h) (fun z b j _ => fv_putG hr hfc h0 z b j) kk
/-- rows of numbers -/
theorem z_iald {a : Nat} {i : Int32} (hd : decode M.2.1 pc = .ok (.iaload, 1)) (ha : At T a 10) (hin : vp_in i (T.2.1 a)) (kk : Z l M L ac az rc rs Q (pc + 1) lv (.int (A a i.toNatClampNeg) :: st) T F G A B) : Z l M L ac az rc rs Q pc lv (.int i :: .ref a :: st) T F G A B := by
  intro p e R s m args below meth c H locs cells slots z b D cy ls X Y
  have hlt : i.toNatClampNeg < T.2.1 a := Nat.not_le.mp fun q => hin (Or.inr q)
  have hK := X.2.2.2.2.2.2.2.2.2.1
  exact W.iald (v := .int (A a i.toNatClampNeg)) X.1 X.2.1 (Y.1.ints ha (by decide) (by decide)) ((hK.2 1 (cy 10, .int) rfl).1 _ (fun j => .int (A a j))) (fun q => by cases q) (by rw [arrV_size]; exact hin) (by rw [arrV_read _ _ hlt]) rfl rfl hd (kk p e R s m args below meth c H locs cells slots z b D cy ls X Y)
theorem z_bald {a : Nat} {i : Int32} (hd : decode M.2.1 pc = .ok (.baload, 1)) (ha : At T a 9) (hin : vp_in i (T.2.1 a)) (kk : Z l M L ac az rc rs Q (pc + 1) lv (.int (A a i.toNatClampNeg) :: st) T F G A B) : Z l M L ac az rc rs Q pc lv (.int i :: .ref a :: st) T F G A B := by
  intro p e R s m args below meth c H locs cells slots z b D cy ls X Y
  have hlt : i.toNatClampNeg < T.2.1 a := Nat.not_le.mp fun q => hin (Or.inr q)
  have hK := X.2.2.2.2.2.2.2.2.2.1
  exact W.bald (v := .int (A a i.toNatClampNeg)) X.1 X.2.1 (Y.1.ints ha (by decide) (by decide)) ((hK.2 0 (cy 9, .byte) rfl).1 _ (fun j => .int (A a j))) (fun q => by cases q) (by rw [arrV_size]; exact hin) (by rw [arrV_read _ _ hlt]) rfl rfl hd (kk p e R s m args below meth c H locs cells slots z b D cy ls X Y)
theorem RP.row {z : Nat} {cy : Nat → ClassId} {D : va_G} {H H1 : Heap} {a ci j : Nat} {x : Int32} (h : RP z cy D T F G A B H) (ha : At T a ci) (hc : ¬ ci < 9) (hc2 : ci < 11) (e : H1[z + a]? = some ((arrV (cy ci) (T.2.1 a) (fun j => .int (A a j))).setSlot j (.int x))) (hz : H1.size = H.size) (oq : ∀ q, q ≠ z + a → H1[q]? = H[q]?) : RP z cy D T F G (u2 A a j x) B H1 := by
  refine h.put hz oq (fun _ _ _ => rfl) (fun _ _ _ => rfl) (fun _ _ h => u2_n1 h) (fun _ _ _ => rfl) ?_
  rw [ha.2.2]
  unfold cOk
  rw [if_neg hc, if_pos hc2, e, arrV_store]
  congr 2
  funext q
  by_cases hq : q = j
  · subst hq
    simp [updV, u2]
  · simp [updV, u2, hq]
theorem z_iast {a : Nat} {i x : Int32} (hd : decode M.2.1 pc = .ok (.iastore, 1)) (ha : At T a 10) (hin : vp_in i (T.2.1 a)) (kk : Z l M L ac az rc rs Q (pc + 1) lv st T F G (u2 A a i.toNatClampNeg x) B) : Z l M L ac az rc rs Q pc lv (.int x :: .int i :: .ref a :: st) T F G A B := by
  intro p e R s m args below meth c H locs cells slots z b D cy ls X Y
  have hK := X.2.2.2.2.2.2.2.2.2.1
  refine W.iast X.1 X.2.1 (Y.1.ints ha (by decide) (by decide)) ((hK.2 1 (cy 10, .int) rfl).1 _ (fun j => .int (A a j))) (fun q => by cases q) (by rw [arrV_size]; exact hin) rfl rfl hd fun H1 e1 hz oq => ?_
  exact kk p e R s m args below meth c H1 _ cells slots z b D cy ls X ⟨Y.1.row ha (by decide) (by decide) e1 hz oq, Y.2.1.put hz oq (by have := ha.1; omega), Y.2.2⟩
theorem z_bast {a : Nat} {i x : Int32} (hd : decode M.2.1 pc = .ok (.bastore, 1)) (ha : At T a 9) (hin : vp_in i (T.2.1 a)) (kk : Z l M L ac az rc rs Q (pc + 1) lv st T F G (u2 A a i.toNatClampNeg x.toInt8.toInt32) B) : Z l M L ac az rc rs Q pc lv (.int x :: .int i :: .ref a :: st) T F G A B := by
  intro p e R s m args below meth c H locs cells slots z b D cy ls X Y
  have hK := X.2.2.2.2.2.2.2.2.2.1
  refine W.bast X.1 X.2.1 (Y.1.ints ha (by decide) (by decide)) ((hK.2 0 (cy 9, .byte) rfl).1 _ (fun j => .int (A a j))) (fun q => by cases q) (by rw [arrV_size]; exact hin) rfl rfl hd fun H1 e1 hz oq => ?_
  exact kk p e R s m args below meth c H1 _ cells slots z b D cy ls X ⟨Y.1.row ha (by decide) (by decide) e1 hz oq, Y.2.1.put hz oq (by have := ha.1; omega), Y.2.2⟩
/-- rows of references -/
theorem z_aald {a r ci : Nat} {i : Int32} (hd : decode M.2.1 pc = .ok (.aaload, 1)) (ha : At T a ci) (hc : 11 ≤ ci ∧ ci ≤ 13) (hin : vp_in i (T.2.1 a)) (hb : B a i.toNatClampNeg = r) (h0 : r ≠ 0) (kk : Z l M L ac az rc rs Q (pc + 1) lv (.ref r :: st) T F G A B) : Z l M L ac az rc rs Q pc lv (.int i :: .ref a :: st) T F G A B := by
  intro p e R s m args below meth c H locs cells slots z b D cy ls X Y
  have hlt : i.toNatClampNeg < T.2.1 a := Nat.not_le.mp fun q => hin (Or.inr q)
  have hK := X.2.2.2.2.2.2.2.2.2.1
  have key : ∀ ty : FieldType, ArrOfT s (cy ci) ty → ty.isReference = true → W p l e R s m args below meth c H locs cells slots (MQ below (QC z b cy D Q) args s ac az (fun q => z < q)) (F0 m pc ls (.int i :: .ref (z + a) :: st.map (tr z b))) := fun ty h1 h2 =>
    W.aald (v := tr z b (.ref r)) (ty := ty) X.1 X.2.1 (Y.1.refs ha (by omega)) (h1 _ (fun j => va_rf (ro z (B a j)))) h2 (fun q => by cases q) (by rw [arrV_size]; exact hin) (by rw [arrV_read _ _ hlt, hb, ro_ne h0]; rfl) rfl rfl hd (kk p e R s m args below meth c H locs cells slots z b D cy ls X Y)
  rcases (show ci = 11 ∨ ci = 12 ∨ ci = 13 by omega) with rfl | rfl | rfl
  · exact key _ (hK.2 2 (cy 11, .object RX0) rfl).1 rfl
  · exact key _ (hK.2 3 (cy 12, .object RX4) rfl).1 rfl
  · exact key _ (hK.2 4 (cy 13, .array .int) rfl).1 rfl
theorem z_alen {a : Nat} {v : Int32} (hd : decode M.2.1 pc = .ok (.arraylength, 1)) (ha : At T a 10) (hv : Int32.ofNat (T.2.1 a) = v) (kk : Z l M L ac az rc rs Q (pc + 1) lv (.int v :: st) T F G A B) : Z l M L ac az rc rs Q pc lv (.ref a :: st) T F G A B := by
  intro p e R s m args below meth c H locs cells slots z b D cy ls X Y
  have hK := X.2.2.2.2.2.2.2.2.2.1
  exact W.alen X.1 X.2.1 (Y.1.ints ha (by decide) (by decide)) ((hK.2 1 (cy 10, .int) rfl).1 _ (fun j => .int (A a j))) (by rw [arrV_size]; exact hv) rfl rfl hd (kk p e R s m args below meth c H locs cells slots z b D cy ls X Y)
end MEM
