abbrev PM : Type := Option Value → MI → MI → Prop
def QM (T : SH) (G B : MN) (Q : PM) : PQ := fun v T' F' G' A' B' => T' = T ∧ G' = G ∧ B' = B ∧ Q v F' A'
/-- a contract over the layout: only int fields and rows may change -/
def CM (l : Launch) (M : MD) (L : Nat) (w : Nat → Nat) (nb : Nat) (av : List Value) (F A : MI) (Q : PM) : Prop := ∀ (T : SH) (G B : MN), LY w nb T G B → Cn l M L 0 0 av T F G A B (QM T G B Q)
def ZM (l : Launch) (M : MD) (L : Nat) (w : Nat → Nat) (nb : Nat) (Q : PM) (pc : Nat) (lv : List (Nat × Value)) (st : List Value) (F A : MI) : Prop := ∀ (T : SH) (G B : MN), LY w nb T G B → Z l M L 0 0 0 0 (QM T G B Q) pc lv st T F G A B
def qi (P : Int32 → MI → MI → Prop) : PM := fun v F A => ∃ x, v = some (.int x) ∧ P x F A
def qv (P : MI → MI → Prop) : PM := fun v F A => v = none ∧ P F A
theorem Cn.mono {l : Launch} {M : MD} {L ac az : Nat} {av : List Value} {T : SH} {F : MI} {G : MN} {A : MI} {B : MN} {Q Q' : PQ} (h : ∀ v T F G A B, Q v T F G A B → Q' v T F G A B) (hc : Cn l M L ac az av T F G A B Q) : Cn l M L ac az av T F G A B Q' := by
  intro z b cy D p e ha hca hk s m args below hf happ hP hK
  obtain ⟨n, o, h1, h2, h3, ⟨⟨⟨v, T2, F2, G2, A2, B2, e1, e2, e3⟩, hF⟩, h5⟩⟩ := hc z b cy D p e ha hca hk s m args below hf happ hP hK
  exact ⟨n, o, h1, h2, h3, ⟨⟨v, T2, F2, G2, A2, B2, e1, h _ _ _ _ _ _ e2, e3⟩, hF⟩, h5⟩
theorem CM.mono {l : Launch} {M : MD} {L : Nat} {w : Nat → Nat} {nb : Nat} {av : List Value} {F A : MI} {Q Q' : PM} (h : ∀ v F A, Q v F A → Q' v F A) (hc : CM l M L w nb av F A Q) : CM l M L w nb av F A Q' :=
  fun T G B hL => (hc T G B hL).mono (fun v _ F' _ A' _ q => ⟨q.1, q.2.1, q.2.2.1, h v F' A' q.2.2.2⟩)
theorem CM.monoi {l : Launch} {M : MD} {L : Nat} {w : Nat → Nat} {nb : Nat} {av : List Value} {F A : MI} {P P' : Int32 → MI → MI → Prop} (hc : CM l M L w nb av F A (qi P)) (h : ∀ x F A, P x F A → P' x F A) : CM l M L w nb av F A (qi P') :=
  hc.mono (fun _ F A q => by obtain ⟨x, e, q⟩ := q; exact ⟨x, e, h x F A q⟩)
theorem CM.monov {l : Launch} {M : MD} {L : Nat} {w : Nat → Nat} {nb : Nat} {av : List Value} {F A : MI} {P P' : MI → MI → Prop} (hc : CM l M L w nb av F A (qv P)) (h : ∀ F A, P F A → P' F A) : CM l M L w nb av F A (qv P') :=
  hc.mono (fun _ F A q => ⟨q.1, h F A q.2⟩)
theorem CM.ofZ {l : Launch} {M : MD} {L : Nat} {w : Nat → Nat} {nb : Nat} {av : List Value} {lv : List (Nat × Value)} {F A : MI} {Q : PM} (hy : plainName M.1.cls = true) (hlv : ∀ z b, lv_args 0 (av.map (tr z b)) = lv.map (tq z b)) (hlen : ∀ z b, (lg_sl (av.map (tr z b))).length ≤ M.2.2.1) (h : ZM l M L w nb Q 0 lv [] F A) : CM l M L w nb av F A Q :=
  fun T G B hL => Cn.ofZ hy hlv hlen (h T G B hL)

section ZMC
variable {l : Launch} {M : MD} {L : Nat} {w : Nat → Nat} {nb : Nat} {Q : PM} {pc : Nat} {lv : List (Nat × Value)} {st : List Value} {T : SH} {F : MI} {G : MN} {A : MI} {B : MN}
theorem z_pick {rc rs ac az : Nat} {Q : PQ} {lv' : List (Nat × Value)} (ks : List Nat) (h : lv_pick lv ks = lv') (kk : Z l M L ac az rc rs Q pc lv' st T F G A B) : Z l M L ac az rc rs Q pc lv st T F G A B := by
  intro p e R s m args below meth c H locs cells slots z b D cy ls X Y
  refine kk p e R s m args below meth c H locs cells slots z b D cy ls X ⟨Y.1, Y.2.1, Y.2.2.1, Y.2.2.2.1, lv_mono Y.2.2.2.2 (fun q hq => ?_)⟩
  subst h
  obtain ⟨x, hx, rfl⟩ := List.mem_map.mp hq
  obtain ⟨k, -, hk⟩ := List.mem_filterMap.mp hx
  exact List.mem_map.mpr ⟨x, List.mem_of_getElem? hk, rfl⟩
theorem cm_Z {M' : MD} {L' : Nat} {av : List Value} {P : PM} (hL : LY w nb T G B) (kk : CM l M' L' w nb av F A P) {R : PQ} (h : ∀ v F A, P v F A → R v T F G A B) : Cn l M' L' 0 0 av T F G A B R :=
  (kk T G B hL).mono (fun v T2 F2 G2 A2 B2 q => by obtain ⟨rfl, rfl, rfl, q⟩ := q; exact h v F2 A2 q)
theorem zm_Vi {M' : MD} {n idx L' ci : Nat} {TT : u_T} {N a : Nat} {As rest : List Value} (hd : decode M.2.1 pc = .ok (.invokevirtual idx, 3)) (hM : MOk M' n) (hI : IOk M') (hl : Cond.methodLink M.1.cls idx M'.1 ∈ lw_g) (hcl : vwCl[ci]? = some (M'.1.cls, TT, N)) (h9 : ci < 9) (ha : At T a ci) (hn : As.length = n) (hst : st = As.reverse ++ .ref a :: rest) (hrest : rest.length ≤ 8) (hL : L' + 1 ≤ L) (hY : LY w nb T G B)
    (kk : CM l M' L' w nb (.ref a :: As) F A (qi fun x F A => Z l M L 0 0 0 0 (QM T G B Q) (pc + 3) lv (.int x :: rest) T F G A B)) : Z l M L 0 0 0 0 (QM T G B Q) pc lv st T F G A B :=
  z_callV hd hM hI hl hcl h9 ha hn hst hrest hL (Nat.le_refl 0) (Nat.le_refl 0) (cm_Z hY kk (fun v F A q => by obtain ⟨x, rfl, q⟩ := q; exact q))
theorem zm_Vv {M' : MD} {n idx L' ci : Nat} {TT : u_T} {N a : Nat} {As rest : List Value} (hd : decode M.2.1 pc = .ok (.invokevirtual idx, 3)) (hM : MOk M' n) (hI : IOk M') (hl : Cond.methodLink M.1.cls idx M'.1 ∈ lw_g) (hcl : vwCl[ci]? = some (M'.1.cls, TT, N)) (h9 : ci < 9) (ha : At T a ci) (hn : As.length = n) (hst : st = As.reverse ++ .ref a :: rest) (hrest : rest.length ≤ 8) (hL : L' + 1 ≤ L) (hY : LY w nb T G B)
    (kk : CM l M' L' w nb (.ref a :: As) F A (qv fun F A => Z l M L 0 0 0 0 (QM T G B Q) (pc + 3) lv rest T F G A B)) : Z l M L 0 0 0 0 (QM T G B Q) pc lv st T F G A B :=
  z_callV hd hM hI hl hcl h9 ha hn hst hrest hL (Nat.le_refl 0) (Nat.le_refl 0) (cm_Z hY kk (fun v F A q => by obtain ⟨rfl, q⟩ := q; exact q))
/-- an answer that is a CLASS' cell, or null -/
def qc (P0 : MI → MI → Prop) (P1 : Nat → MI → MI → Prop) : PM := fun v F A => (v = some .null ∧ P0 F A) ∨ ∃ c, c < 6 ∧ v = some (.ref (38 + 14 * c)) ∧ P1 c F A
/-- an answer that is a BEAST's cell, or null -/
def qb (nb : Nat) (P0 : MI → MI → Prop) (P1 : Nat → MI → MI → Prop) : PM := fun v F A => (v = some .null ∧ P0 F A) ∨ ∃ i, i < nb ∧ v = some (.ref (147 + 2 * i)) ∧ P1 i F A
theorem zm_Vc {M' : MD} {n idx L' ci : Nat} {TT : u_T} {N a : Nat} {As rest : List Value} (hd : decode M.2.1 pc = .ok (.invokevirtual idx, 3)) (hM : MOk M' n) (hI : IOk M') (hl : Cond.methodLink M.1.cls idx M'.1 ∈ lw_g) (hcl : vwCl[ci]? = some (M'.1.cls, TT, N)) (h9 : ci < 9) (ha : At T a ci) (hn : As.length = n) (hst : st = As.reverse ++ .ref a :: rest) (hrest : rest.length ≤ 8) (hL : L' + 1 ≤ L) (hY : LY w nb T G B)
    (kk : CM l M' L' w nb (.ref a :: As) F A (qc (fun F A => Z l M L 0 0 0 0 (QM T G B Q) (pc + 3) lv (.null :: rest) T F G A B) (fun c F A => Z l M L 0 0 0 0 (QM T G B Q) (pc + 3) lv (.ref (38 + 14 * c) :: rest) T F G A B))) : Z l M L 0 0 0 0 (QM T G B Q) pc lv st T F G A B :=
  z_callV hd hM hI hl hcl h9 ha hn hst hrest hL (Nat.le_refl 0) (Nat.le_refl 0) (cm_Z hY kk (fun v F A q => by rcases q with ⟨rfl, q⟩ | ⟨c, -, rfl, q⟩ <;> exact q))
theorem zm_Vb {M' : MD} {n idx L' ci : Nat} {TT : u_T} {N a : Nat} {As rest : List Value} (hd : decode M.2.1 pc = .ok (.invokevirtual idx, 3)) (hM : MOk M' n) (hI : IOk M') (hl : Cond.methodLink M.1.cls idx M'.1 ∈ lw_g) (hcl : vwCl[ci]? = some (M'.1.cls, TT, N)) (h9 : ci < 9) (ha : At T a ci) (hn : As.length = n) (hst : st = As.reverse ++ .ref a :: rest) (hrest : rest.length ≤ 8) (hL : L' + 1 ≤ L) (hY : LY w nb T G B)
    (kk : CM l M' L' w nb (.ref a :: As) F A (qb nb (fun F A => Z l M L 0 0 0 0 (QM T G B Q) (pc + 3) lv (.null :: rest) T F G A B) (fun i F A => Z l M L 0 0 0 0 (QM T G B Q) (pc + 3) lv (.ref (147 + 2 * i) :: rest) T F G A B))) : Z l M L 0 0 0 0 (QM T G B Q) pc lv st T F G A B :=
  z_callV hd hM hI hl hcl h9 ha hn hst hrest hL (Nat.le_refl 0) (Nat.le_refl 0) (cm_Z hY kk (fun v F A q => by rcases q with ⟨rfl, q⟩ | ⟨c, -, rfl, q⟩ <;> exact q))
theorem CM.monoc {M' : MD} {L' : Nat} {av : List Value} {P0 P0' : MI → MI → Prop} {P1 P1' : Nat → MI → MI → Prop} (hc : CM l M' L' w nb av F A (qc P0 P1)) (h0 : ∀ F A, P0 F A → P0' F A) (h1 : ∀ c F A, c < 6 → P1 c F A → P1' c F A) : CM l M' L' w nb av F A (qc P0' P1') :=
  hc.mono (fun _ F A q => by
    rcases q with ⟨e, q⟩ | ⟨c, hc, e, q⟩
    · exact Or.inl ⟨e, h0 F A q⟩
    · exact Or.inr ⟨c, hc, e, h1 c F A hc q⟩)
theorem CM.monob {M' : MD} {L' : Nat} {av : List Value} {P0 P0' : MI → MI → Prop} {P1 P1' : Nat → MI → MI → Prop} (hc : CM l M' L' w nb av F A (qb nb P0 P1)) (h0 : ∀ F A, P0 F A → P0' F A) (h1 : ∀ c F A, c < nb → P1 c F A → P1' c F A) : CM l M' L' w nb av F A (qb nb P0' P1') :=
  hc.mono (fun _ F A q => by
    rcases q with ⟨e, q⟩ | ⟨c, hc, e, q⟩
    · exact Or.inl ⟨e, h0 F A q⟩
    · exact Or.inr ⟨c, hc, e, h1 c F A hc q⟩)
theorem zm_Si {M' : MD} {n idx L' : Nat} {As rest : List Value} (hd : decode M.2.1 pc = .ok (.invokestatic idx, 3)) (hM : MOk M' n) (hs : Cond.static M'.1 ∈ lw_g) (hl : Cond.methodLink M.1.cls idx M'.1 ∈ lw_g) (hn : As.length = n) (hst : st = As.reverse ++ rest) (hrest : rest.length ≤ 8) (hL : L' + 1 ≤ L) (hY : LY w nb T G B)
    (kk : CM l M' L' w nb As F A (qi fun x F A => Z l M L 0 0 0 0 (QM T G B Q) (pc + 3) lv (.int x :: rest) T F G A B)) : Z l M L 0 0 0 0 (QM T G B Q) pc lv st T F G A B :=
  z_callS hd hM hs hl hn hst hrest hL (Nat.le_refl 0) (Nat.le_refl 0) (cm_Z hY kk (fun v F A q => by obtain ⟨x, rfl, q⟩ := q; exact q))
theorem zm_Sv {M' : MD} {n idx L' : Nat} {As rest : List Value} (hd : decode M.2.1 pc = .ok (.invokestatic idx, 3)) (hM : MOk M' n) (hs : Cond.static M'.1 ∈ lw_g) (hl : Cond.methodLink M.1.cls idx M'.1 ∈ lw_g) (hn : As.length = n) (hst : st = As.reverse ++ rest) (hrest : rest.length ≤ 8) (hL : L' + 1 ≤ L) (hY : LY w nb T G B)
    (kk : CM l M' L' w nb As F A (qv fun F A => Z l M L 0 0 0 0 (QM T G B Q) (pc + 3) lv rest T F G A B)) : Z l M L 0 0 0 0 (QM T G B Q) pc lv st T F G A B :=
  z_callS hd hM hs hl hn hst hrest hL (Nat.le_refl 0) (Nat.le_refl 0) (cm_Z hY kk (fun v F A q => by obtain ⟨rfl, q⟩ := q; exact q))
theorem zm_SNi {M' : MD} {n idx L' : Nat} {As rest : List Value} (hd : decode M.2.1 pc = .ok (.invokestatic idx, 3)) (hM : MOk M' n) (hs : Cond.static M'.1 ∈ lw_g) (hl : (M.1.cls, idx, M'.1) ∈ nestL) (hn : As.length = n) (hst : st = As.reverse ++ rest) (hrest : rest.length ≤ 8) (hL : L' + 1 ≤ L) (hY : LY w nb T G B)
    (kk : CM l M' L' w nb As F A (qi fun x F A => Z l M L 0 0 0 0 (QM T G B Q) (pc + 3) lv (.int x :: rest) T F G A B)) : Z l M L 0 0 0 0 (QM T G B Q) pc lv st T F G A B :=
  z_callSN hd hM hs hl hn hst hrest hL (Nat.le_refl 0) (Nat.le_refl 0) (cm_Z hY kk (fun v F A q => by obtain ⟨x, rfl, q⟩ := q; exact q))
theorem z_iretM {v : Int32} (hd : decode M.2.1 pc = .ok (.ireturn, 1)) (hret : M.2.2.2 = some .int) (hq : Q (some (.int v)) F A) : Z l M L 0 0 0 0 (QM T G B Q) pc lv [.int v] T F G A B := z_iret hd hret ⟨rfl, rfl, rfl, hq⟩
theorem z_zretM {v : Int32} (hd : decode M.2.1 pc = .ok (.ireturn, 1)) (hret : M.2.2.2 = some .boolean) (hv : v = 0 ∨ v = 1) (hq : Q (some (.int v)) F A) : Z l M L 0 0 0 0 (QM T G B Q) pc lv [.int v] T F G A B := z_zret hd hret hv ⟨rfl, rfl, rfl, hq⟩
theorem z_vretM (hd : decode M.2.1 pc = .ok (.return_, 1)) (hret : M.2.2.2 = none) (hq : Q none F A) : Z l M L 0 0 0 0 (QM T G B Q) pc lv [] T F G A B := z_vret hd hret ⟨rfl, rfl, rfl, hq⟩
theorem z_aretM {v : Value} {C : String} (hd : decode M.2.1 pc = .ok (.areturn, 1)) (hret : M.2.2.2 = some (.object C)) (hv : v = .null ∨ ∃ a, v = .ref a) (hq : Q (some v) F A) : Z l M L 0 0 0 0 (QM T G B Q) pc lv [v] T F G A B := z_aret hd hret hv ⟨rfl, rfl, rfl, hq⟩
/-- reads with the value told -/
theorem z_geti' {ci k a fc idx : Nat} {C : String} {TT : u_T} {N : Nat} {ty : Nat → FieldType} {ac az rc rs : Nat} {Q : PQ} {x : Int32} (hd : decode M.2.1 pc = .ok (.getfield idx, 3)) (hcl : ClsOk ci C TT N ty) (hk : k < N) (hm : Cond.fieldLink M.1.cls idx (TT k).1 (TT k).2.1 (TT k).2.2.1 ∈ lw_g) (hr : isR ci k = false) (hfc : 40 * ci + k = fc) (ha : At T a ci) (hx : F fc a = x)
    (kk : Z l M L ac az rc rs Q (pc + 3) lv (.int x :: st) T F G A B) : Z l M L ac az rc rs Q pc lv (.ref a :: st) T F G A B := z_geti hd hcl hk hm hr hfc ha (by rw [hx]; exact kk)
theorem z_iald' {a : Nat} {i x : Int32} {n : Nat} {ac az rc rs : Nat} {Q : PQ} (hd : decode M.2.1 pc = .ok (.iaload, 1)) (ha : At T a 10) (hn : T.2.1 a = n) (hin : vp_in i n) (hx : A a i.toNatClampNeg = x) (kk : Z l M L ac az rc rs Q (pc + 1) lv (.int x :: st) T F G A B) : Z l M L ac az rc rs Q pc lv (.int i :: .ref a :: st) T F G A B := z_iald hd ha (by rw [hn]; exact hin) (by rw [hx]; exact kk)
theorem z_bald' {a : Nat} {i x : Int32} {n : Nat} {ac az rc rs : Nat} {Q : PQ} (hd : decode M.2.1 pc = .ok (.baload, 1)) (ha : At T a 9) (hn : T.2.1 a = n) (hin : vp_in i n) (hx : A a i.toNatClampNeg = x) (kk : Z l M L ac az rc rs Q (pc + 1) lv (.int x :: st) T F G A B) : Z l M L ac az rc rs Q pc lv (.int i :: .ref a :: st) T F G A B := z_bald hd ha (by rw [hn]; exact hin) (by rw [hx]; exact kk)
theorem z_iast' {a : Nat} {i x : Int32} {n : Nat} {ac az rc rs : Nat} {Q : PQ} (hd : decode M.2.1 pc = .ok (.iastore, 1)) (ha : At T a 10) (hn : T.2.1 a = n) (hin : vp_in i n) (kk : Z l M L ac az rc rs Q (pc + 1) lv st T F G (u2 A a i.toNatClampNeg x) B) : Z l M L ac az rc rs Q pc lv (.int x :: .int i :: .ref a :: st) T F G A B := z_iast hd ha (by rw [hn]; exact hin) kk
theorem z_bast' {a : Nat} {i x : Int32} {n : Nat} {ac az rc rs : Nat} {Q : PQ} (hd : decode M.2.1 pc = .ok (.bastore, 1)) (ha : At T a 9) (hn : T.2.1 a = n) (hin : vp_in i n) (kk : Z l M L ac az rc rs Q (pc + 1) lv st T F G (u2 A a i.toNatClampNeg x.toInt8.toInt32) B) : Z l M L ac az rc rs Q pc lv (.int x :: .int i :: .ref a :: st) T F G A B := z_bast hd ha (by rw [hn]; exact hin) kk
theorem z_aald' {a r ci n : Nat} {i : Int32} {ac az rc rs : Nat} {Q : PQ} (hd : decode M.2.1 pc = .ok (.aaload, 1)) (ha : At T a ci) (hc : 11 ≤ ci ∧ ci ≤ 13) (hn : T.2.1 a = n) (hin : vp_in i n) (hb : B a i.toNatClampNeg = r) (h0 : r ≠ 0) (kk : Z l M L ac az rc rs Q (pc + 1) lv (.ref r :: st) T F G A B) : Z l M L ac az rc rs Q pc lv (.int i :: .ref a :: st) T F G A B := z_aald hd ha hc (by rw [hn]; exact hin) hb h0 kk
end ZMC
