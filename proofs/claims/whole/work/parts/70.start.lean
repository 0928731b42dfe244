/-! the start of the law: what the tables say of the classes -/
set_option maxRecDepth 20000 in
theorem nl_RX7_9 : Cond.methodLinkNest RX7 9 yX5_init RX7 ∈ lw_tbl := List.mem_of_getElem? (i := 73) rfl
set_option maxRecDepth 20000 in
theorem nl_RX7_34 : Cond.methodLinkNest RX7 34 yX2_init RX7 ∈ lw_tbl := List.mem_of_getElem? (i := 97) rfl
set_option maxRecDepth 20000 in
theorem nl_RX7_41 : Cond.methodLinkNest RX7 41 yX6_init RX7 ∈ lw_tbl := List.mem_of_getElem? (i := 124) rfl
set_option maxRecDepth 20000 in
theorem nl_RX7_48 : Cond.methodLinkNest RX7 48 yX3_init RX7 ∈ lw_tbl := List.mem_of_getElem? (i := 144) rfl
set_option maxRecDepth 20000 in
theorem nl_RX5_29 : Cond.methodLinkNest RX5 29 yX7_isBelow RX7 ∈ lw_tbl := List.mem_of_getElem? (i := 506) rfl
set_option maxRecDepth 20000 in
theorem nl_RX3_88 : Cond.methodLinkNest RX3 88 yX7_isBelow RX7 ∈ lw_tbl := List.mem_of_getElem? (i := 604) rfl
set_option maxRecDepth 20000 in
theorem ol_X0 : Cond.arrayOver (.object RX0) ∈ lw_tbl := List.mem_of_getElem? (i := 92) rfl
set_option maxRecDepth 20000 in
theorem ol_X4 : Cond.arrayOver (.object RX4) ∈ lw_tbl := List.mem_of_getElem? (i := 94) rfl
set_option maxRecDepth 20000 in
theorem ol_II : Cond.arrayOver (.array .int) ∈ lw_tbl := List.mem_of_getElem? (i := 102) rfl
theorem g_tbl {w : Cond} (h : w ∈ lw_g) : w ∈ lw_tbl := (List.mem_filter.mp h).1
theorem nw_start {s : State} {b : Nat} (hts : ∀ w ∈ lw_tbl, w.before #[Value.ref b] s = true) : NW s := by
  refine ⟨?_, ?_⟩
  · intro q hq
    simp only [nestL, List.mem_cons, List.mem_nil_iff, or_false] at hq
    rcases hq with rfl | rfl | rfl | rfl | rfl | rfl
    · exact va_Nw.of rfl (hts _ nl_RX7_9)
    · exact va_Nw.of rfl (hts _ nl_RX7_34)
    · exact va_Nw.of rfl (hts _ nl_RX7_41)
    · exact va_Nw.of rfl (hts _ nl_RX7_48)
    · exact va_Nw.of rfl (hts _ nl_RX5_29)
    · exact va_Nw.of rfl (hts _ nl_RX3_88)
  · intro ty hq
    simp only [overL, List.mem_cons, List.mem_nil_iff, or_false] at hq
    have up : ∀ ty : FieldType, (Cond.arrayOver ty).before #[Value.ref b] s = true → va_Nw (.arrayOver ty) s := fun ty h => by
      unfold va_Nw
      simp only [Cond.before, Cond.holds, Cond.value] at h ⊢
      exact h
    rcases hq with rfl | rfl | rfl
    · exact up _ (hts _ ol_X0)
    · exact up _ (hts _ ol_X4)
    · exact up _ (hts _ ol_II)
theorem kn_one {s : State} {b ci N n : Nat} {C : String} {TT : u_T} {ty : Nat → FieldType} (hts : ∀ w ∈ lw_g, w.before #[Value.ref b] s = true) (hc : ClsOk ci C TT N ty) (hi : Cond.instantiable C n ∈ lw_g) : ∃ d : ClassId × (Nat → Nat), ∀ q, vwCl[ci]? = some q → u_Kn s q.1 q.2.1 q.2.2 d.1 d.2 := by
  obtain ⟨cC, iS, h⟩ := u_known (C := C) (T := TT) (N := N) hts hc.2.2.2.1 (hts _ hi)
  refine ⟨(cC, iS), fun q hq => ?_⟩
  rw [hc.1] at hq
  cases hq
  exact h
theorem kn_start {s : State} {b : Nat} (hts : ∀ w ∈ lw_g, w.before #[Value.ref b] s = true) : ∃ D : va_G, ∀ (ci : Nat) (q : vw_C), vwCl[ci]? = some q → u_Kn s q.1 q.2.1 q.2.2 (D.1 ci) (D.2 ci) := by
  have H : ∀ ci : Nat, ∃ d : ClassId × (Nat → Nat), ∀ q, vwCl[ci]? = some q → u_Kn s q.1 q.2.1 q.2.2 d.1 d.2 := by
    intro ci
    match ci with
    | 0 => exact kn_one hts ckX0 nn_X0
    | 1 => exact kn_one hts ckX1 nn_X1
    | 2 => exact kn_one hts ckX2 nn_X2
    | 3 => exact kn_one hts ckX3 nn_X3
    | 4 => exact kn_one hts ckX4 nn_X4
    | 5 => exact kn_one hts ckX5 nn_X5
    | 6 => exact kn_one hts ckX6 nn_X6
    | 7 => exact kn_one hts ckX7 nn_X7
    | 8 => exact kn_one hts ckX8 nn_X8
    | k + 9 =>
      obtain ⟨d, -⟩ := kn_one hts ckX0 nn_X0
      exact ⟨d, fun q hq => by cases hq⟩
  obtain ⟨f, hf⟩ := Classical.axiomOfChoice H
  exact ⟨(fun ci => (f ci).1, fun ci => (f ci).2), fun ci q hq => hf ci q hq⟩
theorem ar_prim {s : State} {b : Nat} {ty : FieldType} (h : (Cond.arrayClass ty).before #[Value.ref b] s = true) : ∃ cA : ClassId, ArrOfT s cA ty ∧ s.vm.findClass ("[" ++ ty.toString) = some cA := by
  obtain ⟨cA, kA, comp, h1, h2, h3⟩ := Cond.arrayClass_spec h
  exact ⟨cA, fun n z => ⟨fun k h => (by cases h), kA, h2, comp, h3⟩, h1⟩
theorem ar_obj {s : State} {b : Nat} {C : String} (h : (Cond.arrayOver (.object C)).before #[Value.ref b] s = true) : ∃ cA : ClassId, ArrOfT s cA (.object C) ∧ va_RA s cA (.object C) := by
  obtain ⟨comp, cA, kA, h1, -, h3, h4, h5⟩ := Cond.arrayOver_spec h
  exact ⟨cA, fun n z => ⟨fun k h => (by cases h), kA, h3, comp, h4⟩, kA, comp, h3, h4, h1, h5⟩
theorem ar_arr {s : State} {b : Nat} {t : FieldType} (h : (Cond.arrayOver (.array t)).before #[Value.ref b] s = true) : ∃ cA : ClassId, ArrOfT s cA (.array t) ∧ va_RA s cA (.array t) := by
  obtain ⟨comp, cA, kA, h1, h3, h4, h5⟩ := Cond.arrayOver_specA h
  exact ⟨cA, fun n z => ⟨fun k h => (by cases h), kA, h3, comp, h4⟩, h5⟩
theorem k_start {s : State} {b : Nat} (hts : ∀ w ∈ lw_tbl, w.before #[Value.ref b] s = true) : ∃ (D : va_G) (cy : Nat → ClassId), va_K D vwCl (tyL cy) s := by
  obtain ⟨D, hD⟩ := kn_start (fun w hw => hts w (g_tbl hw))
  obtain ⟨c9, a9, f9⟩ := ar_prim (hts _ (g_tbl ac_byte))
  obtain ⟨c10, a10, f10⟩ := ar_prim (hts _ (g_tbl ac_int))
  obtain ⟨c11, a11, f11⟩ := ar_obj (hts _ ol_X0)
  obtain ⟨c12, a12, f12⟩ := ar_obj (hts _ ol_X4)
  obtain ⟨c13, a13, f13⟩ := ar_arr (hts _ ol_II)
  refine ⟨D, fun k => if k = 9 then c9 else if k = 10 then c10 else if k = 11 then c11 else if k = 12 then c12 else c13, hD, fun k q hq => ?_⟩
  match k, hq with
  | 0, hq => cases hq; exact ⟨a9, f9⟩
  | 1, hq => cases hq; exact ⟨a10, f10⟩
  | 2, hq => cases hq; exact ⟨a11, f11⟩
  | 3, hq => cases hq; exact ⟨a12, f12⟩
  | 4, hq => cases hq; exact ⟨a13, f13⟩
  | k + 5, hq => cases hq
/-- from the entry, for every script of at most 3072 ints, the law comes to its end with true -/
theorem whole_start {p : Program} {e : Env} {s : State} {m : MethodId} {below : List Frame} {meth : Method} {c : Code} (l : Launch) {b L : Nat} {xs : Nat → Int32} (hL : L ≤ 3072) (C0 : lw_At p s m meth c b L xs) : W p l e room_1 s m #[Value.ref b] below meth c s.heap [] 0 0 (lw_Z below #[Value.ref b] s) (entryFrame m ([Value.ref b] : List Value).toArray 4) := by
  obtain ⟨hx, hb, hr, hml, hown, hts, hX, hbl, hlocks, hgv⟩ := C0
  obtain ⟨D, cy, hK⟩ := k_start hts
  have hz : s.heap.size = (s.heap.size - 1) + 1 := by omega
  have hl := lv_entry ([Value.ref b]) (n := 4) (Nat.le_of_ble_eq_true rfl)
  rw [lg_entry_eq]
  have hC : LC (mL meth.name) p s m meth c (s.heap.size - 1) b L xs D cy := ⟨⟨hx, hb, hml, hown, fun w hw => hts w (g_tbl hw), hlocks, hr, rfl, by omega, hK, by decide, by decide, by decide, by decide, nw_start hts⟩, hX, hbl, hz⟩
  exact law_start (nm := meth.name) hL hC s.heap [] 0 0 _ ⟨⟨hz, fun a h1 h2 => absurd h2 (by show ¬ a ≤ 0; omega)⟩, va_S.rf, by omega, by omega, hl⟩
set_option maxHeartbeats 4000000 in
theorem lw_walk (l : Launch) (b : Addr) (xs : List Int32) : MetFree l x (headSpec (Jvm.Cond.code x code maxLocals ret :: tables_1) room_1) (lw_P b xs) (fun _ _ _ _ _ => True) lw_Q := by
  refine MetFree.of_bodyS (code := code) (maxLocals := maxLocals) (ret := ret) (by decide) ?_ ?_
  · intro args s m h hn
    obtain ⟨meth, c, h1, h2, h3, h4, h5, h6, -, -⟩ := Cond.code_spec hn (atoms_spec (ws := Jvm.Cond.code x code maxLocals ret :: tables_1) h _ List.mem_cons_self)
    exact ⟨meth, c, h1, h2, h3, h4, h5, h6⟩
  · intro p e s m args below meth c s₁ B hml0 hP _
    obtain ⟨rfl, hx, hbd, hgv⟩ := hP
    obtain ⟨scr, harrAt, hlist, hof, hsmall⟩ := hx
    obtain ⟨hcb, hkn, -, -⟩ := State.arrayAt?_spec harrAt
    have hown : s.vm.findClass R_law = some m.cls := findClass_of_methodNamed B.named
    have hts0 : ∀ c ∈ (Jvm.Cond.code x code maxLocals ret :: tables_1), c.before #[Value.ref b] s = true := atoms_spec (ws := Jvm.Cond.code x code maxLocals ret :: tables_1) B.pre
    have hts : ∀ w ∈ lw_tbl, w.before #[Value.ref b] s = true := k2_hts_sels lw_privs (fun w hw => hts0 w (List.mem_cons_of_mem _ hw)) lw_privs_ok
    have hml : c.maxLocals = 4 := B.maxLocals_eq (hts0 _ List.mem_cons_self)
    have X₀ : Stand p l e room_1 s m #[Value.ref b] below meth c s₁ [] 0 0 := Stand.of_body B
    have hh0 : s₁.heap = s.heap := by rw [B.state]; rfl
    have hsz : scr.slots.size = xs.length := by rw [← Array.length_toList, hlist, List.length_map]
    have hval : ∀ j : Nat, j < xs.length → scr.slots[j]? = some (.int (xs.getD j 0)) := fun j hj => by
      rw [← Array.getElem?_toList, hlist]
      simp [hj]
    have hbl : b < s.heap.size := (Array.getElem?_eq_some_iff.mp hcb).1
    have hX : va_X b xs.length (fun j => xs.getD j 0) s s.heap := ⟨scr, hcb, hof, hkn, hsz, hval⟩
    have K : W p l e room_1 s m #[Value.ref b] below meth c s₁.heap [] 0 0 (lw_Z below #[Value.ref b] s) (entryFrame m ([Value.ref b] : List Value).toArray 4) := by
      rw [hh0]
      exact whole_start l hbd ⟨B.exec, B.bytes, B.returns, hml, hown, hts, hX, hbl, B.notSynchronized, hgv⟩
    obtain ⟨t, a1, o, b1, b2, b3⟩ := K s₁ rfl X₀
    exact ⟨t, o, a1, b1, b2, b3⟩
theorem lw_pre_spec {args : Array Value} {s : State} (h : (Jvm.Cond.and given_1 narrow_1).before args s = true) (hr : rest_1_c.before args s = true) : ∃ (b : Addr) (xs : List Int32), lw_P b xs args s := by
  have hs := flat_of_before _ h
  have hq := flat_of_before _ hr
  have hc : (Cond.count 1).before args s = true := hs _ (by decide +kernel)
  have harr : (Cond.arrayOf (.arg 0) .int).before args s = true := hs _ (by decide +kernel)
  have hle : (Cond.le (.length (.arg 0)) (.int 3072)).before args s = true := hs _ (by decide +kernel)
  have hlen : (Cond.isInt (.length (.arg 0))).before args s = true := hq _ (by decide +kernel)
  have hall : (Cond.all (.arg 0) (.isInt (.elem (.arg 0) (.index 0)))).before args s = true := hq _ (by decide +kernel)
  obtain ⟨b, xs, hb, hx⟩ := State.ints_of_pre rfl harr hlen hall
  have hsm : xs.length < 2 ^ 31 := hx.choose_spec.2.2.2
  have hev : (Term.length (.arg 0)).eval args s none [] s = some (.int xs.length.toInt32) := hx.length_eval hb
  have hv := Cond.le_ints hev (show (Term.int 3072).eval args s none [] s = some (.int 3072) from rfl)
  have hd : xs.length.toInt32 ≤ 3072 := by
    simpa [Cond.before, Cond.holds, hv] using hle
  have hN : xs.length ≤ 3072 := (Int32.ofNat_le_ofNat hsm (by decide)).mp (show Int32.ofNat xs.length ≤ Int32.ofNat 3072 from hd)
  exact ⟨b, xs, Cond.one_arg hc (show args[0]? = some (.ref b) from hb), hx, hN, h⟩
theorem lw_comes (l : Launch) : Comes l x (Jvm.Cond.code x code maxLocals ret :: tables_1) room_1 (fun tb e args s => Calls_1 tb e args s ∧ rest_1 tb e args s ∧ Pre_1 tb e args s)
    (fun _ _ args s o t => lw_Q args s o t) := by
  intro p e ha hc hk s m args below hf hfit hheap happ hpre
  obtain ⟨b, xs, hP⟩ := lw_pre_spec hpre.2.2 hpre.2.1
  obtain ⟨k, o, h1, h2, h3, hQ⟩ := lw_walk l b xs p e ha hc hk s m args below hf ((Spec.applies_iff_loose hf).mp happ).1 hP trivial
  exact ⟨k, o, h1, h2, h3, hQ⟩
theorem lw_frame {s t : State} {o : Outcome} {args : Array Value} (h : Framed s o t [] 642648 7174304) :
    Framed s o t (fieldLocs frame_1_writes args s ++ arrayLocs frame_1_arrays args s ++ staticLocs frame_1_statics s) 642648 7174304 := h
theorem lw_limb (L : Cond) (hL : ∀ (args : Array Value) (s t : State), L.after args s (.returned (some (.int 1))) t = true) :
    ArmFor flags0 classFile x code maxLocals ret World_1 tables_1 room_1 Calls_1 rest_1 Pre_1
      (fun tb e a s o t => postC L tb e a s o t ∧ Framed s o t (fieldLocs frame_1_writes a s ++ arrayLocs frame_1_arrays a s ++ staticLocs frame_1_statics s) 642648 7174304) := by
  intro l _ _ _ p e ha hc hk s m args below hf hfit hheap happ hpre
  obtain ⟨k, o, h1, h2, h3, rfl, hF⟩ := lw_comes l p e ha hc hk s m args below hf hfit hheap happ hpre
  exact ⟨k, _, h1, h2, h3, hL args s _, lw_frame hF⟩
theorem i_vc : Claimed_1_1 ∧ Claimed_1_2 := ⟨lw_limb limb_1_1 (fun args s t => by simp [limb_1_1, Cond.after, Cond.holds, Cond.value]), lw_limb limb_1_2 (fun args s t => Cond.after_iff.mpr (by
  first | (rw [show limb_1_2 = Cond.eq .result (.int 1) from rfl, Cond.eq_ints (x := 1) (y := 1) rfl rfl]; simp; done) | (simp [limb_1_2, Cond.value, Term.eval]; done)))⟩
