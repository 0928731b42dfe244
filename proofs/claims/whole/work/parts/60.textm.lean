section TEXTM2
variable {l : Launch} {w : Nat → Nat} {nb : Nat} {F A F0 A0 : MI} {P : Int32 → MI → MI → Prop} {V : MI → MI → Prop} {s : Nat → Nat} {n : Nat}
theorem failM97 {b p : Nat} {x2 : Int32} (h : ME b p F) (hV : V F A) : ZM l mX8_breeds 3 w nb (qv V) 97 [(0, .ref 122), (2, .int x2)] [] F A :=
  vX8_breeds_97 (s_keepsE h ⟨rfl, hV⟩)
theorem failM23 {b p : Nat} {x1 x2 : Int32} (h : ME b p F) (hV : V F A) : ZM l mX8_breeds 3 w nb (qv V) 23 [(0, .ref 122), (1, .int x1), (2, .int x2)] [] F A :=
  vX8_breeds_23 ⟨fun _ => failM97 h hV, fun z => absurd z h.ne⟩
theorem failM78 {b p j : Nat} {x1 x2 x3 : Int32} (h : ME b p F) (ej : F 341 122 = nI j) (hj : j < 140) (hV : ∀ F', MR F F' → ME b p F' → V F' A) : ZM l mX8_breeds 3 w nb (qv V) 78 [(0, .ref 122), (1, .int x1), (2, .int x2), (3, .int x3)] [] F A := by
  refine vX8_breeds_78 ?_
  rw [ej, nI_1]
  have h2 := h.at (j := j + 1) (by omega)
  exact failM23 h2 (hV _ (MR.at (F0 := F) (fun _ _ _ => rfl) _) h2)
theorem failM64 {b p j : Nat} {x1 x2 x3 : Int32} (h : ME b p F) (ej : F 341 122 = nI j) (hj : j < 140) (hV : ∀ F', MR F F' → ME b p F' → V F' A) : ZM l mX8_breeds 3 w nb (qv V) 64 [(0, .ref 122), (1, .int x1), (2, .int x2), (3, .int x3)] [] F A :=
  vX8_breeds_64 ⟨fun _ => failM78 h ej hj hV, fun _ => s_fails1 (k := b) h.1 (by have := h.2.2.2; omega) (by have := h.2.2.2; omega) (failM78 h ej hj hV)⟩
theorem breedsM_loop {i0 : Nat} {cls : List (Nat × Int32)} (hs : ByM A s) (hn : n ≤ 80) (h0 : F0 342 122 = nI n) (hi0 : i0 ≤ n) (hl : cls.length < 8) (res : Nat × Nat × Int32) (kOk : ∀ F' A', res.1 = 0 → TS F0 A0 res.2.1 (cls ++ [(0, res.2.2)]) F' A' → V F' A') (k1 : ∀ F', TSf F0 A0 F' A → res.1 = 0 → dgB s n res.2.1 = true → ME 1 res.2.1 F' → V F' A) (k2 : ∀ F', TSf F0 A0 F' A → res.1 = 2 → ME 2 res.2.1 F' → V F' A) : ∀ (d i : Nat) (x2 : Int32) (F : MI), i + d = i0 + 4 → i ≤ n → TS F0 A0 i cls F A → res = brS s n d i x2 → ZM l mX8_breeds 3 w nb (qv V) 23 [(0, .ref 122), (1, .int (nI i0)), (2, .int x2)] [] F A
  | 0, i, x2, F, hd, hi, hT, e => by
    have e2 : res = (0, i, x2) := e
    have h1 := hT.1.len h0
    refine vX8_breeds_23 ⟨fun z => absurd hT.2.1.2 z, fun _ => s_seesDigit hs hn h1 hT.2.1.1 (by omega) (fun q1 q2 => z1 ?_) (fun q => z0 (vX8_breeds_97 (s_keepsO hT.2.1 hT.2.2.1 hl ⟨rfl, ?_⟩)))⟩
    · have e4 : nI i0 + 4 = nI i := by
        show nI i0 + nI 4 = _
        rw [nI_add]; congr 1; omega
      refine s_here hs hn h1 hT.2.1.1 (by omega) ?_
      rw [hT.2.1.1, e4]
      refine ⟨fun z => absurd rfl z, fun _ => s_fails0 hT.2.1.2 ?_⟩
      have hE := hT.2.1.fail (by omega) (b := 1) (by decide) (by decide) i
      refine failM64 hE ((u2_n1 (by decide)).trans ((u2_n1 (by decide)).trans hT.2.1.1)) (by omega) (fun F' a b => ?_)
      have := k1 F' ((hT.1.mr (MR.fail (F0 := F) (fun _ _ _ => rfl) (nI 1) (nI i))).mr a) (by rw [e2]) (by rw [e2]; exact dg_iff.mpr ⟨q1, q2⟩) (by rw [e2]; exact b)
      exact this
    · have := kOk _ _ (by rw [e2]) (by rw [e2]; exact hT.keep (wh := 0) (x := x2))
      exact this
  | d + 1, i, x2, F, hd, hi, hT, e => by
    have h1 := hT.1.len h0
    refine vX8_breeds_23 ⟨fun z => absurd hT.2.1.2 z, fun _ => s_seesDigit hs hn h1 hT.2.1.1 (by omega) (fun q1 q2 => z1 ?_) (fun q => z0 (vX8_breeds_97 (s_keepsO hT.2.1 hT.2.2.1 hl ⟨rfl, ?_⟩)))⟩
    · have hin := hv_in (s := s) (n := n) (i := i) (by omega)
      have e4 : nI i0 + 4 = nI (i0 + 4) := by
        show nI i0 + nI 4 = _
        rw [nI_add]
      have ep : nI (hv s n i) - 48 = nI (hv s n i - 48) := by
        show nI (hv s n i) - nI 48 = _
        rw [pk_sub (by omega)]
      have eu : brS s n (d + 1) i x2 = if 52 ≤ hv s n i then (2, i, x2) else brS s n d (i + 1) (x2 ||| (1 <<< (nI (hv s n i - 48) &&& 31))) := by
        conv => lhs; unfold brS
        rw [if_pos (dg_iff.mpr ⟨q1, q2⟩)]
      refine s_here hs hn h1 hT.2.1.1 (by omega) ?_
      rw [hT.2.1.1, e4, ep]
      refine ⟨fun _ => vX8_breeds_64 ⟨fun z => vX8_breeds_78 ?_, fun z => ?_⟩, fun z => ?_⟩
      · have z' : ¬ 52 ≤ hv s n i := fun y => by
          have := i_le.mp z
          rw [nI_toInt (by omega)] at this
          have e3 : (3 : Int32).toInt = 3 := rfl
          omega
        rw [if_neg z'] at eu
        rw [hT.2.1.1, nI_1]
        exact breedsM_loop hs hn h0 hi0 hl res kOk k1 k2 d (i + 1) _ _ (by omega) hin ⟨hT.1.mr (MR.at (F0 := F) (fun _ _ _ => rfl) _), hT.2.1.at _, hT.2.2.mr (MR.at (F0 := F) (fun _ _ _ => rfl) _)⟩ (e.trans eu)
      · have z' : 52 ≤ hv s n i := by
          rcases Nat.lt_or_ge (hv s n i) 52 with y | y
          · exact absurd (nI_le (a := hv s n i - 48) (b := 3) (by omega) (by decide)) z
          · exact y
        rw [if_pos z'] at eu
        have e2 : res = (2, i, x2) := e.trans eu
        rw [hT.2.1.1]
        have hE := hT.2.1.fail (by omega) (b := 2) (by decide) (by decide) i
        refine s_fails0 hT.2.1.2 (failM78 hE ((u2_n1 (by decide)).trans ((u2_n1 (by decide)).trans hT.2.1.1)) (by omega) (fun F' a b => ?_))
        have := k2 F' ((hT.1.mr (MR.fail (F0 := F) (fun _ _ _ => rfl) (nI 2) (nI i))).mr a) (by rw [e2]) (by rw [e2]; exact b)
        exact this
      · have := (nI_eq (by omega) (by omega)).mp z
        omega
    · have e2 : res = (0, i, x2) := by
        rw [e]
        unfold brS
        rw [if_neg (by rw [dg_no.mpr q]; decide)]
      have := kOk _ _ (by rw [e2]) (by rw [e2]; exact hT.keep (wh := 0) (x := x2))
      exact this
theorem failM102 {b p : Nat} {x1 x2 s0 : Int32} (h : ME b p F) (hV : V F A) : ZM l mX8_measures 4 w nb (qv V) 102 [(0, .ref 122), (1, .int x1), (2, .int x2)] [.int s0] F A :=
  vX8_measures_102 ⟨fun _ => vX8_measures_116 (s_keepsE h ⟨rfl, hV⟩), fun _ => vX8_measures_116 (s_keepsE h ⟨rfl, hV⟩)⟩
theorem failM77 {b p j : Nat} {x1 x2 : Int32} (h : ME b p F) (ej : F 341 122 = nI j) (hj : j < 140) (hV : ∀ F', MR F F' → ME b p F' → V F' A) : ZM l mX8_measures 4 w nb (qv V) 77 [(0, .ref 122), (1, .int x1), (2, .int x2)] [] F A := by
  refine vX8_measures_77 ⟨fun _ => ?_, fun z => absurd z h.ne⟩
  rw [ej, nI_1]
  have h2 := h.at (j := j + 1) (by omega)
  exact failM102 h2 (hV _ (MR.at (F0 := F) (fun _ _ _ => rfl) _) h2)
theorem failM41 {b p j : Nat} {x1 : Int32} (hs : ByM A s) (hn : n ≤ 80) (h1 : F 342 122 = nI n) (h : ME b p F) (ej : F 341 122 = nI j) (hj : j < 130) (hV : ∀ F', MR F F' → ME b p F' → V F' A) : ZM l mX8_measures 4 w nb (qv V) 41 [(0, .ref 122), (1, .int x1)] [] F A := by
  refine vX8_measures_41 ?_
  rw [ej, nI_1]
  have h2 := h.at (j := j + 1) (by omega)
  have hm := MR.at (F0 := F) (fun _ _ _ => rfl) (nI (j + 1))
  have fin : ∀ F', MR (u2 F 341 122 (nI (j + 1))) F' → ME b p F' → V F' A := fun F' a c => hV F' (hm.trans a) c
  refine s_here hs hn ((hm _ _ (by omega)).trans h1) u2_s (by omega) ⟨fun _ => failM77 h2 u2_s (by omega) fin, fun _ => ⟨fun _ => failM77 h2 u2_s (by omega) fin, fun _ => s_fails1 (k := b) h2.1 (by have := h.2.2.2; omega) (by have := h.2.2.2; omega) (failM77 h2 u2_s (by omega) fin)⟩⟩
theorem clauseM {i : Nat} {cls : List (Nat × Int32)} (hs0 : ByM A0 s) (hn : n ≤ 80) (h0 : F0 342 122 = nI n) (hi : i ≤ n) (hl : cls.length ≤ 8) (hT : TS F0 A0 i cls F A) (res : TR) (k : Nat) (e : res = txS s n (k + 1) i cls) (kF : ∀ F' A' b p, TSf F0 A0 F' A' → ME b p F' → res = (b, p, []) → V F' A') (kOk : ∀ F' A', cls.length < 8 → (clS s n i).1 = 0 → TS F0 A0 (clS s n i).2.1 (cls ++ [(clS s n i).2.2]) F' A' → V F' A') : CM l mX8_clause 5 w nb [.ref 122] F A (qv V) := by
  have hs := hT.1.by hs0
  have h1 := hT.1.len h0
  have hlt : hv s n i < 256 := hv_lt (fun k hk => (hs k hk).2) hn
  have mf : ∀ (b : Nat), MR F (u2 (u2 F 343 122 (nI b)) 344 122 (nI i)) := fun b => MR.fail (F0 := F) (fun _ _ _ => rfl) _ _
  have e' : res = if cls.length = 8 then (if letr s n i = true then (3, i, []) else (1, i, [])) else tlS s n k cls (clS s n i) := by
    rw [e]
    unfold txS tlS
    rfl
  have fail59 : ∀ (b : Nat) (F' : MI) (x1 : Int32), MR F F' → ME b i F' → res = (b, i, []) → ZM l mX8_clause 5 w nb (qv V) 59 [(0, .ref 122), (1, .int x1)] [] F' A := fun b F' x1 a c d => vX8_clause_59 ⟨fun z => absurd z c.nle, fun _ => ⟨rfl, kF F' A b i (hT.1.mr a) c d⟩⟩
  have E : ∀ c : Nat, c < 256 → (nI (hv s n i) = nI c ↔ hv s n i = c) := fun c hc => nI_eq (by omega) (by omega)
  have E98 : nI (hv s n i) = 98 ↔ hv s n i = 98 := E 98 (by decide)
  have E102 : nI (hv s n i) = 102 ↔ hv s n i = 102 := E 102 (by decide)
  have E116 : nI (hv s n i) = 116 ↔ hv s n i = 116 := E 116 (by decide)
  have E109 : nI (hv s n i) = 109 ↔ hv s n i = 109 := E 109 (by decide)
  -- a letter stands here
  have at41 : letr s n i = true → ZM l mX8_clause 5 w nb (qv V) 41 [(0, .ref 122), (1, .int (nI (hv s n i)))] [] F A := by
    intro hle
    refine vX8_clause_41 ?_
    have K8 : F 332 122 = 8 ↔ cls.length = 8 := by
      rw [hT.2.2.1]
      exact nI_eq (b := 8) (by omega) (by omega)
    rw [K8, hT.2.1.1]
    refine ⟨fun h8 => ?_, fun h8 => s_fails0 hT.2.1.2 (fail59 3 _ _ (mf 3) (hT.2.1.fail (by omega) (by decide) (by decide) i) (by rw [e', if_pos h8, if_pos hle]))⟩
    rw [if_neg h8] at e'
    have hl8 : cls.length < 8 := by omega
    have hin := hv_in (s := s) (n := n) (i := i) (by intro z; unfold letr at hle; simp [z] at hle)
    have hT1 : TS F0 A0 (i + 1) cls (u2 F 341 122 (nI (i + 1))) A := ⟨hT.1.mr (MR.at (F0 := F) (fun _ _ _ => rfl) _), hT.2.1.at _, hT.2.2.mr (MR.at (F0 := F) (fun _ _ _ => rfl) _)⟩
    have kOk' := fun F' A' => kOk F' A' hl8
    refine vX8_clause_59 ⟨fun _ => ?_, fun z => absurd (by rw [hT.2.1.2]; decide) z⟩
    rw [hT.2.1.1, nI_1, E98, E109, E102]
    refine ⟨fun q98 => ⟨fun q109 => ⟨fun q102 => vX8_clause_115 ?_, fun q102 => vX8_clause_115 ?_⟩, fun q109 => ?_⟩, fun q98 => ?_⟩
    · have q116 : hv s n i = 116 := by unfold letr at hle; simp [q98, q109, q102] at hle; exact hle
      have ec : clS s n i = nmC s n (i + 1) 2 := by unfold clS; rw [if_neg q98, if_neg q102, if_pos q116]
      rw [ec] at e' kOk'
      exact numKeep (V := fun F A => (qv V) none F A) (wh := 2) hs0 hn h0 hin hl8 hT1 res k e' _ (fun r F' A' z => z) (fun F' A' b p a c d => ⟨rfl, kF F' A' b p a c d⟩) (fun F' A' a c => ⟨rfl, kOk' F' A' a c⟩)
    · have ec : clS s n i = nmC s n (i + 1) 1 := by unfold clS; rw [if_neg q98, if_pos q102]
      rw [ec] at e' kOk'
      exact numKeep (V := fun F A => (qv V) none F A) (wh := 1) hs0 hn h0 hin hl8 hT1 res k e' _ (fun r F' A' z => z) (fun F' A' b p a c d => ⟨rfl, kF F' A' b p a c d⟩) (fun F' A' a c => ⟨rfl, kOk' F' A' a c⟩)
    · -- a MEASURE
      have ec : clS s n i = (if dgB s n (i + 1) = true then (if 51 ≤ hv s n (i + 1) then (2, i + 1, 0, 0) else if hv s n (i + 2) = 62 then nmC s n (i + 3) (3 + (hv s n (i + 1) - 48)) else if hv s n (i + 2) = 60 then nmC s n (i + 3) (6 + (hv s n (i + 1) - 48)) else (1, i + 2, 0, 0)) else (1, i + 1, 0, 0)) := by
        unfold clS
        rw [if_neg q98, if_neg (by omega), if_neg (by omega), if_pos q109]
      have hlt1 : hv s n (i + 1) < 256 := hv_lt (fun k hk => (hs k hk).2) hn
      have h11 := hT1.1.len h0
      have mf1 : ∀ (b p : Nat), MR (u2 F 341 122 (nI (i + 1))) (u2 (u2 (u2 F 341 122 (nI (i + 1))) 343 122 (nI b)) 344 122 (nI p)) := fun b p => MR.fail (F0 := u2 F 341 122 (nI (i + 1))) (fun _ _ _ => rfl) _ _
      have fail41 : ∀ (b : Nat) (x1 : Int32), 1 ≤ b → b ≤ 3 → res = (b, i + 1, []) → ZM l mX8_measures 4 w nb (qv fun F1 A1 => (qv V) none F1 A1) 41 [(0, .ref 122), (1, .int x1)] [] (u2 (u2 (u2 F 341 122 (nI (i + 1))) 343 122 (nI b)) 344 122 (nI (i + 1))) A := fun b x1 b1 b2 d => by
        have hE := hT1.2.1.fail (by omega) b1 b2 (i + 1)
        exact failM41 hs hn ((mf1 b (i + 1) _ _ (by omega)).trans h11) hE ((u2_n1 (by decide)).trans ((u2_n1 (by decide)).trans u2_s)) (by omega) (fun F' a c => ⟨rfl, kF F' A b (i + 1) (hT1.1.mr ((mf1 b (i + 1)).trans a)) c d⟩)
      refine kX8_measures (s_here hs hn h11 hT1.2.1.1 (by omega) (s_seesDigit hs hn h11 hT1.2.1.1 (by omega) (fun q1 q2 => n1 ?_) (fun qd => n0 ?_)))
      rotate_left
      · rw [hT1.2.1.1]
        exact s_fails0 hT1.2.1.2 (fail41 1 _ (by decide) (by decide) (by rw [e', ec, if_neg (by rw [dg_no.mpr qd]; decide), tl_bad (by decide)]))
      rw [if_pos (dg_iff.mpr ⟨q1, q2⟩)] at ec
      have ep : nI (hv s n (i + 1)) - 48 = nI (hv s n (i + 1) - 48) := by
        show nI (hv s n (i + 1)) - nI 48 = _
        rw [pk_sub (by omega)]
      rw [ep]
      refine ⟨fun z => ?_, fun z => ?_⟩
      rotate_left
      · have z' : 51 ≤ hv s n (i + 1) := by
          rcases Nat.lt_or_ge (hv s n (i + 1)) 51 with y | y
          · exact absurd (nI_le (a := hv s n (i + 1) - 48) (b := 2) (by omega) (by decide)) z
          · exact y
        rw [hT1.2.1.1]
        exact s_fails0 hT1.2.1.2 (fail41 2 _ (by decide) (by decide) (by rw [e', ec, if_pos z', tl_bad (by decide)]))
      have z' : ¬ 51 ≤ hv s n (i + 1) := fun y => by
        have := i_le.mp z
        rw [nI_toInt (by omega)] at this
        have e2 : (2 : Int32).toInt = 2 := rfl
        omega
      rw [if_neg z'] at ec
      have hin1 := hv_in (s := s) (n := n) (i := i + 1) (by omega)
      refine vX8_measures_41 ?_
      rw [hT1.2.1.1, nI_1]
      generalize hF2 : u2 (u2 F 341 122 (nI (i + 1))) 341 122 (nI (i + 1 + 1)) = F2
      have hm2 : MR F F2 := by rw [← hF2]; exact MR.at (MR.at (F0 := F) (fun _ _ _ => rfl) _) _
      have hO2 : MO (i + 2) F2 := by rw [← hF2]; exact hT1.2.1.at _
      have h12 : F2 342 122 = nI n := (hm2 _ _ (by omega)).trans h1
      have hlt2 : hv s n (i + 2) < 256 := hv_lt (fun k hk => (hs k hk).2) hn
      have E62 : nI (hv s n (i + 2)) = 62 ↔ hv s n (i + 2) = 62 := nI_eq (b := 62) (by omega) (by omega)
      have E60 : nI (hv s n (i + 2)) = 60 ↔ hv s n (i + 2) = 60 := nI_eq (b := 60) (by omega) (by omega)
      have go77 : ∀ (wh : Nat) (bs : Int32), (hv s n (i + 2) = 62 ∧ bs = 3 ∨ ¬ hv s n (i + 2) = 62 ∧ bs = 6) → bs + nI (hv s n (i + 1) - 48) = nI wh → clS s n i = nmC s n (i + 3) wh → i + 2 < n → ZM l mX8_measures 4 w nb (qv fun F1 A1 => (qv V) none F1 A1) 77 [(0, .ref 122), (1, .int (nI (hv s n (i + 1) - 48))), (2, .int (nI (hv s n (i + 2))))] [] F2 A := by
        intro wh bs hb eb ecl hin2
        rw [ecl] at e' kOk'
        refine vX8_measures_77 ⟨fun z => absurd hO2.2 z, fun _ => ?_⟩
        rw [hO2.1, nI_1]
        have hm3 : MR F (u2 F2 341 122 (nI (i + 2 + 1))) := hm2.at _
        have hT3 : TS F0 A0 (i + 3) cls (u2 F2 341 122 (nI (i + 2 + 1))) A := ⟨hT.1.mr hm3, hO2.at _, hT.2.2.mr hm3⟩
        refine numKeep (V := fun F A => (qv V) none F A) (wh := wh) hs0 hn h0 hin2 hl8 hT3 res k e' _ (fun r F' A' zz => vX8_measures_102 ?_) (fun F' A' b p a c d => ⟨rfl, kF F' A' b p a c d⟩) (fun F' A' a c => ⟨rfl, kOk' F' A' a c⟩)
        rw [E62]
        rcases hb with ⟨b1, b2⟩ | ⟨b1, b2⟩
        · refine ⟨fun y => absurd b1 y, fun _ => vX8_measures_116 ?_⟩
          rw [← b2, eb]
          exact zz.monov (fun F A q => ⟨rfl, q⟩)
        · refine ⟨fun _ => vX8_measures_116 ?_, fun y => absurd y b1⟩
          rw [← b2, eb]
          exact zz.monov (fun F A q => ⟨rfl, q⟩)
      refine s_here hs hn h12 hO2.1 (by omega) ?_
      rw [E62, E60]
      refine ⟨fun q62 => go77 (3 + (hv s n (i + 1) - 48)) 3 (Or.inl ⟨q62, rfl⟩) ?_ (by rw [ec, if_pos q62]) (hv_in (s := s) (by omega)), fun q62 => ⟨fun q60 => go77 (6 + (hv s n (i + 1) - 48)) 6 (Or.inr ⟨q62, rfl⟩) ?_ (by rw [ec, if_neg q62, if_pos q60]) (hv_in (s := s) (by omega)), fun q60 => ?_⟩⟩
      · show nI 3 + _ = _
        rw [nI_add]
      · show nI 6 + _ = _
        rw [nI_add]
      · have hE := hO2.fail (by omega) (b := 1) (by decide) (by decide) (i + 2)
        rw [hO2.1]
        refine s_fails0 hO2.2 (failM77 hE ((u2_n1 (by decide)).trans ((u2_n1 (by decide)).trans hO2.1)) (by omega) (fun F' a c => ⟨rfl, kF F' A 1 (i + 2) (hT.1.mr ((hm2.fail (nI 1) (nI (i + 2))).trans a)) c ?_⟩))
        rw [e', ec, if_neg q62, if_neg q60, tl_bad (by decide)]
    · -- BREEDS
      have h11 := hT1.1.len h0
      refine kX8_breeds (s_seesDigit hs hn h11 hT1.2.1.1 (by omega) (fun q1 q2 => n1 ?_) (fun qd => n0 ?_))
      · have ec : clS s n i = ((brS s n 4 (i + 1) 0).1, (brS s n 4 (i + 1) 0).2.1, 0, (brS s n 4 (i + 1) 0).2.2) := by
          unfold clS
          rw [if_pos q98, if_pos (dg_iff.mpr ⟨q1, q2⟩)]
        rw [ec] at e' kOk'
        obtain ⟨r1, r2, r3⟩ := brS_ok (s := s) (n := n) 4 (i + 1) 0 hin
        generalize hb : brS s n 4 (i + 1) 0 = rb at e' kOk' r1 r2 r3
        rw [hT1.2.1.1]
        refine breedsM_loop (V := fun F A => (qv V) none F A) hs hn h0 hin hl8 rb (fun F' A' a c => ⟨rfl, kOk' F' A' a c⟩) (fun F' a c d f => ⟨rfl, kF F' A 1 rb.2.1 a f ?_⟩) (fun F' a c f => ⟨rfl, kF F' A 2 rb.2.1 a f ?_⟩) 4 (i + 1) 0 _ (by omega) hin hT1 hb.symm
        · rw [e']; exact tl_dg (cl := (rb.1, rb.2.1, 0, rb.2.2)) c d
        · rw [e']
          unfold tlS
          rw [if_neg (by show ¬ rb.1 = 0; omega)]
          show (rb.1, rb.2.1, []) = (2, rb.2.1, [])
          rw [c]
      · rw [hT1.2.1.1]
        have hE := hT1.2.1.fail (by omega) (b := 1) (by decide) (by decide) (i + 1)
        refine s_fails0 hT1.2.1.2 (failM23 hE ⟨rfl, kF _ A 1 (i + 1) (hT1.1.mr (MR.fail (F0 := u2 F 341 122 (nI (i + 1))) (fun _ _ _ => rfl) _ _)) hE ?_⟩)
        have ec : clS s n i = (1, i + 1, 0, 0) := by
          unfold clS
          rw [if_pos q98, if_neg (by rw [dg_no.mpr qd]; decide)]
        rw [e', ec, tl_bad (by decide)]
  refine kX8_clause (s_here hs hn h1 hT.2.1.1 (by omega) ?_)
  rw [E98, E102, E116, E109, hT.2.1.1]
  refine ⟨fun q => at41 (by unfold letr; simp [q]), fun q98 => ⟨fun q => at41 (by unfold letr; simp [q]), fun q102 => ⟨fun q => at41 (by unfold letr; simp [q]), fun q116 => ⟨fun q => at41 (by unfold letr; simp [q]), fun q109 => s_fails0 hT.2.1.2 (fail59 1 _ _ (mf 1) (hT.2.1.fail (by omega) (by decide) (by decide) i) ?_)⟩⟩⟩⟩
  have hle : letr s n i = false := by unfold letr; simp [q98, q102, q116, q109]
  rw [e']
  by_cases h8 : cls.length = 8
  · rw [if_pos h8, if_neg (by rw [hle]; decide)]
  · rw [if_neg h8]
    have ec : clS s n i = (1, i, 0, 0) := by unfold clS; rw [if_neg q98, if_neg q102, if_neg q116, if_neg q109]
    rw [ec, tl_bad (by decide)]
end TEXTM2
