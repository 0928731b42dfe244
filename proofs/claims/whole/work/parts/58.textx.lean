section TEXTX3
variable {l : Launch} {w : Nat → Nat} {nb : Nat} {F A F0 A0 : MI} {P : Int32 → MI → MI → Prop} {s : Nat → Nat} {n t : Nat}
theorem hcl_f : ∀ v br ag (ms : Nat → Nat), v < 10000 → ag ≤ 200 → (∀ m, ms m ≤ 99) → (clM (nI 1) (nI v) br ag ms ↔ nI v + nI 0 ≤ vsp ag ms 0) := fun v br ag ms _ _ _ => by
  rw [cl_1, nI_add]; exact Iff.rfl
theorem hcl_t : ∀ v br ag (ms : Nat → Nat), v < 10000 → ag ≤ 200 → (∀ m, ms m ≤ 99) → (clM (nI 2) (nI v) br ag ms ↔ vsp ag ms 0 ≤ nI v - nI 0) := fun v br ag ms _ _ _ => by
  rw [cl_2, pk_sub (Nat.zero_le v)]; exact Iff.rfl
theorem hcl_m {m : Nat} (hm : m < 3) : ∀ v br ag (ms : Nat → Nat), v < 10000 → ag ≤ 200 → (∀ m, ms m ≤ 99) → (clM (nI (3 + m)) (nI v) br ag ms ↔ nI v + nI 1 ≤ vsp ag ms (1 + m)) := fun v br ag ms h1 _ h3 => by
  have := h3 m
  have e : vsp ag ms (1 + m) = nI (ms m) := by rw [Nat.add_comm]; rfl
  rw [cl_3 hm, nI_add, e, i_lt, i_le, nI_toInt (by omega), nI_toInt (by omega), nI_toInt (by omega)]
  omega
theorem hcl_l {m : Nat} (hm : m < 3) : ∀ v br ag (ms : Nat → Nat), v < 10000 → ag ≤ 200 → (∀ m, ms m ≤ 99) → (clM (nI (6 + m)) (nI v) br ag ms ↔ vsp ag ms (1 + m) ≤ nI v - nI 1) := fun v br ag ms h1 _ h3 => by
  have := h3 m
  have e : vsp ag ms (1 + m) = nI (ms m) := by rw [Nat.add_comm]; rfl
  rw [cl_6 hm, e, i_lt, i_le, pk_sub_toInt (by omega) (by omega), nI_toInt (by omega), nI_toInt (by omega)]
  omega
theorem clauseX {i : Nat} {cls : List (Nat × Int32)} (ht : isTx t) (hs0 : ByX A0 s) (hn : n ≤ 80) (h0 : F0 202 2 = nI n) (hi : i ≤ n) (hT : TX F0 A0 t i cls F A) (kF : ∀ F' A', TXf F0 A0 t F' A' → (clS s n i).1 ≠ 0 → P (nI (100 * (clS s n i).1 + (clS s n i).2.1)) F' A') (kOk : ∀ F' A', (clS s n i).1 = 0 → TX F0 A0 t (clS s n i).2.1 (cls ++ [(clS s n i).2.2]) F' A' → P 0 F' A') : CM l mX1_readClause 6 w nb [.ref t, .ref 2] F A (qi P) := by
  have hs := hT.1.by ht hs0
  have h1 := hT.1.len h0
  have kF1 : ∀ F' A' (j : Nat), TXf F0 A0 t F' A' → clS s n i = (1, j, 0, 0) → P (nI (100 * 1 + j)) F' A' := fun F' A' j a b => by
    have := kF F' A' a (by rw [b]; show (1 : Nat) ≠ 0; omega)
    rw [b] at this; exact this
  have kF2 : ∀ F' A' (j : Nat), TXf F0 A0 t F' A' → clS s n i = (2, j, 0, 0) → P (nI (100 * 2 + j)) F' A' := fun F' A' j a b => by
    have := kF F' A' a (by rw [b]; show (2 : Nat) ≠ 0; omega)
    rw [b] at this; exact this
  have kN : ∀ (j wh : Nat), clS s n i = nmC s n j wh → (∀ F' A', TXf F0 A0 t F' A' → nmC s n j wh = (1, j, 0, 0) → P (nI (100 * 1 + j)) F' A') ∧ (∀ F' A', (nmC s n j wh).1 = 0 → TX F0 A0 t (nmC s n j wh).2.1 (cls ++ [(nmC s n j wh).2.2]) F' A' → P 0 F' A') := fun j wh e => by
    rw [e] at kOk
    exact ⟨fun F' A' a b => kF1 F' A' j a (e.trans b), kOk⟩
  refine kX1_readClause ht (s_skipIf hs hn h1 hT.2.1 (by omega) (c := 98) (by decide) (by decide) (fun q => z1 ?_) (fun q98 => z0 ?_))
  · -- BREEDS
    have hin := hv_in (s := s) (n := n) (i := i) (by omega)
    have hT1 := hT.1.at (nI (i + 1))
    have h11 := hT1.len h0
    refine kX1_readBreeds ht (s_isAtDigit hs hn h11 u2_s (by omega) (fun q1 q2 => n1 ?_) (fun qd => n0 (s_faultHere (k := 1) u2_s ⟨_, rfl, _, rfl, kF1 _ _ (i + 1) hT1 ?_⟩)))
    · have e : clS s n i = ((brS s n 4 (i + 1) 0).1, (brS s n 4 (i + 1) 0).2.1, 0, (brS s n 4 (i + 1) 0).2.2) := by
        unfold clS
        rw [if_pos q, if_pos (dg_iff.mpr ⟨q1, q2⟩)]
      rw [e] at kF kOk
      generalize hb : brS s n 4 (i + 1) 0 = rb at kF kOk
      refine breeds_loop (P := fun z F A => (qi P) (some (.int z)) F A) ht hs hn h11 rb (fun F' hX e3 e0 => ⟨0, rfl, kOk _ _ e0 ?_⟩) (fun F' hX e2 => ⟨_, rfl, ?_⟩) 4 (i + 1) 0 0 _ (by decide) hin rfl (fun _ _ _ => rfl) u2_s hb.symm
      · have e42 : (u2 F 203 2 (nI (i + 1))) 42 t = F 42 t := u2_n1 (by decide)
        refine ⟨⟨fun f a z => (u2_ne (by omega)).trans ((hX f a (by omega)).trans (hT1.1 f a z)), hT1.2⟩, (u2_n1 (by decide)).trans e3, hT.2.2.add (fun br ag ms a1 a2 a3 => ?_)⟩
        rw [up_br (F := F) (x := rb.2.2) (by rw [u2_s, e42])]
        show _ ↔ _ ∧ clM (nI 0) rb.2.2 br ag ms
        rw [cl_0]
      · have := kF F' A (hT1.xr hX) (by show rb.1 ≠ 0; omega)
        have this2 : P (nI (100 * rb.1 + rb.2.1)) F' A := this
        rw [e2] at this2
        exact this2
    · unfold clS
      rw [if_pos q, if_neg (by rw [dg_no.mpr qd]; decide)]
  refine s_skipIf hs hn h1 hT.2.1 (by omega) (c := 102) (by decide) (by decide) (fun q => z1 ?_) (fun q102 => z0 ?_)
  · have hin := hv_in (s := s) (n := n) (i := i) (by omega)
    have k := kN (i + 1) 1 (by unfold clS; rw [if_neg q98, if_pos q])
    have hT1 := hT.1.at (nI (i + 1))
    exact s_least (k := 0) (ab := 0) (P := fun z F A => (qi P) (some (.int z)) F A) ht hs hn h0 hT1 u2_s hin (by decide) (hT.2.2.xr (u2_n1 (by decide))) (by decide) hcl_f (fun F' A' a b => ⟨_, rfl, k.1 F' A' a b⟩) (fun F' A' a b => ⟨_, rfl, k.2 F' A' a b⟩)
  refine s_skipIf hs hn h1 hT.2.1 (by omega) (c := 116) (by decide) (by decide) (fun q => z1 ?_) (fun q116 => z0 ?_)
  · have hin := hv_in (s := s) (n := n) (i := i) (by omega)
    have k := kN (i + 1) 2 (by unfold clS; rw [if_neg q98, if_neg q102, if_pos q])
    have hT1 := hT.1.at (nI (i + 1))
    exact s_most (k := 0) (ab := 0) (P := fun z F A => (qi P) (some (.int z)) F A) ht hs hn h0 hT1 u2_s hin (by decide) (hT.2.2.xr (u2_n1 (by decide))) (by decide) hcl_t (fun F' A' a b => ⟨_, rfl, k.1 F' A' a b⟩) (fun F' A' a b => ⟨_, rfl, k.2 F' A' a b⟩)
  refine s_skipIf hs hn h1 hT.2.1 (by omega) (c := 109) (by decide) (by decide) (fun q => z1 ?_) (fun q109 => z0 (s_faultHere (k := 1) hT.2.1 ⟨_, rfl, kF1 F A i hT.1 (by unfold clS; rw [if_neg q98, if_neg q102, if_neg q116, if_neg q109])⟩))
  -- a MEASURE
  have hin := hv_in (s := s) (n := n) (i := i) (by omega)
  have hT1 := hT.1.at (nI (i + 1))
  have h11 := hT1.len h0
  have base : clS s n i = (if dgB s n (i + 1) = true then (if 51 ≤ hv s n (i + 1) then (2, i + 1, 0, 0) else if hv s n (i + 2) = 62 then nmC s n (i + 3) (3 + (hv s n (i + 1) - 48)) else if hv s n (i + 2) = 60 then nmC s n (i + 3) (6 + (hv s n (i + 1) - 48)) else (1, i + 2, 0, 0)) else (1, i + 1, 0, 0)) := by
    unfold clS
    rw [if_neg q98, if_neg q102, if_neg q116, if_pos q]
  refine kX1_readMeasure ht (s_isAtDigit hs hn h11 u2_s (by omega) (fun q1 q2 => n1 ?_) (fun qd => n0 (s_faultHere (k := 1) u2_s ⟨_, rfl, _, rfl, kF1 _ _ (i + 1) hT1 (by rw [base, if_neg (by rw [dg_no.mpr qd]; decide)])⟩)))
  rw [if_pos (dg_iff.mpr ⟨q1, q2⟩)] at base
  have ep : pkv s n (i + 1) - 48 = nI (hv s n (i + 1) - 48) := by
    rw [(pkv_eq hs hn (c := hv s n (i + 1)) (by omega) (by omega)).mpr rfl]
    show nI (hv s n (i + 1)) - nI 48 = _
    rw [pk_sub (by omega)]
  refine s_peek hs hn h11 u2_s (by omega) ?_
  rw [ep]
  have hin1 := hv_in (s := s) (n := n) (i := i + 1) (by omega)
  refine ⟨fun z => s_skip hn h11 u2_s hin1 ?_, fun z => s_faultHere (k := 2) u2_s ⟨_, rfl, _, rfl, kF2 _ _ (i + 1) hT1 ?_⟩⟩
  rotate_left
  · rw [base, if_pos]
    rcases Nat.lt_or_ge (hv s n (i + 1)) 51 with y | y
    · exact absurd (nI_lt (a := hv s n (i + 1) - 48) (b := 3) (by omega) (by decide)) z
    · exact y
  have z' : ¬ 51 ≤ hv s n (i + 1) := fun y => by
    have := i_lt.mp z
    rw [nI_toInt (by omega)] at this
    have e4 : (3 : Int32).toInt = 3 := rfl
    omega
  rw [if_neg z'] at base
  have e1m : (1 + nI (hv s n (i + 1) - 48) : Int32) = nI (1 + (hv s n (i + 1) - 48)) := by
    show nI 1 + _ = _
    rw [nI_add]
  rw [e1m]
  have hT2 := hT1.at (nI (i + 1 + 1))
  have h12 := hT2.len h0
  have ok2 : ∀ x y : Int32, okX (u2 (u2 F 203 2 x) 203 2 y) A t cls := fun x y => hT.2.2.xr ((u2_n1 (by decide)).trans (u2_n1 (by decide)))
  refine s_skipIf hs hn h12 u2_s (by omega) (c := 62) (by decide) (by decide) (fun q62 => z1 ?_) (fun q62 => z0 ?_)
  · have q62' : hv s n (i + 2) = 62 := q62
    rw [if_pos q62'] at base
    have hin2 := hv_in (s := s) (n := n) (i := i + 2) (by omega)
    have k := kN (i + 3) _ base
    have hT3 := hT2.at (nI (i + 1 + 1 + 1))
    exact s_least (i := i + 3) (ab := 1) (P := fun z F A => qi (fun r F A => qi P (some (.int r)) F A) (some (.int z)) F A) ht hs hn h0 hT3 u2_s hin2 (by omega) ((ok2 _ _).xr (u2_n1 (by decide))) (by decide) (hcl_m (by omega)) (fun F' A' a b => ⟨_, rfl, _, rfl, k.1 F' A' a b⟩) (fun F' A' a b => ⟨_, rfl, _, rfl, k.2 F' A' a b⟩)
  have q62' : ¬ hv s n (i + 2) = 62 := q62
  rw [if_neg q62'] at base
  refine s_skipIf hs hn h12 u2_s (by omega) (c := 60) (by decide) (by decide) (fun q60 => z1 ?_) (fun q60 => z0 (s_faultHere (k := 1) u2_s ⟨_, rfl, _, rfl, kF1 _ _ (i + 2) hT2 ?_⟩))
  · have q60' : hv s n (i + 2) = 60 := q60
    rw [if_pos q60'] at base
    have hin2 := hv_in (s := s) (n := n) (i := i + 2) (by omega)
    have k := kN (i + 3) _ base
    have hT3 := hT2.at (nI (i + 1 + 1 + 1))
    exact s_most (i := i + 3) (ab := 1) (P := fun z F A => qi (fun r F A => qi P (some (.int r)) F A) (some (.int z)) F A) ht hs hn h0 hT3 u2_s hin2 (by omega) ((ok2 _ _).xr (u2_n1 (by decide))) (by decide) (hcl_l (by omega)) (fun F' A' a b => ⟨_, rfl, _, rfl, k.1 F' A' a b⟩) (fun F' A' a b => ⟨_, rfl, _, rfl, k.2 F' A' a b⟩)
  · have q60' : ¬ hv s n (i + 2) = 60 := q60
    rw [base, if_neg q60']
theorem s_clauseLetter {i : Nat} (hs : ByX A s) (hn : n ≤ 80) (k1 : letr s n i = true → P 1 F A) (k0 : letr s n i = false → P 0 F A) : CM l mX1_isClauseLetter 1 w nb [.int (pkv s n i)] F A (qi P) := by
  have e : ∀ c : Nat, c ≠ 0 → c < 256 → (pkv s n i = nI c ↔ hv s n i = c) := fun c h0 hc => pkv_eq hs hn h0 hc
  refine kX1_isClauseLetter ?_
  have e98 : pkv s n i = 98 ↔ hv s n i = 98 := e 98 (by decide) (by decide)
  have e102 : pkv s n i = 102 ↔ hv s n i = 102 := e 102 (by decide) (by decide)
  have e116 : pkv s n i = 116 ↔ hv s n i = 116 := e 116 (by decide) (by decide)
  have e109 : pkv s n i = 109 ↔ hv s n i = 109 := e 109 (by decide) (by decide)
  rw [e98, e102, e116, e109]
  refine ⟨fun q => ⟨_, rfl, k1 ?_⟩, fun a => ⟨fun q => ⟨_, rfl, k1 ?_⟩, fun b => ⟨fun q => ⟨_, rfl, k1 ?_⟩, fun c => ⟨fun d => ⟨_, rfl, k0 ?_⟩, fun q => ⟨_, rfl, k1 ?_⟩⟩⟩⟩⟩
  all_goals
    unfold letr
    first
      | simp [q]
      | simp [a, b, c, d]
theorem readX {cls0 : List (Nat × Int32)} (ht : isTx t) (hs0 : ByX A0 s) (hn : n ≤ 80) (h0 : F0 202 2 = nI n) (res : TR) (kOk : ∀ F A, TXf F0 A0 t F A → res.1 = 0 → okX F A t res.2.2 → P 0 F A) (kF : ∀ F A, TXf F0 A0 t F A → res.1 ≠ 0 → P (nI (100 * res.1 + res.2.1)) F A) : ∀ (k i : Nat) (cls : List (Nat × Int32)) (x2 : Int32) (F A : MI), 80 < i + k → i ≤ n → cls.length ≤ 8 → x2 = nI cls.length → TX F0 A0 t i cls F A → res = txS s n k i cls → ZM l mX1_readFrom 7 w nb (qi P) 15 [(0, .ref t), (1, .ref 2), (2, .int x2)] [] F A
  | 0, i, cls, x2, F, A, hk, hi, hl, hx, hT, e => by omega
  | k + 1, i, cls, x2, F, A, hk, hi, hl, hx, hT, e => by
    subst hx
    have hs := hT.1.by ht hs0
    have h1 := hT.1.len h0
    unfold txS at e
    have fault : ∀ (b p : Nat) (F' A' : MI), TXf F0 A0 t F' A' → res = (b, p, []) → b ≠ 0 → P (nI (100 * b + p)) F' A' := fun b p F' A' a c d => by
      have := kF F' A' a (by rw [c]; exact d)
      rw [c] at this
      exact this
    refine vX1_readFrom_15 ht ⟨fun h => ?_, fun h => ?_⟩
    · have h8 : cls.length = 8 := by
        rcases Nat.lt_or_ge cls.length 8 with z | z
        · exact absurd h (nI_ge (b := 8) z (by decide))
        · omega
      rw [if_pos h8] at e
      refine s_peek hs hn h1 hT.2.1 (by omega) (s_clauseLetter hs hn (fun q => z1 (vX1_readFrom_79 ht (s_faultHere (k := 3) hT.2.1 ⟨_, rfl, fault 3 i F A hT.1 ?_ (by decide)⟩))) (fun q => z0 (vX1_readFrom_79 ht (s_faultHere (k := 1) hT.2.1 ⟨_, rfl, fault 1 i F A hT.1 ?_ (by decide)⟩))))
      · rw [if_pos q] at e; exact e
      · rw [if_neg (by rw [q]; decide)] at e; exact e
    · have h8 : ¬ cls.length = 8 := fun z => h (by rw [z]; decide)
      rw [if_neg h8] at e
      obtain ⟨c1, c2, c3, c4, c5⟩ := clS_ok (fun k hk => (hs0 k hk).2) hn hi
      refine clauseX ht hs0 hn h0 hi hT (fun F' A' a b => ?_) (fun F' A' b a => z0 ?_)
      · rw [if_neg b] at e
        exact ⟨fun z => absurd z (nI_ne0 (by omega) (by omega)), fun _ => ⟨_, rfl, fault _ _ F' A' a e b⟩⟩
      · rw [if_pos b] at e
        have hs' := a.1.by ht hs0
        have h1' := a.1.len h0
        have c6 := c5 b
        generalize clS s n i = cl at e a c1 c6
        refine s_isAtEnd hn h1' a.2.1 (by omega) (fun hlt => z0 ?_) (fun hge => z1 ⟨0, rfl, ?_⟩)
        · rw [if_neg (by omega)] at e
          refine s_skipIf hs' hn h1' a.2.1 (by omega) (c := 59) (by decide) (by decide) (fun q => n1 ?_) (fun q => n0 (s_faultHere (k := 1) a.2.1 ⟨_, rfl, fault 1 cl.2.1 F' A' a.1 ?_ (by decide)⟩))
          · rw [if_pos q] at e
            refine readX (cls0 := cls0) ht hs0 hn h0 res kOk kF k (cl.2.1 + 1) (cls ++ [cl.2.2]) _ _ _ (by omega) hlt (by rw [List.length_append]; show cls.length + 1 ≤ 8; omega) ?_ ⟨a.1.at _, u2_s, a.2.2.xr (u2_n1 (by decide))⟩ e
            rw [nI_1, List.length_append]
            rfl
          · rw [if_neg q] at e; exact e
        · rw [if_pos hge] at e
          have := kOk F' A' a.1 (by rw [e]) (by rw [e]; exact a.2.2)
          exact this
theorem s_readFrom (ht : isTx t) (hs0 : ByX A s) (hn : n ≤ 80) (h0 : F 202 2 = nI n) (h3 : F 203 2 = 0) (res : TR) (e : res = if n = 0 then (0, 0, []) else txS s n 81 0 []) (kOk : ∀ F' A', TXf F A t F' A' → res.1 = 0 → okX F' A' t res.2.2 → P 0 F' A') (kF : ∀ F' A', TXf F A t F' A' → res.1 ≠ 0 → P (nI (100 * res.1 + res.2.1)) F' A') : CM l mX1_readFrom 7 w nb [.ref t, .ref 2] F A (qi P) := by
  have h3t := tx_3 ht
  refine kX1_readFrom ht (kX1_letAll ht (s_fill (n := 4) (by decide) (fun T G B hY => ⟨lat1a hY ht, lln1a hY ht⟩) (fun A1 k1 k2 => s_fill (n := 4) (by decide) (fun T G B hY => ⟨lat1b hY ht, lln1b hY ht⟩) (fun A2 j1 j2 => ⟨rfl, ?_⟩))))
  have hT : TX F A t 0 [] (u2 F 42 t 15) A2 := by
    refine ⟨⟨fun f a q => u2_ne (by omega), fun a j q => (j1 a j (by omega)).trans (k1 a j (by omega))⟩, (u2_n1 (by decide)).trans h3, fun br ag ms a1 a2 a3 => ⟨fun _ q hq => absurd hq (List.not_mem_nil), fun _ => ?_⟩⟩
    rw [letX_iff]
    refine ⟨?_, fun k hk => ?_⟩
    · rw [u2_s]
      have : ∀ b, b < 4 → bt 15 b = true := by decide +kernel
      exact this br a1
    · rw [j1 (t + 1) k (by omega), k2 k hk, j2 k hk]
      have hb : ∃ u, u ≤ 200 ∧ vsp ag ms k = nI u := by
        cases k with
        | zero => exact ⟨ag, a2, rfl⟩
        | succ m => exact ⟨ms m, by have := a3 m; omega, rfl⟩
      obtain ⟨u, u1, u2⟩ := hb
      rw [u2, i_le, i_le, nI_toInt (by omega)]
      have e1 : (0 : Int32).toInt = 0 := rfl
      have e2 : (9999 : Int32).toInt = 9999 := rfl
      omega
  refine s_isAtEnd hn (hT.1.len h0) hT.2.1 (by omega) (fun hlt => z0 ?_) (fun hge => z1 ⟨0, rfl, ?_⟩)
  · rw [if_neg (by omega)] at e
    exact readX (cls0 := []) ht hs0 hn h0 res kOk kF 81 0 [] _ _ _ (show 80 < 0 + 81 by decide) (Nat.zero_le n) (by decide) rfl hT e
  · rw [if_pos (by omega)] at e
    exact kOk _ _ hT.1 (by rw [e]) (by rw [e]; exact hT.2.2)
end TEXTX3
