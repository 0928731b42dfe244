section TEXTX
variable {l : Launch} {w : Nat → Nat} {nb : Nat} {F A F0 A0 : MI} {P : Int32 → MI → MI → Prop} {s : Nat → Nat} {n t : Nat}
def XR (F F' : MI) : Prop := ∀ f a, ¬ (f = 203 ∧ a = 2) → F' f a = F f a
theorem num_loop {i0 : Nat} (hs : ByX A s) (hn : n ≤ 80) (res : Nat × Nat) (kk : ∀ F', XR F0 F' → F' 203 2 = nI res.1 → P (nI res.2) F' A) (h0 : F0 202 2 = nI n) : ∀ (d i v : Nat) (x1 x2 : Int32) (F : MI), d ≤ 4 → i ≤ n → x2 = nI (4 - d) → x1 = nI v → XR F0 F → F 203 2 = nI i → res = numS s n d i v → ZM l mX5_readNumber 3 w nb (qi P) 13 [(0, .ref 2), (1, .int x1), (2, .int x2)] [] F A
  | 0, i, v, x1, x2, F, hd, hi, hx, hy, hX, h3, e => by
    subst hx
    subst hy
    exact vX5_readNumber_13 ⟨fun _ => ⟨_, rfl, by have := kk F hX (by rw [e]; exact h3); rw [e] at this; exact this⟩, fun h => absurd (by decide) h⟩
  | d + 1, i, v, x1, x2, F, hd, hi, hx, hy, hX, h3, e => by
    subst hx
    subst hy
    have h1 : F 202 2 = nI n := (hX _ _ (by omega)).trans h0
    refine vX5_readNumber_13 ⟨fun h => absurd h (nI_ge (b := 4) (by omega) (by decide)), fun _ => s_isAtDigit hs hn h1 h3 (by omega) (fun q1 q2 => z1 ?_) (fun q => z0 ⟨_, rfl, ?_⟩)⟩
    · have hin := hv_in (s := s) (n := n) (i := i) (by omega)
      refine s_peek hs hn h1 h3 (by omega) (s_skip hn h1 h3 hin ?_)
      have ev : (nI v * 10 + pkv s n i) - 48 = nI (10 * v + (hv s n i - 48)) := by
        rw [(pkv_eq hs hn (c := hv s n i) (by omega) (by omega)).mpr rfl]
        show nI v * nI 10 + nI (hv s n i) - nI 48 = _
        rw [pk_mul, nI_add, pk_sub (by omega)]
        congr 1
        omega
      rw [ev]
      refine num_loop (i0 := i0) hs hn res kk h0 d (i + 1) (10 * v + (hv s n i - 48)) _ _ _ (by omega) hin ?_ rfl (fun f a q => (u2_ne q).trans (hX f a q)) u2_s ?_
      · rw [nI_1]
        congr 1
        omega
      · rw [e]
        conv => lhs; unfold numS
        rw [if_pos (dg_iff.mpr ⟨q1, q2⟩)]
    · have e2 : res = (i, v) := by
        rw [e]
        unfold numS
        rw [if_neg (by rw [dg_no.mpr q]; decide)]
      have := kk F hX (by rw [e2]; exact h3)
      rw [e2] at this
      exact this
theorem s_readNumX {i : Nat} (hs : ByX A s) (hn : n ≤ 80) (h1 : F 202 2 = nI n) (h2 : F 203 2 = nI i) (hi : i ≤ n) (k0 : dgB s n i = false → P (-1) F A) (k1 : dgB s n i = true → ∀ F', XR F F' → F' 203 2 = nI (numS s n 4 i 0).1 → P (nI (numS s n 4 i 0).2) F' A) : CM l mX5_readNumber 3 w nb [.ref 2] F A (qi P) :=
  kX5_readNumber (s_isAtDigit hs hn h1 h2 (by omega) (fun q1 q2 => n1 (num_loop (i0 := i) hs hn (numS s n 4 i 0) (fun F' a b => k1 (dg_iff.mpr ⟨q1, q2⟩) F' a b) h1 4 i 0 0 0 F (by decide) hi rfl rfl (fun _ _ _ => rfl) h2 rfl)) (fun q => n0 ⟨_, rfl, k0 (dg_no.mpr q)⟩))
/-- the place of a TEXT while it is read -/
def TXf (F0 A0 : MI) (t : Nat) (F A : MI) : Prop := (∀ f a, ¬ ((f = 203 ∧ a = 2) ∨ (f = 42 ∧ a = t)) → F f a = F0 f a) ∧ ∀ a j, ¬ (a = t + 1 ∨ a = t + 2) → A a j = A0 a j
def TX (F0 A0 : MI) (t i : Nat) (cls : List (Nat × Int32)) (F A : MI) : Prop := TXf F0 A0 t F A ∧ F 203 2 = nI i ∧ okX F A t cls
theorem tx_3 (ht : isTx t) : t ≠ 2 ∧ t + 1 ≠ 3 ∧ t + 2 ≠ 3 := by rcases ht with z | ⟨c, hc, z⟩ <;> omega
theorem TXf.by (h : TXf F0 A0 t F A) (ht : isTx t) (hs : ByX A0 s) : ByX A s := fun k hk => by rw [h.2 3 k (by have := tx_3 ht; omega)]; exact hs k hk
theorem TXf.len (h : TXf F0 A0 t F A) (h0 : F0 202 2 = nI n) : F 202 2 = nI n := (h.1 _ _ (by omega)).trans h0
theorem TXf.xr {F' : MI} (h : TXf F0 A0 t F A) (hX : XR F F') : TXf F0 A0 t F' A := ⟨fun f a q => (hX f a (by omega)).trans (h.1 f a q), h.2⟩
theorem TXf.at (h : TXf F0 A0 t F A) (x : Int32) : TXf F0 A0 t (u2 F 203 2 x) A := ⟨fun f a q => (u2_ne (by omega)).trans (h.1 f a q), h.2⟩
theorem okX.xr {F' : MI} {cls : List (Nat × Int32)} (h : okX F A t cls) (e : F' 42 t = F 42 t) : okX F' A t cls := fun br ag ms h1 h2 h3 => by
  rw [← h br ag ms h1 h2 h3, letX_iff, letX_iff, e]
theorem s_least {i k wh ab : Nat} {cls : List (Nat × Int32)} (ht : isTx t) (hs : ByX A s) (hn : n ≤ 80) (h0 : F0 202 2 = nI n) (hT : TXf F0 A0 t F A) (h2 : F 203 2 = nI i) (hi : i ≤ n) (hk : k < 4) (hok : okX F A t cls) (hab : ab ≤ 1) (hcl : ∀ v br ag ms, v < 10000 → ag ≤ 200 → (∀ m, ms m ≤ 99) → (clM (nI wh) (nI v) br ag ms ↔ nI v + nI ab ≤ vsp ag ms k)) (kF : ∀ F' A', TXf F0 A0 t F' A' → nmC s n i wh = (1, i, 0, 0) → P (nI (100 * 1 + i)) F' A') (kOk : ∀ F' A', (nmC s n i wh).1 = 0 → TX F0 A0 t (nmC s n i wh).2.1 (cls ++ [(nmC s n i wh).2.2]) F' A' → P 0 F' A') : CM l mX1_readLeast 4 w nb [.ref t, .ref 2, .int (nI k), .int (nI ab)] F A (qi P) := by
  have hv := vp_in_nI hk (N := 4) (by decide)
  refine kX1_readLeast ht (s_readNumX hs hn (hT.len h0) h2 hi (fun q => ⟨fun z => absurd rfl z, fun _ => s_faultHere (k := 1) h2 ⟨_, rfl, kF F A hT (by unfold nmC; rw [if_neg (by rw [q]; decide)])⟩⟩) (fun q F' hX e => ?_))
  obtain ⟨n1, n2, n3, n4⟩ := numS_ok (fun k hk => (hs k hk).2) hn 4 i 0 hi
  have nm : nmC s n i wh = (0, (numS s n 4 i 0).1, wh, nI (numS s n 4 i 0).2) := by unfold nmC; rw [if_pos q]
  rw [nI_clamp (by omega)]
  refine ⟨fun _ => ⟨hv, hv, 0, rfl, kOk _ _ (by rw [nm]) ?_⟩, fun z => absurd z (m1_ne (by omega))⟩
  rw [nm]
  refine ⟨⟨fun f a z => (hX f a (by omega)).trans (hT.1 f a z), fun a j z => (u2_n1 (by omega)).trans (hT.2 a j z)⟩, e, hok.add (fun br ag ms a1 a2 a3 => ?_)⟩
  have eF : F' 42 t = F 42 t := hX _ _ (by omega)
  rw [up_least (F := F) hk eF]
  exact ⟨fun z => ⟨z.1, (hcl _ br ag ms (by omega) a2 a3).mpr z.2⟩, fun z => ⟨z.1, (hcl _ br ag ms (by omega) a2 a3).mp z.2⟩⟩
theorem s_most {i k wh ab : Nat} {cls : List (Nat × Int32)} (ht : isTx t) (hs : ByX A s) (hn : n ≤ 80) (h0 : F0 202 2 = nI n) (hT : TXf F0 A0 t F A) (h2 : F 203 2 = nI i) (hi : i ≤ n) (hk : k < 4) (hok : okX F A t cls) (hab : ab ≤ 1) (hcl : ∀ v br ag ms, v < 10000 → ag ≤ 200 → (∀ m, ms m ≤ 99) → (clM (nI wh) (nI v) br ag ms ↔ vsp ag ms k ≤ nI v - nI ab)) (kF : ∀ F' A', TXf F0 A0 t F' A' → nmC s n i wh = (1, i, 0, 0) → P (nI (100 * 1 + i)) F' A') (kOk : ∀ F' A', (nmC s n i wh).1 = 0 → TX F0 A0 t (nmC s n i wh).2.1 (cls ++ [(nmC s n i wh).2.2]) F' A' → P 0 F' A') : CM l mX1_readMost 4 w nb [.ref t, .ref 2, .int (nI k), .int (nI ab)] F A (qi P) := by
  have hv := vp_in_nI hk (N := 4) (by decide)
  refine kX1_readMost ht (s_readNumX hs hn (hT.len h0) h2 hi (fun q => ⟨fun z => absurd rfl z, fun _ => s_faultHere (k := 1) h2 ⟨_, rfl, kF F A hT (by unfold nmC; rw [if_neg (by rw [q]; decide)])⟩⟩) (fun q F' hX e => ?_))
  obtain ⟨n1, n2, n3, n4⟩ := numS_ok (fun k hk => (hs k hk).2) hn 4 i 0 hi
  have nm : nmC s n i wh = (0, (numS s n 4 i 0).1, wh, nI (numS s n 4 i 0).2) := by unfold nmC; rw [if_pos q]
  rw [nI_clamp (by omega)]
  refine ⟨fun _ => ⟨hv, hv, 0, rfl, kOk _ _ (by rw [nm]) ?_⟩, fun z => absurd z (m1_ne (by omega))⟩
  rw [nm]
  refine ⟨⟨fun f a z => (hX f a (by omega)).trans (hT.1 f a z), fun a j z => (u2_n1 (by omega)).trans (hT.2 a j z)⟩, e, hok.add (fun br ag ms a1 a2 a3 => ?_)⟩
  have eF : F' 42 t = F 42 t := hX _ _ (by omega)
  rw [up_most (F := F) hk eF]
  exact ⟨fun z => ⟨z.1, (hcl _ br ag ms (by omega) a2 a3).mpr z.2⟩, fun z => ⟨z.1, (hcl _ br ag ms (by omega) a2 a3).mp z.2⟩⟩
theorem breeds_loop {F1 : MI} (ht : isTx t) (hs : ByX A s) (hn : n ≤ 80) (h0 : F1 202 2 = nI n) (res : Nat × Nat × Int32) (kOk : ∀ F', XR F1 F' → F' 203 2 = nI res.2.1 → res.1 = 0 → P 0 (u2 F' 42 t (F1 42 t &&& res.2.2)) A) (kF : ∀ F', XR F1 F' → res.1 = 2 → P (nI (100 * 2 + res.2.1)) F' A) : ∀ (d i : Nat) (x2 x3 : Int32) (F : MI), d ≤ 4 → i ≤ n → x3 = nI (4 - d) → XR F1 F → F 203 2 = nI i → res = brS s n d i x2 → ZM l mX1_readBreeds 3 w nb (qi P) 17 [(0, .ref t), (1, .ref 2), (2, .int x2), (3, .int x3)] [] F A
  | 0, i, x2, x3, F, hd, hi, hx, hX, h3, e => by
    subst hx
    have e2 : res = (0, i, x2) := e
    refine vX1_readBreeds_17 ht ⟨fun _ => ⟨0, rfl, ?_⟩, fun h => absurd (by decide) h⟩
    rw [hX 42 t (by omega)]
    have := kOk F hX (by rw [e2]; exact h3) (by rw [e2])
    rw [e2] at this
    exact this
  | d + 1, i, x2, x3, F, hd, hi, hx, hX, h3, e => by
    subst hx
    have h1 : F 202 2 = nI n := (hX _ _ (by omega)).trans h0
    refine vX1_readBreeds_17 ht ⟨fun h => absurd h (nI_ge (b := 4) (by omega) (by decide)), fun _ => s_isAtDigit hs hn h1 h3 (by omega) (fun q1 q2 => z1 ?_) (fun q => z0 ⟨0, rfl, ?_⟩)⟩
    · have hin := hv_in (s := s) (n := n) (i := i) (by omega)
      have ep : pkv s n i - 48 = nI (hv s n i - 48) := by
        rw [(pkv_eq hs hn (c := hv s n i) (by omega) (by omega)).mpr rfl]
        show nI (hv s n i) - nI 48 = _
        rw [pk_sub (by omega)]
      have eu : brS s n (d + 1) i x2 = if 52 ≤ hv s n i then (2, i, x2) else brS s n d (i + 1) (x2 ||| (1 <<< (nI (hv s n i - 48) &&& 31))) := by
        conv => lhs; unfold brS
        rw [if_pos (dg_iff.mpr ⟨q1, q2⟩)]
      refine s_peek hs hn h1 h3 (by omega) ?_
      rw [ep]
      refine ⟨fun z => s_skip hn h1 h3 hin ?_, fun z => s_faultHere (k := 2) h3 ⟨_, rfl, ?_⟩⟩
      · have z' : ¬ 52 ≤ hv s n i := fun y => by
          have := i_lt.mp z
          rw [nI_toInt (by omega)] at this
          have e4 : (4 : Int32).toInt = 4 := rfl
          omega
        rw [if_neg z'] at eu
        exact breeds_loop ht hs hn h0 res kOk kF d (i + 1) _ _ _ (by omega) hin (by rw [nI_1]; congr 1; omega) (fun f a q => (u2_ne q).trans (hX f a q)) u2_s (e.trans eu)
      · have z' : 52 ≤ hv s n i := by
          rcases Nat.lt_or_ge (hv s n i) 52 with y | y
          · exact absurd (nI_lt (a := hv s n i - 48) (b := 4) (by omega) (by decide)) z
          · exact y
        rw [if_pos z'] at eu
        have e2 : res = (2, i, x2) := e.trans eu
        have := kF F hX (by rw [e2])
        rw [e2] at this
        exact this
    · have e2 : res = (0, i, x2) := by
        rw [e]
        unfold brS
        rw [if_neg (by rw [dg_no.mpr q]; decide)]
      rw [hX 42 t (by omega)]
      have := kOk F hX (by rw [e2]; exact h3) (by rw [e2])
      rw [e2] at this
      exact this
end TEXTX
