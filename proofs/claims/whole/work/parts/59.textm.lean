section TEXTM
variable {l : Launch} {w : Nat → Nat} {nb : Nat} {F A F0 A0 : MI} {P : Int32 → MI → MI → Prop} {V : MI → MI → Prop} {s : Nat → Nat} {n : Nat}
def MR (F F' : MI) : Prop := ∀ f a, ¬ (a = 122 ∧ (f = 341 ∨ f = 343 ∨ f = 344)) → F' f a = F f a
def MO (i : Nat) (F : MI) : Prop := F 341 122 = nI i ∧ F 343 122 = 0
def ME (b p : Nat) (F : MI) : Prop := F 343 122 = nI b ∧ F 344 122 = nI p ∧ (∃ j, j < 150 ∧ F 341 122 = nI j) ∧ 1 ≤ b ∧ b ≤ 3
theorem ME.ne {b p : Nat} (h : ME b p F) : ¬ F 343 122 = 0 := by rw [h.1]; exact nI_ne0 (by have := h.2.2.2; omega) (by have := h.2.2.2; omega)
theorem ME.nle {b p : Nat} (h : ME b p F) : ¬ F 343 122 ≤ 0 := by rw [h.1]; exact nI_nle (by have := h.2.2.2; omega) (by have := h.2.2.2; omega)
theorem MO.at {i : Nat} (h : MO i F) (j : Nat) : MO j (u2 F 341 122 (nI j)) := ⟨u2_s, (u2_n1 (by decide)).trans h.2⟩
theorem MR.at (h : MR F0 F) (x : Int32) : MR F0 (u2 F 341 122 x) := fun f a q => (u2_ne (by omega)).trans (h f a q)
theorem MR.trans {F1 : MI} (h : MR F0 F1) (g : MR F1 F) : MR F0 F := fun f a q => (g f a q).trans (h f a q)
theorem ME.at {b p j : Nat} (h : ME b p F) (hj : j < 150) : ME b p (u2 F 341 122 (nI j)) := ⟨(u2_n1 (by decide)).trans h.1, (u2_n1 (by decide)).trans h.2.1, ⟨j, hj, u2_s⟩, h.2.2.2⟩
theorem MO.fail {i b : Nat} (h : MO i F) (hi : i < 150) (h1 : 1 ≤ b) (h3 : b ≤ 3) (p : Nat) : ME b p (u2 (u2 F 343 122 (nI b)) 344 122 (nI p)) := ⟨(u2_n1 (by decide)).trans u2_s, u2_s, ⟨i, hi, (u2_n1 (by decide)).trans ((u2_n1 (by decide)).trans h.1)⟩, h1, h3⟩
theorem MR.fail (h : MR F0 F) (x y : Int32) : MR F0 (u2 (u2 F 343 122 x) 344 122 y) := fun f a q => (u2_ne (by omega)).trans ((u2_ne (by omega)).trans (h f a q))
theorem numM_loop {i0 : Nat} (hs : ByM A s) (hn : n ≤ 80) (h0 : F0 342 122 = nI n) (hi0 : i0 ≤ n) (res : Nat × Nat) (k1 : dgB s n res.1 = false → ∀ F', MR F0 F' → MO res.1 F' → P (nI res.2) F' A) (k2 : dgB s n res.1 = true → ∀ v F', MR F0 F' → ME 1 res.1 F' → P v F' A) : ∀ (d i v : Nat) (x2 : Int32) (F : MI), i + d = i0 + 4 → i ≤ n → x2 = nI v → MR F0 F → MO i F → res = numS s n d i v → ZM l mX8_readNumber 3 w nb (qi P) 23 [(0, .ref 122), (1, .int (nI i0)), (2, .int x2)] [] F A
  | 0, i, v, x2, F, hd, hi, hy, hR, hO, e => by
    subst hy
    have e2 : res = (i, v) := e
    have h1 : F 342 122 = nI n := (hR _ _ (by omega)).trans h0
    refine vX8_readNumber_23 ⟨fun z => absurd hO.2 z, fun _ => s_seesDigit hs hn h1 hO.1 (by omega) (fun q1 q2 => z1 ?_) (fun q => z0 ⟨_, rfl, ?_⟩)⟩
    · have e4 : nI i0 + 4 = nI i := by
        show nI i0 + nI 4 = _
        rw [nI_add]; congr 1; omega
      rw [hO.1, e4]
      refine ⟨fun z => absurd rfl z, fun _ => s_fails0 hO.2 (vX8_readNumber_56 ?_)⟩
      have hE := hO.fail (by omega) (b := 1) (by decide) (by decide) i
      have hR2 := hR.fail (nI 1) (nI i)
      have e341 : u2 (u2 F 343 122 1) 344 122 (nI i) 341 122 = nI i := (u2_n1 (by decide)).trans ((u2_n1 (by decide)).trans hO.1)
      refine s_here hs hn ((hR2 _ _ (by omega)).trans h0) e341 (by omega) ?_
      rw [e341, nI_1]
      have hE2 := hE.at (j := i + 1) (by omega)
      refine vX8_readNumber_23 ⟨fun _ => ⟨_, rfl, ?_⟩, fun z => absurd z hE2.ne⟩
      have := k2 (by rw [e2]; exact dg_iff.mpr ⟨q1, q2⟩) (10 * nI v + nI (hv s n i) - 48) _ (hR2.at (nI (i + 1))) (by rw [e2]; exact hE2)
      exact this
    · have := k1 (by rw [e2]; exact dg_no.mpr q) F hR (by rw [e2]; exact hO)
      rw [e2] at this
      exact this
  | d + 1, i, v, x2, F, hd, hi, hy, hR, hO, e => by
    subst hy
    have h1 : F 342 122 = nI n := (hR _ _ (by omega)).trans h0
    refine vX8_readNumber_23 ⟨fun z => absurd hO.2 z, fun _ => s_seesDigit hs hn h1 hO.1 (by omega) (fun q1 q2 => z1 ?_) (fun q => z0 ⟨_, rfl, ?_⟩)⟩
    · have hin := hv_in (s := s) (n := n) (i := i) (by omega)
      have e4 : nI i0 + 4 = nI (i0 + 4) := by
        show nI i0 + nI 4 = _
        rw [nI_add]
      rw [hO.1, e4]
      refine ⟨fun _ => vX8_readNumber_56 (s_here hs hn h1 hO.1 (by omega) ?_), fun z => ?_⟩
      · have ev : (10 * nI v + nI (hv s n i)) - 48 = nI (10 * v + (hv s n i - 48)) := by
          show nI 10 * nI v + nI (hv s n i) - nI 48 = _
          rw [pk_mul, nI_add, pk_sub (by omega)]
          congr 1
          omega
        rw [ev, hO.1, nI_1]
        refine numM_loop hs hn h0 hi0 res k1 k2 d (i + 1) (10 * v + (hv s n i - 48)) _ _ (by omega) hin rfl (hR.at _) (hO.at _) ?_
        rw [e]
        conv => lhs; unfold numS
        rw [if_pos (dg_iff.mpr ⟨q1, q2⟩)]
      · have := (nI_eq (by omega) (by omega)).mp z
        omega
    · have e2 : res = (i, v) := by
        rw [e]
        unfold numS
        rw [if_neg (by rw [dg_no.mpr q]; decide)]
      have := k1 (by rw [e2]; exact dg_no.mpr q) F hR (by rw [e2]; exact hO)
      rw [e2] at this
      exact this
theorem s_readNumM {i : Nat} (hs : ByM A s) (hn : n ≤ 80) (h1 : F 342 122 = nI n) (hO : MO i F) (hi : i ≤ n) (k0 : dgB s n i = false → ∀ v F', MR F F' → ME 1 i F' → P v F' A) (k1 : dgB s n i = true → dgB s n (numS s n 4 i 0).1 = false → ∀ F', MR F F' → MO (numS s n 4 i 0).1 F' → P (nI (numS s n 4 i 0).2) F' A) (k2 : dgB s n i = true → dgB s n (numS s n 4 i 0).1 = true → ∀ v F', MR F F' → ME 1 (numS s n 4 i 0).1 F' → P v F' A) : CM l mX8_readNumber 3 w nb [.ref 122] F A (qi P) := by
  refine kX8_readNumber (s_seesDigit hs hn h1 hO.1 (by omega) (fun q1 q2 => n1 ?_) (fun q => n0 ?_))
  · rw [hO.1]
    exact numM_loop (F0 := F) hs hn h1 hi (numS s n 4 i 0) (k1 (dg_iff.mpr ⟨q1, q2⟩)) (k2 (dg_iff.mpr ⟨q1, q2⟩)) 4 i 0 0 F rfl hi rfl (fun _ _ _ => rfl) hO rfl
  · rw [hO.1]
    have hE := hO.fail (by omega) (b := 1) (by decide) (by decide) i
    exact s_fails0 hO.2 (vX8_readNumber_23 ⟨fun _ => ⟨_, rfl, k0 (dg_no.mpr q) _ _ (MR.fail (F0 := F) (fun _ _ _ => rfl) (nI 1) (nI i)) hE⟩, fun z => absurd z hE.ne⟩)
theorem s_keepsE {b p : Nat} {x1 x2 : Int32} (h : ME b p F) (hV : V F A) : CM l mX8_keeps 1 w nb [.ref 122, .int x1, .int x2] F A (qv V) :=
  kX8_keeps ⟨fun z => absurd z h.nle, fun _ => ⟨rfl, hV⟩⟩
theorem s_keepsO {i K : Nat} {x1 x2 : Int32} (h : MO i F) (hK : F 332 122 = nI K) (h8 : K < 8) (hV : V (u2 F 332 122 (nI (K + 1))) (u2 (u2 A 132 K x1) 133 K x2)) : CM l mX8_keeps 1 w nb [.ref 122, .int x1, .int x2] F A (qv V) := by
  have hv := vp_in_nI h8 (N := 8) (by decide)
  refine kX8_keeps ?_
  rw [h.2, hK, nI_clamp (by omega), nI_1]
  exact ⟨fun _ => ⟨hv, hv, rfl, hV⟩, fun z => absurd (by decide) z⟩
/-- M's TEXT while it is read -/
def TSf (F0 A0 F A : MI) : Prop := (∀ f a, ¬ (a = 122 ∧ (f = 341 ∨ f = 343 ∨ f = 344 ∨ f = 332)) → F f a = F0 f a) ∧ ∀ a j, ¬ (a = 132 ∨ a = 133) → A a j = A0 a j
def KP (cls : List (Nat × Int32)) (F A : MI) : Prop := F 332 122 = nI cls.length ∧ ∀ k q, cls[k]? = some q → A 132 k = nI q.1 ∧ A 133 k = q.2
def TS (F0 A0 : MI) (i : Nat) (cls : List (Nat × Int32)) (F A : MI) : Prop := TSf F0 A0 F A ∧ MO i F ∧ KP cls F A
theorem TSf.mr {F' : MI} (h : TSf F0 A0 F A) (g : MR F F') : TSf F0 A0 F' A := ⟨fun f a q => (g f a (by omega)).trans (h.1 f a q), h.2⟩
theorem KP.mr {F' : MI} {cls : List (Nat × Int32)} (h : KP cls F A) (g : MR F F') : KP cls F' A := ⟨(g _ _ (by omega)).trans h.1, h.2⟩
theorem TSf.len (h : TSf F0 A0 F A) (h0 : F0 342 122 = nI n) : F 342 122 = nI n := (h.1 _ _ (by omega)).trans h0
theorem TSf.by (h : TSf F0 A0 F A) (hs : ByM A0 s) : ByM A s := fun k hk => by rw [h.2 123 k (by omega)]; exact hs k hk
theorem TS.keep {i wh : Nat} {x : Int32} {cls : List (Nat × Int32)} (h : TS F0 A0 i cls F A) : TS F0 A0 i (cls ++ [(wh, x)]) (u2 F 332 122 (nI (cls.length + 1))) (u2 (u2 A 132 cls.length (nI wh)) 133 cls.length x) := by
  refine ⟨⟨fun f a q => (u2_ne (by omega)).trans (h.1.1 f a q), fun a j q => (u2_n1 (by omega)).trans ((u2_n1 (by omega)).trans (h.1.2 a j q))⟩, ⟨(u2_n1 (by decide)).trans h.2.1.1, (u2_n1 (by decide)).trans h.2.1.2⟩, ?_, fun k q hq => ?_⟩
  · rw [u2_s, List.length_append]; rfl
  · rcases Nat.lt_or_ge k cls.length with z | z
    · rw [List.getElem?_append_left z] at hq
      have := h.2.2.2 k q hq
      rw [u2_ne (by omega), u2_ne (by omega), u2_ne (by omega), u2_ne (by omega)]
      exact this
    · rw [List.getElem?_append_right z] at hq
      have hk : k = cls.length := by
        rcases Nat.lt_or_ge (k - cls.length) 1 with y | y
        · omega
        · rw [List.getElem?_eq_none (by show 1 ≤ _; exact y)] at hq; cases hq
      rw [hk, Nat.sub_self] at hq
      have hq' : (wh, x) = q := by simpa using hq
      rw [hk, ← hq', u2_n1 (by decide), u2_s, u2_s]
      exact ⟨rfl, rfl⟩
def tlS (s : Nat → Nat) (n k : Nat) (cls : List (Nat × Int32)) (cl : CL) : TR := if cl.1 = 0 then (if n ≤ cl.2.1 then (0, 0, cls ++ [cl.2.2]) else if hv s n cl.2.1 = 59 then txS s n k (cl.2.1 + 1) (cls ++ [cl.2.2]) else (1, cl.2.1, [])) else (cl.1, cl.2.1, [])
theorem tl_dg {k : Nat} {cls : List (Nat × Int32)} {cl : CL} (h0 : cl.1 = 0) (hd : dgB s n cl.2.1 = true) : tlS s n k cls cl = (1, cl.2.1, []) := by
  have h := dg_iff.mp hd
  have hin := hv_in (s := s) (n := n) (i := cl.2.1) (by omega)
  unfold tlS
  rw [if_pos h0, if_neg (by omega), if_neg (by omega)]
theorem tl_bad {k b p : Nat} {cls : List (Nat × Int32)} (hb : b ≠ 0) : tlS s n k cls (b, p, 0, 0) = (b, p, []) := by
  unfold tlS
  rw [if_neg (show ¬ b = 0 from hb)]
/-- a number, kept -/
theorem numKeep {i wh : Nat} {cls : List (Nat × Int32)} (hs0 : ByM A0 s) (hn : n ≤ 80) (h0 : F0 342 122 = nI n) (hi : i ≤ n) (hl : cls.length < 8) (hT : TS F0 A0 i cls F A) (res : TR) (k : Nat) (e : res = tlS s n k cls (nmC s n i wh)) (R : Int32 → MI → MI → Prop) (hR : ∀ r F' A', CM l mX8_keeps 1 w nb [.ref 122, .int (nI wh), .int r] F' A' (qv V) → R r F' A') (kF : ∀ F' A' b p, TSf F0 A0 F' A' → ME b p F' → res = (b, p, []) → V F' A') (kOk : ∀ F' A', (nmC s n i wh).1 = 0 → TS F0 A0 (nmC s n i wh).2.1 (cls ++ [(nmC s n i wh).2.2]) F' A' → V F' A') : CM l mX8_readNumber 3 w nb [.ref 122] F A (qi R) := by
  refine s_readNumM (hT.1.by hs0) hn (hT.1.len h0) hT.2.1 hi (fun q v F' a b => hR _ _ _ (s_keepsE b (kF F' A 1 i (hT.1.mr a) b ?_))) (fun q q2 F' a b => hR _ _ _ ?_) (fun q q2 v F' a b => hR _ _ _ (s_keepsE b (kF F' A 1 _ (hT.1.mr a) b ?_)))
  · have nm : nmC s n i wh = (1, i, 0, 0) := by unfold nmC; rw [if_neg (by rw [q]; decide)]
    rw [e, nm, tl_bad (by decide)]
  · have nm : nmC s n i wh = (0, (numS s n 4 i 0).1, wh, nI (numS s n 4 i 0).2) := by unfold nmC; rw [if_pos q]
    rw [nm] at kOk
    have hT2 : TS F0 A0 (numS s n 4 i 0).1 cls F' A := ⟨hT.1.mr a, b, hT.2.2.mr a⟩
    exact s_keepsO b hT2.2.2.1 hl (kOk _ _ rfl hT2.keep)
  · have nm : nmC s n i wh = (0, (numS s n 4 i 0).1, wh, nI (numS s n 4 i 0).2) := by unfold nmC; rw [if_pos q]
    rw [e, nm]
    exact tl_dg rfl q2
end TEXTM
