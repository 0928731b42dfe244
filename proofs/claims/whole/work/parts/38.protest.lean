section OPS5
variable {l : Launch} {w : Nat → Nat} {nb : Nat} {F A : MI}
theorem OX_of {c : Nat} {e : Int32} (h8 : I8 A) (hc : c < 6) (hs : ∀ b, bt e b = true → bt (A 134 c) b = true) : OX A c e := by
  intro j hj
  obtain ⟨t, q1, q2, q3, q4, q5⟩ := h8 c j hc hj
  refine ⟨t, q1, q2, fun ht => ?_⟩
  obtain ⟨f, g1, g2, g3⟩ := q4 ht
  exact ⟨f, fun k hk => ⟨(g1 k hk).1, (g1 k hk).2.1⟩, g2, fun b hb => g3 b (hs b hb)⟩
theorem I8_sub {A' : MI} {c j : Nat} (h : I8 A) (hc : c < 6) (hj : j < 6) (h0 : ∀ b, bt (A' 134 c) b = true → bt (A 134 c) b = true) (h1 : A' (38 + 14 * c + 11) j = A (38 + 14 * c + 11) j) (h2 : ∀ k, k < 8 → A' (38 + 14 * c + 5 + j) k = A (38 + 14 * c + 5 + j) k) (h3 : A' 137 (6 * j + c) = A 137 (6 * j + c)) (h4 : ∀ k, k < 8 → A' 138 (8 * (6 * j + c) + k) = A 138 (8 * (6 * j + c) + k)) : ∃ t, t ≤ 8 ∧ A' (38 + 14 * c + 11) j = nI t ∧ A' 137 (6 * j + c) = nI t ∧ (0 < t → ∃ f, Ord A' c j t f) ∧ ∀ k, k < 8 → A' (38 + 14 * c + 5 + j) k = A' 138 (8 * (6 * j + c) + k) := by
  obtain ⟨t, q1, q2, q3, q4, q5⟩ := h c j hc hj
  refine ⟨t, q1, by rw [h1]; exact q2, by rw [h3]; exact q3, fun ht => ?_, fun k hk => by rw [h2 k hk, h4 k hk]; exact q5 k hk⟩
  obtain ⟨f, g1, g2, g3⟩ := q4 ht
  exact ⟨f, fun k hk => ⟨(g1 k hk).1, by rw [h2 k (by omega)]; exact (g1 k hk).2.1, by rw [h4 k (by omega)]; exact (g1 k hk).2.2⟩, g2, fun b hb => g3 b (h0 b hb)⟩
theorem op_protest {x1 x2 : Int32} (hw : TW w) (hI : Inv w nb F A) : CM l mX7_protest 4 w nb [.ref 1, .int x1, .int x2] F A (qi fun r F A => CM l mX8_protest 3 w nb [.ref 122, .int x1, .int x2] F A (qi fun r' F A => r = r' ∧ Inv w nb F A)) := by
  obtain ⟨hn1, hn2, hn3, -⟩ := hI.2.1
  have h5 := hI.2.2.2.2.1
  have h8 := hI.2.2.2.2.2.2.2.1
  have bad : (¬ Bel x1 6 ∨ ¬ Bel x2 nb ∨ ∃ c i, c < 6 ∧ i < nb ∧ x1 = nI c ∧ x2 = nI i ∧ bt (A 134 c) i = false) → CM l mX8_protest 3 w nb [.ref 122, .int x1, .int x2] F A (qi fun r' F A => 0 = r' ∧ Inv w nb F A) := by
    intro hb
    refine kX8_protest (s_isClass (fun c hc e => z1 ?_) (fun _ => z0 ⟨0, rfl, rfl, hI⟩))
    refine s_isBeast hn2 hn3 (fun i hi e2 => z1 ?_) (fun _ => z0 ⟨0, rfl, rfl, hI⟩)
    subst e
    subst e2
    have hv := vp_in_nI hc (N := 6) (by decide)
    refine ⟨hv, ?_⟩
    rw [nI_clamp (by omega)]
    refine s_has (by omega) (fun q => ?_) (fun q => n0 ⟨0, rfl, rfl, hI⟩)
    rcases hb with z | z | ⟨c', i', q3, q4, q5, q6, q7⟩
    · exact absurd ⟨c, hc, rfl⟩ z
    · exact absurd ⟨i, hi, rfl⟩ z
    · have ec := (nI_eq (by omega) (by omega)).mp q5
      have ei := (nI_eq (by omega) (by omega)).mp q6
      subst ec
      subst ei
      rw [q7] at q; cases q
  refine kX7_protest (s_classAt (fun c hc e => ?_) (fun h => ⟨0, rfl, bad (Or.inl h)⟩))
  refine s_beastAt hn1 hn3 (fun i hi e2 => ?_) (fun h => ⟨0, rfl, bad (Or.inr (Or.inl h))⟩)
  obtain ⟨g0, g1, g2, g3, g4, g5⟩ := h5 c hc
  refine kX4_holds hc ?_
  rw [e2, g0]
  refine ⟨fun h => ⟨0, rfl, n0 ⟨0, rfl, ?_⟩⟩, fun h => ⟨1, rfl, n1 (kX4_putOut hc ?_)⟩⟩
  · rw [← e2]
    exact bad (Or.inr (Or.inr ⟨c, i, hc, hi, e, e2, (bit_and (by omega)).mp h⟩))
  subst e
  subst e2
  have hin : bt (A 134 c) i = true := by
    cases z : bt (A 134 c) i
    · exact absurd ((bit_and (by omega)).mpr z) h
    · rfl
  rw [g0, g1, g2]
  generalize he : A 134 c &&& ((1 <<< (nI i &&& 31)) ^^^ (-1)) = e'
  have hbt : ∀ k, bt e' k = (bt (A 134 c) k && !decide (k = i)) := fun k => by rw [← he, bit_del (by omega)]
  have hsub : ∀ b, bt e' b = true → bt (A 134 c) b = true := fun b hb => by
    rw [hbt, Bool.and_eq_true] at hb; exact hb.1
  have hp' : pcn e' + 1 = pcn (A 134 c) := by rw [← he]; exact pcn_del (by omega) hin
  refine ⟨rfl, s_join (e := e') hc (by rw [u2_n1 (by decide), u2_n1 (by decide), u2_s]) (fun b hb => by have := g4 b (hsub b hb); omega) (by omega) (OX_of h8 hc hsub) hI.2.2.2.2.2.2.2.2.2 (fun F5 A5 m1 m2 m3 m4 m5 => ⟨1, rfl, ?_⟩)⟩
  have mA : ∀ a j, ¬ ((8 ≤ a ∧ a ≤ 28) ∨ a = 38 + 14 * c + 12) → A5 a j = A a j := fun a j z => m2 a j (by omega)
  have mF : ∀ f a, ¬ ((f = 82 ∧ a = 7) ∨ (a = 38 + 14 * c ∧ (f = 160 ∨ f = 161 ∨ f = 162 ∨ f = 167))) → F5 f a = F f a := fun f a z => (m1 f a (by omega)).trans ((u2_ne (by omega)).trans ((u2_ne (by omega)).trans (u2_ne (by omega))))
  have hv := vp_in_nI hc (N := 6) (by decide)
  refine kX8_protest (s_isClass (fun c' _ _ => z1 ?_) (fun q => absurd ⟨c, hc, rfl⟩ q))
  refine s_isBeast (by rw [mF _ _ (by omega)]; exact hn2) hn3 (fun i' _ _ => z1 ?_) (fun q => absurd ⟨i, hi, rfl⟩ q)
  refine ⟨hv, ?_⟩
  rw [nI_clamp (by omega), mA 134 c (by omega)]
  refine s_has (by omega) (fun q => n1 ⟨hv, hv, hv, hv, ?_⟩) (fun q => by rw [hin] at q; cases q)
  rw [mA 134 c (by omega), mA 135 c (by omega), he]
  refine ⟨1, rfl, rfl, ?_⟩
  generalize hA6 : u2 (u2 A5 134 c e') 135 c (A 135 c ||| (1 <<< (nI i &&& 31))) = A6
  have fA : ∀ a j, ¬ (a = 134 ∨ a = 135) → A6 a j = A5 a j := fun a j z => by rw [← hA6, u2_n1 (by omega), u2_n1 (by omega)]
  have f134 : ∀ d, A6 134 d = if d = c then e' else A 134 d := fun d => by
    rw [← hA6, u2_n1 (by decide)]
    by_cases z : d = c
    · rw [if_pos z, z, u2_s]
    · rw [if_neg z, u2_n2 z, mA 134 d (by omega)]
  have f135 : ∀ d, A6 135 d = if d = c then A 135 c ||| (1 <<< (nI i &&& 31)) else A 135 d := fun d => by
    rw [← hA6]
    by_cases z : d = c
    · rw [if_pos z, z, u2_s]
    · rw [if_neg z, u2_n2 z, u2_n1 (by decide), mA 135 d (by omega)]
  have new8 : I8 A6 := by
    intro d j hd hj
    refine I8_sub h8 hd hj (fun b hb => ?_) ?_ (fun k hk => ?_) ?_ (fun k hk => ?_)
    · rw [f134] at hb
      by_cases z : d = c
      · rw [if_pos z] at hb; rw [z]; exact hsub b hb
      · rw [if_neg z] at hb; exact hb
    · rw [fA _ _ (by omega), mA _ _ (by omega)]
    · rw [fA _ _ (by omega), mA _ _ (by omega)]
    · rw [fA _ _ (by omega), mA _ _ (by omega)]
    · rw [fA _ _ (by omega), mA _ _ (by omega)]
  refine hI.exc hw (fun f a => (f = 82 ∧ a = 7) ∨ (a = 38 + 14 * c ∧ (f = 160 ∨ f = 161 ∨ f = 162 ∨ f = 167))) (fun a => (8 ≤ a ∧ a ≤ 28) ∨ a = 38 + 14 * c + 12 ∨ a = 134 ∨ a = 135) (fun f a q => mF f a q) (fun a j q => (fA a j (by omega)).trans (mA a j (by omega))) (Or.inl ⟨by omega, by omega, by omega, by omega⟩) (Or.inl ⟨by omega, by omega, fun k i => by omega, fun a _ _ => by omega, fun i => by omega⟩) (Or.inl ⟨by omega, by omega⟩) (Or.inl ⟨by omega, by omega⟩) (Or.inr (fun d hd => ?_)) (Or.inl ⟨⟨by omega, by omega, by omega⟩, fun d _ => ⟨by omega, by omega, by omega⟩, fun a _ _ => by omega⟩) (Or.inl ⟨fun c _ => by omega, by omega⟩) (Or.inr (new8)) (Or.inr (fun d hd => ?_)) (Or.inr (m3.cong (fun a j _ _ => fA a j (by omega))))
  · rw [f134, f135]
    by_cases z : d = c
    · subst z
      have e11 : nI (pcn e' + 1) - 1 = nI (pcn e') := by
        show nI (pcn e' + 1) - nI 1 = _
        rw [pk_sub (by omega)]
        congr 1
      rw [if_pos rfl, if_pos rfl, m1 160 _ (by omega), m1 161 _ (by omega), m1 162 _ (by omega), u2_n1 (by decide), u2_n1 (by decide), u2_s, u2_s, u2_n1 (by decide), u2_s, ← hp', e11]
      refine ⟨rfl, rfl, rfl, by omega, fun b hb => g4 b (hsub b hb), fun b hb => ?_⟩
      rw [bit_or (by omega), Bool.or_eq_true, decide_eq_true_eq] at hb
      rcases hb with y | y
      · exact g5 b y
      · omega
    · rw [if_neg z, if_neg z, mF 160 _ (by omega), mF 161 _ (by omega), mF 162 _ (by omega)]
      exact h5 d hd
  · by_cases z : d = c
    · subst z
      refine joined_of (A1 := A) hd new8 (by rw [f134, if_pos rfl]) ⟨fun j hj => ?_, fun j k hj hk => ?_⟩ m4 (fun k hk => ?_)
      · rw [fA _ _ (by omega), m2 _ _ (by omega)]
      · rw [fA _ _ (by omega), m2 _ _ (by omega)]
      · rw [fA _ _ (by omega)]; exact m5 k hk
    · have sm : SameM A A6 d := ⟨by rw [f134, if_neg z], fun j hj => by rw [fA _ _ (by omega), mA _ _ (by omega)], fun j k hj hk => by rw [fA _ _ (by omega), mA _ _ (by omega)]⟩
      rw [fwM_loc sm, sm.1, mF 167 _ (by omega)]
      refine ⟨(hI.2.2.2.2.2.2.2.2.1 d hd).1, fun k hk => ?_⟩
      rw [rowM_loc sm, fA _ _ (by omega), mA _ _ (by omega)]
      exact (hI.2.2.2.2.2.2.2.2.1 d hd).2 k hk
end OPS5
