section TEXTM3
variable {l : Launch} {w : Nat → Nat} {nb : Nat} {F A F0 A0 : MI} {P : Int32 → MI → MI → Prop} {V : MI → MI → Prop} {s : Nat → Nat} {n : Nat}
theorem txS_ok (hs : ∀ k, k < 80 → s k < 256) (hn : n ≤ 80) : ∀ (k i : Nat) (cls : List (Nat × Int32)), i ≤ n → cls.length ≤ 8 → (∀ q ∈ cls, q.1 < 9) → (txS s n k i cls).1 ≤ 3 ∧ (txS s n k i cls).2.1 ≤ n ∧ (txS s n k i cls).2.2.length ≤ 8 ∧ ∀ q ∈ (txS s n k i cls).2.2, q.1 < 9
  | 0, i, cls, hi, h1, h2 => ⟨Nat.zero_le 3, Nat.zero_le n, h1, h2⟩
  | k + 1, i, cls, hi, h1, h2 => by
    obtain ⟨c1, c2, c3, c4, c5⟩ := clS_ok hs hn hi
    have nil : ∀ q ∈ ([] : List (Nat × Int32)), q.1 < 9 := fun q hq => absurd hq List.not_mem_nil
    unfold txS
    split
    · split
      · exact ⟨Nat.le_refl 3, hi, Nat.zero_le 8, nil⟩
      · exact ⟨by show 1 ≤ 3; omega, hi, Nat.zero_le 8, nil⟩
    · have l1 : (cls ++ [(clS s n i).2.2]).length ≤ 8 := by rw [List.length_append]; show cls.length + 1 ≤ 8; omega
      have l2 : ∀ q ∈ cls ++ [(clS s n i).2.2], q.1 < 9 := fun q hq => by
        rcases List.mem_append.mp hq with z | z
        · exact h2 q z
        · rw [List.mem_singleton.mp z]; exact c3
      split
      · split
        · exact ⟨Nat.zero_le 3, Nat.zero_le n, l1, l2⟩
        · split
          · exact txS_ok hs hn k _ _ (by omega) l1 l2
          · exact ⟨by show 1 ≤ 3; omega, c1, Nat.zero_le 8, nil⟩
      · exact ⟨by show (clS s n i).1 ≤ 3; omega, c1, Nat.zero_le 8, nil⟩
theorem copy_loop {c K : Nat} (hc : c < 6) (hK : K ≤ 8) (hF : F 332 122 = nI K) (kk : ∀ A, (∀ a j, ¬ ((a = 130 ∨ a = 131) ∧ 8 * c ≤ j ∧ j < 8 * c + 8) → A a j = A0 a j) → (∀ k, k < K → A 130 (8 * c + k) = A0 132 k ∧ A 131 (8 * c + k) = A0 133 k) → P 0 F A) : ∀ (d k : Nat) (x4 : Int32) (A : MI), k + d = K → x4 = nI k → (∀ a j, ¬ ((a = 130 ∨ a = 131) ∧ 8 * c ≤ j ∧ j < 8 * c + 8) → A a j = A0 a j) → (∀ j, j < k → A 130 (8 * c + j) = A0 132 j ∧ A 131 (8 * c + j) = A0 133 j) → ZM l mX8_text 6 w nb (qi P) 148 [(0, .ref 122), (1, .int (nI c)), (4, .int x4)] [] F A
  | 0, k, x4, A, hd, hx, h1, h2 => by
    subst hx
    have : k = K := by omega
    subst this
    refine vX8_text_148 ?_
    rw [hF]
    exact ⟨fun _ => ⟨_, rfl, kk A h1 h2⟩, fun h => absurd (Int32.le_refl _) h⟩
  | d + 1, k, x4, A, hd, hx, h1, h2 => by
    subst hx
    have hv := vp_in_nI (n := k) (N := 8) (by omega) (by decide)
    have hv2 := vp_in_nI (n := 8 * c + k) (N := 48) (by omega) (by decide)
    refine vX8_text_148 ?_
    rw [hF, ix_8, nI_clamp (by omega), nI_clamp (by omega)]
    refine ⟨fun h => absurd h (nI_ge (a := k) (by omega) (by omega)), fun _ => ⟨hv, hv2, hv, hv2, copy_loop hc hK hF kk d (k + 1) _ _ (by omega) (by rw [nI_1]) (fun a j q => (u2_ne (by omega)).trans ((u2_ne (by omega)).trans (h1 a j q))) (fun j hj => ?_)⟩⟩
    by_cases z : j = k
    · rw [z, u2_n1 (by decide), u2_s, u2_s, h1 132 k (by omega), h1 133 k (by omega)]
      exact ⟨rfl, rfl⟩
    · rw [u2_ne (by omega), u2_ne (by omega), u2_ne (by omega), u2_ne (by omega)]
      exact h2 j (by omega)
/-- what M's text leaves -/
def TMo (c : Nat) (F A F' A' : MI) : Prop := (∀ f a, ¬ (a = 122 ∧ (f = 341 ∨ f = 343 ∨ f = 344 ∨ f = 332)) → F' f a = F f a) ∧ ∀ a j, ¬ (a = 132 ∨ a = 133 ∨ (a = 129 ∧ j = c) ∨ ((a = 130 ∨ a = 131) ∧ 8 * c ≤ j ∧ j < 8 * c + 8)) → A' a j = A a j
theorem endTM {c b p : Nat} (h1 : F 343 122 = nI b) (h2 : F 344 122 = nI p) (hb : 1 ≤ b ∧ b ≤ 3) (hP : P (nI (100 * b + p)) F A) : ZM l mX8_text 6 w nb (qi P) 115 [(0, .ref 122), (1, .int (nI c))] [] F A := by
  refine vX8_text_115 ?_
  rw [h1, h2]
  refine ⟨fun z => absurd z (nI_nle (by omega) (by omega)), fun _ => ⟨_, rfl, ?_⟩⟩
  show P (nI 100 * nI b + nI p) F A
  rw [pk_mul, nI_add]
  exact hP
theorem okTM {c i : Nat} {cls : List (Nat × Int32)} (hc : c < 6) (hl : cls.length ≤ 8) (hT : TSf F0 A0 F A) (h343 : F 343 122 = 0) (hK : KP cls F A) (kk : ∀ A', TMo c F0 A0 F A' → A' 129 c = nI cls.length → (∀ k q, cls[k]? = some q → A' 130 (8 * c + k) = nI q.1 ∧ A' 131 (8 * c + k) = q.2) → P 0 F A') : ZM l mX8_text 6 w nb (qi P) 115 [(0, .ref 122), (1, .int (nI c))] [] F A := by
  refine vX8_text_115 ⟨fun _ => ⟨vp_in_nI hc (by decide), ?_⟩, fun z => absurd (by rw [h343]; decide) z⟩
  rw [hK.1, nI_clamp (by omega)]
  refine copy_loop (A0 := u2 A 129 c (nI cls.length)) hc hl hK.1 (fun A' a b => kk A' ⟨hT.1, fun x j q => (a x j (by omega)).trans ((u2_ne (by omega)).trans (hT.2 x j (by omega)))⟩ ((a _ _ (by omega)).trans u2_s) (fun k q hq => ?_)) cls.length 0 0 _ (by omega) rfl (fun _ _ _ => rfl) (fun j hj => absurd hj (Nat.not_lt_zero j))
  have hk : k < cls.length := by
    rcases Nat.lt_or_ge k cls.length with z | z
    · exact z
    · rw [List.getElem?_eq_none z] at hq; cases hq
  have := hK.2 k q hq
  have b2 := b k hk
  rw [u2_n1 (by decide), u2_n1 (by decide)] at b2
  rw [b2.1, b2.2]
  exact this
theorem loopTM {c : Nat} (hc : c < 6) (hs0 : ByM A0 s) (hn : n ≤ 80) (h0 : F0 342 122 = nI n) (res : TR) (kOk : ∀ F' A', TMo c F0 A0 F' A' → res.1 = 0 → A' 129 c = nI res.2.2.length → (∀ k q, res.2.2[k]? = some q → A' 130 (8 * c + k) = nI q.1 ∧ A' 131 (8 * c + k) = q.2) → P 0 F' A') (kF : ∀ F' A', TSf F0 A0 F' A' → res.1 ≠ 0 → P (nI (100 * res.1 + res.2.1)) F' A') : ∀ (k i : Nat) (cls : List (Nat × Int32)) (F A : MI), 80 < i + k → i ≤ n → cls.length ≤ 8 → TS F0 A0 i cls F A → res = txS s n k i cls → ZM l mX8_text 6 w nb (qi P) 41 [(0, .ref 122), (1, .int (nI c)), (3, .int 1)] [] F A
  | 0, i, cls, F, A, hk, hi, hl, hT, e => by omega
  | k + 1, i, cls, F, A, hk, hi, hl, hT, e => by
    have bad : ∀ (F1 A1 : MI) (b p : Nat) (x : Int32), TSf F0 A0 F1 A1 → ME b p F1 → res = (b, p, []) → ZM l mX8_text 6 w nb (qi P) 115 [(0, .ref 122), (1, .int (nI c))] [] (u2 F1 341 122 x) A1 := fun F1 A1 b p x a d f => by
      refine endTM (b := b) (p := p) ((u2_n1 (by decide)).trans d.1) ((u2_n1 (by decide)).trans d.2.1) d.2.2.2 ?_
      have := kF _ A1 (a.mr (MR.at (F0 := F1) (fun _ _ _ => rfl) x)) (by rw [f]; show b ≠ 0; have := d.2.2.2; omega)
      rw [f] at this
      exact this
    refine vX8_text_41 ⟨fun z => absurd z (by decide), fun _ => ⟨fun z => absurd hT.2.1.2 z, fun _ => clauseM hs0 hn h0 hi hl hT res k e (fun F1 A1 b p a d f => ?_) (fun F1 A1 hl8 d a => ?_)⟩⟩
    · exact ⟨fun _ => vX8_text_78 (vX8_text_79 (z0 (vX8_text_102 (vX8_text_41 (z0 (bad F1 A1 b p _ a d f)))))), fun z => absurd z d.ne⟩
    · obtain ⟨c1, c2, c3, c4, c5⟩ := clS_ok (fun k hk => (hs0 k hk).2) hn hi
      have c6 := c5 d
      unfold txS at e
      rw [if_neg (by omega), if_pos d] at e
      generalize clS s n i = cl at e a c1 c6
      have l1 : (cls ++ [cl.2.2]).length ≤ 8 := by rw [List.length_append]; show cls.length + 1 ≤ 8; omega
      refine ⟨fun z => absurd a.2.1.2 z, fun _ => ?_⟩
      rw [a.1.len h0, a.2.1.1]
      refine ⟨fun z => ?_, fun z => ?_⟩
      · have hge : n ≤ cl.2.1 := by
          rcases Nat.lt_or_ge cl.2.1 n with u | u
          · exact absurd z (nI_ge u (by omega))
          · exact u
        rw [if_pos hge] at e
        refine vX8_text_78 (vX8_text_79 (z0 (vX8_text_102 (vX8_text_41 (z0 ?_)))))
        have hm := MR.at (F0 := F1) (fun _ _ _ => rfl) (F1 341 122 + 1)
        refine okTM (F0 := F0) (A0 := A0) (i := 0) (cls := cls ++ [cl.2.2]) hc l1 (a.1.mr hm) ((u2_n1 (by decide)).trans a.2.1.2) (a.2.2.mr hm) (fun A' b1 b2 b3 => ?_)
        exact kOk _ A' b1 (by rw [e]) (by rw [e]; exact b2) (by rw [e]; exact b3)
      · have hlt : cl.2.1 < n := by
          rcases Nat.lt_or_ge cl.2.1 n with u | u
          · exact u
          · exact absurd (nI_le u (by omega)) z
        rw [if_neg (by omega)] at e
        have hs := a.1.by hs0
        have hl2 : hv s n cl.2.1 < 256 := hv_lt (fun k hk => (hs k hk).2) hn
        have k59 : nI (hv s n cl.2.1) = 59 ↔ hv s n cl.2.1 = 59 := nI_eq (b := 59) (by omega) (by omega)
        refine vX8_text_79 (z1 (s_here hs hn (a.1.len h0) a.2.1.1 (by omega) ?_))
        rw [k59]
        refine ⟨fun u => vX8_text_102 ?_, fun u => ?_⟩
        · rw [if_pos u] at e
          rw [a.2.1.1, nI_1]
          have hm := MR.at (F0 := F1) (fun _ _ _ => rfl) (nI (cl.2.1 + 1))
          exact loopTM hc hs0 hn h0 res kOk kF k (cl.2.1 + 1) (cls ++ [cl.2.2]) _ _ (by omega) hlt l1 ⟨a.1.mr hm, a.2.1.at _, a.2.2.mr hm⟩ e
        · rw [if_neg u] at e
          rw [a.2.1.1]
          have hE := a.2.1.fail (by omega) (b := 1) (by decide) (by decide) cl.2.1
          have hm := MR.fail (F0 := F1) (fun _ _ _ => rfl) (nI 1) (nI cl.2.1)
          refine s_fails0 a.2.1.2 (vX8_text_102 (vX8_text_41 (z1 ⟨fun _ => bad _ A1 1 cl.2.1 _ (a.1.mr hm) hE e, fun v => ?_⟩)))
          rw [u2_n1 (by decide)] at v
          exact absurd v hE.ne
theorem s_textM {c t : Nat} (hc : c < 6) (hs : ByM A s) (ht : t ≤ 80) (hn : n ≤ t) (h321 : F 321 122 = nI t) (res : TR) (e : res = if n = 0 then (0, 0, []) else txS s n 81 0 []) (kOk : ∀ F' A', (∀ f a, ¬ (a = 122 ∧ (f = 321 ∨ f = 332 ∨ f = 341 ∨ f = 342 ∨ f = 343 ∨ f = 344)) → F' f a = F f a) → F' 321 122 = 0 → (∀ a j, ¬ (a = 132 ∨ a = 133 ∨ (a = 129 ∧ j = c) ∨ ((a = 130 ∨ a = 131) ∧ 8 * c ≤ j ∧ j < 8 * c + 8)) → A' a j = A a j) → res.1 = 0 → A' 129 c = nI res.2.2.length → (∀ k q, res.2.2[k]? = some q → A' 130 (8 * c + k) = nI q.1 ∧ A' 131 (8 * c + k) = q.2) → P 0 F' A') (kF : ∀ F' A', (∀ f a, ¬ (a = 122 ∧ (f = 321 ∨ f = 332 ∨ f = 341 ∨ f = 342 ∨ f = 343 ∨ f = 344)) → F' f a = F f a) → F' 321 122 = 0 → (∀ a j, ¬ (a = 132 ∨ a = 133) → A' a j = A a j) → res.1 ≠ 0 → P (nI (100 * res.1 + res.2.1)) F' A') : CM l mX8_text 6 w nb [.ref 122, .int (nI c), .int (nI n)] F A (qi P) := by
  refine kX8_text (s_isClass (fun c' _ _ => z1 ?_) (fun h => absurd ⟨c, hc, rfl⟩ h))
  rw [h321]
  refine guardM ht (fun n' _ _ => ?_) (fun h => absurd ⟨n, hn, rfl⟩ h)
  refine kX8_begins ⟨rfl, ?_⟩
  generalize hF5 : u2 (u2 (u2 (u2 (u2 F 321 122 0) 342 122 (nI n)) 341 122 0) 343 122 0) 344 122 (-1) = F5
  have f5 : ∀ f a, ¬ (a = 122 ∧ (f = 321 ∨ f = 342 ∨ f = 341 ∨ f = 343 ∨ f = 344)) → F5 f a = F f a := fun f a q => by rw [← hF5]; exact (u2_ne (by omega)).trans ((u2_ne (by omega)).trans ((u2_ne (by omega)).trans ((u2_ne (by omega)).trans (u2_ne (by omega)))))
  have f342 : F5 342 122 = nI n := by rw [← hF5]; exact (u2_n1 (by decide)).trans ((u2_n1 (by decide)).trans ((u2_n1 (by decide)).trans u2_s))
  have f341 : F5 341 122 = 0 := by rw [← hF5]; exact (u2_n1 (by decide)).trans ((u2_n1 (by decide)).trans u2_s)
  have f343 : F5 343 122 = 0 := by rw [← hF5]; exact (u2_n1 (by decide)).trans u2_s
  have f321 : F5 321 122 = 0 := by rw [← hF5]; exact (u2_n1 (by decide)).trans ((u2_n1 (by decide)).trans ((u2_n1 (by decide)).trans ((u2_n1 (by decide)).trans u2_s)))
  have hT : TS F5 A 0 [] (u2 F5 332 122 0) A := ⟨⟨fun f a q => u2_ne (by omega), fun _ _ _ => rfl⟩, ⟨(u2_n1 (by decide)).trans f341, (u2_n1 (by decide)).trans f343⟩, u2_s, fun k q hq => by cases hq⟩
  have kOk' : ∀ F' A', TMo c F5 A F' A' → res.1 = 0 → A' 129 c = nI res.2.2.length → (∀ k q, res.2.2[k]? = some q → A' 130 (8 * c + k) = nI q.1 ∧ A' 131 (8 * c + k) = q.2) → P 0 F' A' := fun F' A' a => kOk F' A' (fun f x q => (a.1 f x (by omega)).trans (f5 f x (by omega))) ((a.1 _ _ (by omega)).trans f321) a.2
  have n0' : nI n ≤ 0 ↔ n = 0 := by
    rw [i_le, nI_toInt (by omega)]
    have e0 : (0 : Int32).toInt = 0 := rfl
    omega
  rw [n0']
  refine ⟨fun z => vX8_text_40 (vX8_text_41 (z0 ?_)), fun z => vX8_text_40 ?_⟩
  · rw [if_pos z] at e
    refine okTM (F0 := F5) (A0 := A) (i := 0) (cls := []) hc (by decide) hT.1 hT.2.1.2 hT.2.2 (fun A' b1 b2 b3 => kOk' _ A' b1 (by rw [e]) (by rw [e]; exact b2) (by rw [e]; exact b3))
  · rw [if_neg z] at e
    exact loopTM (F0 := F5) (A0 := A) hc hs (by omega) f342 res kOk' (fun F' A' a d => kF F' A' (fun f x q => (a.1 f x (by omega)).trans (f5 f x (by omega))) ((a.1 _ _ (by omega)).trans f321) a.2 d) 81 0 [] _ _ (show 80 < 0 + 81 by decide) (Nat.zero_le n) (by decide) hT e
end TEXTM3
