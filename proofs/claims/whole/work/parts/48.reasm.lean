section REASM
variable {l : Launch} {w : Nat → Nat} {nb : Nat} {F A F0 A0 : MI} {P : Int32 → MI → MI → Prop} {V : MI → MI → Prop} {s : Nat → Nat} {n : Nat}
def MFr (F0 F : MI) : Prop := ∀ f a, ¬ (a = 122 ∧ (f = 341 ∨ f = 343 ∨ f = 344 ∨ f = 350)) → F f a = F0 f a
def MS (F0 : MI) (i : Nat) (x : Int32) (F : MI) : Prop := MFr F0 F ∧ F 341 122 = nI i ∧ F 343 122 = 0 ∧ F 350 122 = x
def MF (F0 : MI) (b p : Nat) (F : MI) : Prop := MFr F0 F ∧ F 343 122 = nI b ∧ F 344 122 = nI p ∧ (∃ j, j < 190 ∧ F 341 122 = nI j) ∧ 1 ≤ b ∧ b ≤ 3
theorem MS.at {i : Nat} {x : Int32} (h : MS F0 i x F) (j : Nat) : MS F0 j x (u2 F 341 122 (nI j)) := ⟨fun f a q => (u2_ne (by omega)).trans (h.1 f a q), u2_s, (u2_n1 (by decide)).trans h.2.2.1, (u2_n1 (by decide)).trans h.2.2.2⟩
theorem MS.pt {i : Nat} {x : Int32} (h : MS F0 i x F) (y : Int32) : MS F0 i y (u2 F 350 122 y) := ⟨fun f a q => (u2_ne (by omega)).trans (h.1 f a q), (u2_n1 (by decide)).trans h.2.1, (u2_n1 (by decide)).trans h.2.2.1, u2_s⟩
theorem MS.len {i : Nat} {x : Int32} (h : MS F0 i x F) (h0 : F0 342 122 = nI n) : F 342 122 = nI n := (h.1 _ _ (by omega)).trans h0
theorem MF.len {b p : Nat} (h : MF F0 b p F) (h0 : F0 342 122 = nI n) : F 342 122 = nI n := (h.1 _ _ (by omega)).trans h0
theorem MF.at {b p : Nat} (h : MF F0 b p F) {j : Nat} (hj : j < 190) : MF F0 b p (u2 F 341 122 (nI j)) := ⟨fun f a q => (u2_ne (by omega)).trans (h.1 f a q), (u2_n1 (by decide)).trans h.2.1, (u2_n1 (by decide)).trans h.2.2.1, ⟨j, hj, u2_s⟩, h.2.2.2.2⟩
theorem MS.fail {i : Nat} {x : Int32} (h : MS F0 i x F) (hi : i < 190) {b : Nat} (h1 : 1 ≤ b) (h3 : b ≤ 3) (p : Nat) : MF F0 b p (u2 (u2 F 343 122 (nI b)) 344 122 (nI p)) := ⟨fun f a q => (u2_ne (by omega)).trans ((u2_ne (by omega)).trans (h.1 f a q)), (u2_n1 (by decide)).trans u2_s, u2_s, ⟨i, hi, (u2_n1 (by decide)).trans ((u2_n1 (by decide)).trans h.2.1)⟩, h1, h3⟩
theorem MF.ne {b p : Nat} (h : MF F0 b p F) : ¬ F 343 122 = 0 := by rw [h.2.1]; exact nI_ne0 (by have := h.2.2.2.2; omega) (by have := h.2.2.2.2; omega)
theorem s_must {i c : Nat} {x : Int32} (hs : ByM A s) (hn : n ≤ 80) (h0 : F0 342 122 = nI n) (hS : MS F0 i x F) (hi : i < 180) (hc : c < 256) (k1 : hv s n i = c → V (u2 F 341 122 (nI (i + 1))) A) (k0 : hv s n i ≠ c → ∀ F', MF F0 1 i F' → V F' A) : CM l mX8_must 2 w nb [.ref 122, .int (nI c)] F A (qv V) := by
  have hl : hv s n i < 256 := hv_lt (fun k hk => (hs k hk).2) hn
  refine kX8_must (s_here hs hn (hS.len h0) hS.2.1 (by omega) ?_)
  rw [nI_eq (by omega) (by omega), hS.2.1, nI_1]
  refine ⟨fun h => ⟨rfl, k1 h⟩, fun h => s_fails0 hS.2.2.1 ⟨rfl, k0 h _ ?_⟩⟩
  have hf := hS.fail (by omega) (b := 1) (by decide) (by decide) i
  have e : u2 (u2 F 343 122 1) 344 122 (nI i) 341 122 = nI i := (u2_n1 (by decide)).trans ((u2_n1 (by decide)).trans hS.2.1)
  rw [e, nI_1]
  exact hf.at (by omega)
theorem s_mplace {i m : Nat} {x x1 : Int32} (hs : ByM A s) (hn : n ≤ 80) (h0 : F0 342 122 = nI n) (h345 : F0 345 122 = nI m) (hm : m ≤ 8) (hS : MS F0 i x F) (hi : i < 180) (kF1 : ¬ (97 ≤ hv s n i ∧ hv s n i ≤ 104) → ∀ v F', MF F0 1 i F' → P v F' A) (kF2 : 97 ≤ hv s n i → hv s n i ≤ 104 → (m < hv s n i - 96 ∨ nI (hv s n i - 96) = x1) → ∀ v F', MF F0 2 i F' → P v F' A) (k0 : 97 ≤ hv s n i → hv s n i ≤ 104 → ¬ m < hv s n i - 96 → ¬ nI (hv s n i - 96) = x1 → P (nI (hv s n i - 96)) (u2 F 341 122 (nI (i + 1))) A) : CM l mX8_place 2 w nb [.ref 122, .int x1] F A (qi P) := by
  have hl : hv s n i < 256 := hv_lt (fun k hk => (hs k hk).2) hn
  have e97 : (97 : Int32).toInt = 97 := rfl
  have e1 : (1 : Int32).toInt = 1 := rfl
  have eh := nI_toInt (n := hv s n i) (by omega)
  have es : (nI (hv s n i) - 97).toInt = (hv s n i : Int) - 97 := by rw [fb_subI (by omega) (by omega), eh, e97]
  have ea : (nI (hv s n i) - 97 + 1).toInt = (hv s n i : Int) - 96 := by rw [fb_addI (by omega) (by omega), es, e1]; omega
  have e343 : ∀ b : Int32, u2 (u2 F 343 122 b) 344 122 (nI i) 341 122 = nI i := fun b => (u2_n1 (by decide)).trans ((u2_n1 (by decide)).trans hS.2.1)
  refine kX8_place (s_here hs hn (hS.len h0) hS.2.1 (by omega) ?_)
  refine s_lies (a := 1) (b := 8) rfl rfl (by decide) (by decide) (fun j q1 q2 e => n1 ?_) (fun q => n0 ?_)
  · have ej := nI_toInt (n := j) (by omega)
    rw [← e, ea] at ej
    have r1 : 97 ≤ hv s n i := by omega
    have r2 : hv s n i ≤ 104 := by omega
    have ev : nI (hv s n i) - 97 + 1 = nI (hv s n i - 96) := by rw [e]; congr 1; omega
    rw [ev, (hS.1 345 122 (by omega)).trans h345, hS.2.1, nI_1]
    have fail : (m < hv s n i - 96 ∨ nI (hv s n i - 96) = x1) → ZM l mX8_place 2 w nb (qi P) 45 [(0, .ref 122), (2, .int (nI (hv s n i - 96)))] [] F A := fun z => by
      refine vX8_place_45 ?_
      rw [hS.2.1]
      refine s_fails0 hS.2.2.1 ⟨_, rfl, kF2 r1 r2 z _ _ ?_⟩
      rw [e343, nI_1]
      exact (hS.fail (by omega) (b := 2) (by decide) (by decide) i).at (by omega)
    refine ⟨fun h => fail (Or.inl ?_), fun h => ⟨fun h2 => ⟨_, rfl, k0 r1 r2 ?_ h2⟩, fun h2 => fail (Or.inr h2)⟩⟩
    · have := i_lt.mp h
      rw [nI_toInt (by omega), nI_toInt (by omega)] at this
      omega
    · exact fun z => h (nI_lt z (by omega))
  · rw [hS.2.1]
    refine s_fails0 hS.2.2.1 ⟨_, rfl, kF1 (fun r => ?_) _ _ ?_⟩
    · exact q ⟨hv s n i - 96, by omega, by omega, Int32.toInt_inj.mp (by rw [ea, nI_toInt (by omega)]; omega)⟩
    · rw [e343, nI_1]
      exact (hS.fail (by omega) (b := 1) (by decide) (by decide) i).at (by omega)
/-- behind a FAULT nothing more is read -/
theorem failM75 {b p : Nat} {x2 x3 x4 : Int32} (h : MF F0 b p F) (hV : V F A) : ZM l mX8_pair 3 w nb (qv V) 75 [(0, .ref 122), (2, .int x2), (3, .int x3), (4, .int x4)] [] F A :=
  vX8_pair_75 ⟨fun _ => ⟨rfl, hV⟩, fun z => absurd z h.ne⟩
theorem failM59 {b p : Nat} {x2 x3 : Int32} (h : MF F0 b p F) (hV : V F A) : ZM l mX8_pair 3 w nb (qv V) 59 [(0, .ref 122), (2, .int x2), (3, .int x3)] [] F A :=
  vX8_pair_59 ⟨fun _ => vX8_pair_72 (failM75 h hV), fun z => absurd z h.ne⟩
theorem failM40 {b p : Nat} {x1 x2 s0 : Int32} (h : MF F0 b p F) (hV : V F A) : ZM l mX8_pair 3 w nb (qv V) 40 [(0, .ref 122), (1, .int x1), (2, .int x2)] [.int s0] F A :=
  vX8_pair_40 ⟨fun _ => failM59 h hV, fun z => absurd z h.ne⟩
theorem failM24 {b p : Nat} {x1 x2 : Int32} (h : MF F0 b p F) (hV : V F A) : ZM l mX8_pair 3 w nb (qv V) 24 [(0, .ref 122), (1, .int x1), (2, .int x2)] [] F A :=
  vX8_pair_24 ⟨fun _ => failM40 h hV, fun z => absurd z h.ne⟩
theorem failM118 {b p j : Nat} {x2 x3 x4 : Int32} (hs : ByM A s) (hn : n ≤ 80) (h0 : F0 342 122 = nI n) (h : MF F0 b p F) (ej : F 341 122 = nI j) (hj : j < 150) (hV : ∀ F, MF F0 b p F → V F A) : ZM l mX8_pair 3 w nb (qv V) 118 [(0, .ref 122), (2, .int x2), (3, .int x3), (4, .int x4)] [] F A := by
  have hl := h.len h0
  have at149 : ∀ (x5 s0 : Int32) (g : Nat), s0 = nI g → g ≤ 1 → ZM l mX8_pair 3 w nb (qv V) 149 [(0, .ref 122), (2, .int x2), (3, .int x3), (4, .int x4), (5, .int x5)] [.int s0, .int (F 341 122), .ref 122] F A := fun x5 s0 g e hg => by
    refine vX8_pair_149 ?_
    rw [ej, e, nI_add]
    have h2 : MF F0 b p (u2 F 341 122 (nI (j + g))) := h.at (by omega)
    refine s_here hs hn (h2.len h0) u2_s (by omega) ?_
    have key : ∀ x6 : Int32, ZM l mX8_pair 3 w nb (qv V) 181 [(0, .ref 122), (2, .int x2), (3, .int x3), (4, .int x4), (5, .int x5), (6, .int x6)] [] (u2 F 341 122 (nI (j + g))) A := fun x6 => by
      refine vX8_pair_181 ⟨fun y => ?_, fun _ => ⟨rfl, hV _ h2⟩⟩
      rw [h2.2.1] at y
      exact absurd y (nI_nle (by have := h.2.2.2.2; omega) (by have := h.2.2.2.2; omega))
    refine s_lies (a := 0) (b := 2) rfl rfl (by decide) (by decide) (fun _ _ _ _ => n1 (key _)) (fun _ => n0 (s_fails1 (k := b) h2.2.1 (by have := h.2.2.2.2; omega) (by have := h.2.2.2.2; omega) (key _)))
  refine vX8_pair_118 (s_here hs hn hl ej (by omega) ⟨fun _ => vX8_pair_132 (z0 (at149 _ _ 0 rfl (by decide))), fun _ => vX8_pair_132 (z1 (at149 _ _ 1 rfl (by decide)))⟩)
theorem termsM {r : Nat → Nat} {p q : Nat} {A1 : MI} (hs : ByM A s) (hn : n ≤ 80) (h0 : F0 342 122 = nI n) (h128 : ∀ j, A 128 j = A1 128 j) (hp8 : 1 ≤ p ∧ p ≤ 8) (hq8 : 1 ≤ q ∧ q ≤ 8) (rp : r (p - 1) < 20) (rq : r (q - 1) < 20) (hRp : A 143 (p - 1) = nI (r (p - 1))) (hRq : A 143 (q - 1) = nI (r (q - 1))) (res : RS) (kOk : ∀ F i x, i ≤ n → MS F0 i x F → res = sepS s n i x → V F A) (kF : ∀ F j, j ≤ n → MF F0 1 j F → res = (1, j, 0) → V F A) : ∀ (d i : Nat) (x : Int32) (x4 : Int32) (F : MI), d ≤ 4 → i ≤ n → x4 = nI (4 - d) → MS F0 i x F → res = tmS s n (dlr A1 r p q) d i x → ZM l mX8_pair 3 w nb (qv V) 75 [(0, .ref 122), (2, .int (nI p)), (3, .int (nI q)), (4, .int x4)] [] F A
  | 0, i, x, x4, F, hd, hi, hx, hS, hr => by
    subst hx
    have hl : hv s n i < 256 := hv_lt (fun k hk => (hs k hk).2) hn
    have h1 := hS.len h0
    have go : (hv s n i = 45 ∨ (48 ≤ hv s n i ∧ hv s n i ≤ 57)) → ZM l mX8_pair 3 w nb (qv V) 103 [(0, .ref 122), (2, .int (nI p)), (3, .int (nI q)), (4, .int (nI (4 - 0)))] [] F A := fun z => by
      refine vX8_pair_103 ⟨fun h => absurd rfl h, fun _ => ?_⟩
      rw [hS.2.1]
      have hf := hS.fail (by omega) (b := 1) (by decide) (by decide) i
      refine s_fails0 hS.2.2.1 (failM118 hs hn h0 hf ((u2_n1 (by decide)).trans ((u2_n1 (by decide)).trans hS.2.1)) (by omega) (fun F' q => kF F' i hi q ?_))
      rw [hr]
      unfold tmS sepS
      rw [if_neg (by have := hv_in (s := s) (n := n) (i := i) (by omega); omega), if_neg (by omega)]
    have k45 := nI_eq (a := hv s n i) (b := 45) (by omega) (by omega)
    refine vX8_pair_75 ⟨fun z => absurd hS.2.2.1 z, fun _ => ⟨fun z => absurd z (by decide), fun _ => s_here hs hn h1 hS.2.1 (by omega) ⟨fun z => go (Or.inl (k45.mp z)), fun z => s_seesDigit hs hn h1 hS.2.1 (by omega) (fun y1 y2 => z1 (go (Or.inr ⟨y1, y2⟩))) (fun y => z0 ⟨rfl, kOk F i x hi hS hr⟩)⟩⟩⟩
  | d + 1, i, x, x4, F, hd, hi, hx, hS, hr => by
    subst hx
    have hl : hv s n i < 256 := hv_lt (fun k hk => (hs k hk).2) hn
    have h1 := hS.len h0
    have k45 := nI_eq (a := hv s n i) (b := 45) (by omega) (by omega)
    have hz : nI (4 - (d + 1)) = 0 ↔ d = 3 := (nI_eq (a := 4 - (d + 1)) (b := 0) (by omega) (by omega)).trans (by omega)
    have go : (d = 3 ∨ hv s n i = 45 ∨ (48 ≤ hv s n i ∧ hv s n i ≤ 57)) → ZM l mX8_pair 3 w nb (qv V) 103 [(0, .ref 122), (2, .int (nI p)), (3, .int (nI q)), (4, .int (nI (4 - (d + 1))))] [] F A := fun z => by
      have hr2 : res = if 48 ≤ hv s n (minusAt s n i) ∧ hv s n (minusAt s n i) ≤ 50 then tmS s n (dlr A1 r p q) d (minusAt s n i + 1) (x + dlr A1 r p q (decide (hv s n i = 45)) (hv s n (minusAt s n i) - 48)) else (1, minusAt s n i, 0) := by
        unfold tmS at hr
        by_cases y : d = 3 ∨ trm s n i = true
        · rw [if_pos y] at hr; exact hr
        · rw [if_neg y] at hr
          have y3 : ¬ d = 3 := fun u => y (Or.inl u)
          have yt : trm s n i = false := by cases u : trm s n i; rfl; exact absurd (Or.inr u) y
          unfold trm at yt
          simp only [Bool.or_eq_false_iff, decide_eq_false_iff_not, Bool.and_eq_false_iff] at yt
          have em : minusAt s n i = i := by unfold minusAt; rw [if_neg yt.1]
          rw [em, if_neg (by omega), hr]
          unfold sepS
          rw [if_neg (by have := hv_in (s := s) (n := n) (i := i) (by omega); omega), if_neg (by omega)]
      have hmn : minusAt s n i ≤ n ∧ minusAt s n i ≤ i + 1 := by
        unfold minusAt
        split
        · rename_i u; have := hv_in (s := s) (n := n) (i := i) (by omega); omega
        · omega
      have at149 : ∀ (s0 : Int32) (g : Nat), s0 = nI g → i + g = minusAt s n i → (s0 = 0 ↔ ¬ hv s n i = 45) → ZM l mX8_pair 3 w nb (qv V) 149 [(0, .ref 122), (2, .int (nI p)), (3, .int (nI q)), (4, .int (nI (4 - (d + 1)))), (5, .int s0)] [.int s0, .int (F 341 122), .ref 122] F A := by
        intro s0 g e eg hg
        refine vX8_pair_149 ?_
        rw [hS.2.1]
        conv in nI i + s0 => rw [e, nI_add, eg]
        generalize minusAt s n i = j at hr2 hmn eg
        have hS1 := hS.at j
        have hlj : hv s n j < 256 := hv_lt (fun k hk => (hs k hk).2) hn
        refine s_here hs hn (hS1.len h0) hS1.2.1 (by omega) ?_
        have e48 : (48 : Int32).toInt = 48 := rfl
        have es : (nI (hv s n j) - 48).toInt = (hv s n j : Int) - 48 := by
          have := nI_toInt (n := hv s n j) (by omega)
          rw [fb_subI (by omega) (by omega), this, e48]
        refine s_lies (a := 0) (b := 2) rfl rfl (by decide) (by decide) (fun m _ hm em => n1 ?_) (fun h => n0 ?_)
        · have ej := nI_toInt (n := m) (by omega)
          rw [← em, es] at ej
          have q1 : 48 ≤ hv s n j := by omega
          have q2 : hv s n j ≤ 50 := by omega
          have q3 : hv s n j - 48 = m := by omega
          rw [if_pos ⟨q1, q2⟩, q3] at hr2
          rw [em]
          have hjn : j < n := hv_in (s := s) (by omega)
          have ep : nI p - 1 = nI (p - 1) := by show _ - nI 1 = _; rw [pk_sub (by omega)]
          have eq : nI q - 1 = nI (q - 1) := by show _ - nI 1 = _; rw [pk_sub (by omega)]
          have e3 : ∀ u : Nat, (3 * nI u + nI m : Int32) = nI (3 * u + m) := fun u => by rw [nI_lit 3, pk_mul, nI_add]
          refine vX8_pair_181 ⟨fun _ => ?_, fun z => absurd (by rw [hS1.2.2.1]; decide) z⟩
          rw [ep, eq, nI_clamp (by omega), nI_clamp (by omega), hRp, hRq, e3, e3, nI_clamp (by omega), nI_clamp (by omega), h128, h128, hS1.2.2.2]
          have next : ∀ y : Int32, dlr A1 r p q (decide (hv s n i = 45)) m = y → ZM l mX8_pair 3 w nb (qv V) 261 [(0, .ref 122), (2, .int (nI p)), (3, .int (nI q)), (4, .int (nI (4 - (d + 1))))] [.int y, .int x, .ref 122] (u2 F 341 122 (nI j)) A := fun y ey => by
            rw [ey] at hr2
            refine vX8_pair_261 ?_
            rw [hS1.2.1, nI_1, nI_1]
            exact termsM hs hn h0 h128 hp8 hq8 rp rq hRp hRq res kOk kF d (j + 1) (x + y) _ _ (by omega) hjn (by congr 1; omega) ((hS1.pt (x + y)).at (j + 1)) hr2
          refine ⟨vp_in_nI (by omega) (by decide), vp_in_nI (by omega) (by decide), vp_in_nI (by omega) (by decide), vp_in_nI (by omega) (by decide), fun hg0 => ?_, fun hg0 => ?_⟩
          · have g45 := hg.mp hg0
            refine ⟨fun h => vX8_pair_260 (next _ ?_), fun h => vX8_pair_256 (next _ ?_)⟩
            · unfold dlr
              rw [decide_eq_false g45, if_neg (by decide : ¬ false = true), if_neg (fun u => by rw [i_lt] at u; rw [i_le] at h; omega)]
            · unfold dlr
              rw [decide_eq_false g45, if_neg (by decide : ¬ false = true), if_pos (fa_of_nle h)]
          · have g45 : hv s n i = 45 := Classical.byContradiction (fun z => hg0 (hg.mpr z))
            refine ⟨fun h => vX8_pair_260 (next _ ?_), fun h => vX8_pair_256 (next _ ?_)⟩
            · unfold dlr
              rw [decide_eq_true g45, if_pos rfl, if_neg (fun u => by rw [i_lt] at u; rw [i_le] at h; omega)]
            · unfold dlr
              rw [decide_eq_true g45, if_pos rfl, if_pos (fa_of_nle h)]
        · have hf := hS1.fail (by omega) (b := 1) (by decide) (by decide) j
          rw [hS1.2.1]
          refine s_fails0 hS1.2.2.1 (vX8_pair_181 ⟨fun y => ?_, fun _ => ⟨rfl, kF _ j hmn.1 hf ?_⟩⟩)
          · rw [show u2 (u2 (u2 F 341 122 (nI j)) 343 122 1) 344 122 (nI j) 343 122 = nI 1 from hf.2.1] at y
            exact absurd y (by decide)
          · rw [if_neg] at hr2
            · exact hr2
            · rintro ⟨y1, y2⟩
              exact h ⟨hv s n j - 48, by omega, by omega, Int32.toInt_inj.mp (by rw [es, nI_toInt (by omega)]; omega)⟩
      refine vX8_pair_103 ⟨fun _ => vX8_pair_118 (s_here hs hn h1 hS.2.1 (by omega) ⟨fun u => vX8_pair_132 (z0 ?_), fun u => vX8_pair_132 (z1 ?_)⟩), fun h => ?_⟩
      · have u' : ¬ hv s n i = 45 := fun y => u (k45.mpr y)
        exact at149 0 0 rfl (by unfold minusAt; rw [if_neg u']; rfl) ⟨fun _ => u', fun _ => rfl⟩
      · have u' : hv s n i = 45 := k45.mp u
        exact at149 1 1 rfl (by unfold minusAt; rw [if_pos u']) ⟨fun y => absurd y (by decide), fun y => absurd u' y⟩
      · have := (nI_eq (a := 4 - (d + 1)) (b := 4) (by omega) (by omega)).mp h
        omega
    refine vX8_pair_75 ⟨fun z => absurd hS.2.2.1 z, fun _ => ⟨fun z => go (Or.inl (hz.mp z)), fun y3 => s_here hs hn h1 hS.2.1 (by omega) ⟨fun z => go (Or.inr (Or.inl (k45.mp z))), fun z => s_seesDigit hs hn h1 hS.2.1 (by omega) (fun y1 y2 => z1 (go (Or.inr (Or.inr ⟨y1, y2⟩)))) (fun y => z0 ⟨rfl, kOk F i x hi hS ?_⟩)⟩⟩⟩
    unfold tmS at hr
    rw [if_neg] at hr
    · exact hr
    · rintro (u | u)
      · exact y3 (hz.mpr u)
      · unfold trm at u
        have u45 : ¬ hv s n i = 45 := fun v => z (k45.mpr v)
        simp only [u45, decide_false, Bool.false_or, Bool.and_eq_true, decide_eq_true_eq] at u
        omega
end REASM
