section JOINS3
variable {l : Launch} {w : Nat → Nat} {nb : Nat} {F0 A0 : MI} {P : MI → MI → Prop}
/-- the members stand -/
def JM (F0 A0 : MI) (c : Nat) (F A : MI) : Prop := JF F0 A0 F A ∧ F 345 122 = nI (pcn (A0 134 c)) ∧ ∀ k, k < pcn (A0 134 c) → A 140 k = nI (mbr (A0 134 c) k)
theorem JM.put {c : Nat} {F A : MI} (h : JM F0 A0 c F A) {a j : Nat} {v : Int32} (ha : 141 ≤ a ∧ a ≤ 143) : JM F0 A0 c F (u2 A a j v) := ⟨h.1.putA (by omega), h.2.1, fun k hk => (u2_n1 (by omega)).trans (h.2.2 k hk)⟩
theorem ix_88 {x y : Nat} : (8 * nI x) + nI y = nI (8 * x + y) := ix_cl
theorem joins_2i {c x : Nat} (hc : c < 6) (h8 : I8 A0) (hp : pcn (A0 134 c) ≤ 8) (hx : x < pcn (A0 134 c)) (kk : ∀ F A, JM F0 A0 c F A → (∀ x' y, x' ≤ x → y < pcn (A0 134 c) → A 141 (8 * x' + y) = nI (WS A0 c x' y)) → ZM l mX8_joins 3 w nb (qv P) 59 [(0, .ref 122), (1, .int (nI c)), (2, .int (nI x + 1))] [] F A) :
    ∀ (d y : Nat) (x3 : Int32) (F A : MI), y + d = pcn (A0 134 c) → x3 = nI y → JM F0 A0 c F A → (∀ x' y', x' < x → y' < pcn (A0 134 c) → A 141 (8 * x' + y') = nI (WS A0 c x' y')) → (∀ y', y' < y → A 141 (8 * x + y') = nI (WS A0 c x y')) → ZM l mX8_joins 3 w nb (qv P) 69 [(0, .ref 122), (1, .int (nI c)), (2, .int (nI x)), (3, .int x3)] [] F A
  | 0, y, x3, F, A, hd, hy, hJ, h1, h2 => by
    subst hy
    refine vX8_joins_69 ?_
    rw [hJ.2.1]
    refine ⟨fun _ => kk F A hJ (fun x' y' q1 q2 => ?_), fun h => absurd (nI_le (by omega) (by omega)) h⟩
    rcases Nat.lt_or_ge x' x with q | q
    · exact h1 x' y' q q2
    · rw [show x' = x by omega]; exact h2 y' (by omega)
  | d + 1, y, x3, F, A, hd, hy, hJ, h1, h2 => by
    subst hy
    refine vX8_joins_69 ?_
    rw [hJ.2.1]
    have next : ZM l mX8_joins 3 w nb (qv P) 113 [(0, .ref 122), (1, .int (nI c)), (2, .int (nI x)), (3, .int (nI y))] [.int (nI (WS A0 c x y)), .int ((8 * nI x) + nI y), .ref 141] F A := by
      refine vX8_joins_113 ?_
      rw [ix_88, nI_clamp (by omega)]
      refine ⟨vp_in_nI (by omega) (by decide), joins_2i hc h8 hp hx kk d (y + 1) _ _ _ (by omega) (by rw [nI_1]) (hJ.put (by omega)) (fun x' y' q1 q2 => ?_) (fun y' q => ?_)⟩
      · rw [u2_n2 (by omega)]; exact h1 x' y' q1 q2
      · rcases Nat.lt_or_ge y' y with q2 | q2
        · rw [u2_n2 (by omega)]; exact h2 y' q2
        · rw [show y' = y by omega, u2_s]
    refine ⟨fun h => absurd h (nI_ge (by omega) (by omega)), fun _ => ⟨fun e => ?_, fun e => ?_⟩⟩
    · rw [nI_clamp (by omega), nI_clamp (by omega), hJ.2.2 x hx, hJ.2.2 y (by omega)]
      refine ⟨vp_in_nI (by omega) (by decide), vp_in_nI (by omega) (by decide), s_ahead (hJ.1.i8 h8) hc (by rw [hJ.1.2 134 c (by omega)]; exact (mbr_ok hx).1) (by rw [hJ.1.2 134 c (by omega)]; exact (mbr_ok (by omega)).1) ?_⟩
      rw [hJ.1.win]
      exact next
    · have := (nI_eq (by omega) (by omega)).mp e
      subst this
      have e0 : WS A0 c x x = 0 := winM_self A0 c _
      rw [e0] at next
      exact next
theorem joins_2 {c : Nat} (hc : c < 6) (h8 : I8 A0) (hp : pcn (A0 134 c) ≤ 8) (kk : ∀ F A, JM F0 A0 c F A → (∀ x y, x < pcn (A0 134 c) → y < pcn (A0 134 c) → A 141 (8 * x + y) = nI (WS A0 c x y)) → A 142 0 = nI 0 → ZM l mX8_joins 3 w nb (qv P) 135 [(0, .ref 122), (2, .int 1)] [] F A) :
    ∀ (d x : Nat) (x2 : Int32) (F A : MI), x + d = pcn (A0 134 c) → x2 = nI x → JM F0 A0 c F A → (∀ x' y', x' < x → y' < pcn (A0 134 c) → A 141 (8 * x' + y') = nI (WS A0 c x' y')) → ZM l mX8_joins 3 w nb (qv P) 59 [(0, .ref 122), (1, .int (nI c)), (2, .int x2)] [] F A
  | 0, x, x2, F, A, hd, hx, hJ, h1 => by
    subst hx
    refine vX8_joins_59 ?_
    rw [hJ.2.1]
    refine ⟨fun _ => ⟨vp_in_nI (n := 0) (N := 256) (by decide) (by decide), kk _ _ (hJ.put (by omega)) (fun x' y' q1 q2 => ?_) ?_⟩, fun h => absurd (nI_le (by omega) (by omega)) h⟩
    · rw [u2_n1 (by decide)]; exact h1 x' y' (by omega) q2
    · exact u2_s
  | d + 1, x, x2, F, A, hd, hx, hJ, h1 => by
    subst hx
    refine vX8_joins_59 ?_
    rw [hJ.2.1]
    refine ⟨fun h => absurd h (nI_ge (by omega) (by omega)), fun _ => joins_2i hc h8 hp (by omega) (fun F A hJ h => ?_) (pcn (A0 134 c)) 0 0 F A (by omega) rfl hJ h1 (fun y' q => absurd q (Nat.not_lt_zero y'))⟩
    exact joins_2 hc h8 hp kk d (x + 1) _ F A (by omega) (by rw [nI_1]) hJ (fun x' y' q1 q2 => h x' y' (by omega) q2)
/-- the running least, as M keeps it -/
def enc : Option Nat → Int32 | none => -1 | some v => nI v
/-- members and wins stand -/
def JW (F0 A0 : MI) (c : Nat) (F A : MI) : Prop := JM F0 A0 c F A ∧ ∀ x y, x < pcn (A0 134 c) → y < pcn (A0 134 c) → A 141 (8 * x + y) = nI (WS A0 c x y)
theorem JW.put {c : Nat} {F A : MI} (h : JW F0 A0 c F A) {a j : Nat} {v : Int32} (ha : 142 ≤ a ∧ a ≤ 143) : JW F0 A0 c F (u2 A a j v) := ⟨h.1.put (by omega), fun x y hx hy => (u2_n1 (by omega)).trans (h.2 x y hx hy)⟩
theorem WS_le (A : MI) (c x y : Nat) : WS A c x y ≤ 6 := winM_le A c _ _
theorem WS_self (A : MI) (c x : Nat) : WS A c x x = 0 := winM_self A c _
theorem joins_3i {c s : Nat} (hc : c < 6) (hp : pcn (A0 134 c) ≤ 8) (h0 : 0 < s) (hs : s < 2 ^ pcn (A0 134 c)) (kk : ∀ F A, JW F0 A0 c F A → (∀ s', s' ≤ s → A 142 s' = nI (Lf (WS A0 c) (pcn (A0 134 c)) s')) → ZM l mX8_joins 3 w nb (qv P) 135 [(0, .ref 122), (2, .int (nI s + 1))] [] F A) :
    ∀ (d x : Nat) (x3 : Int32) (F A : MI), x + d = pcn (A0 134 c) → x3 = nI x → JW F0 A0 c F A → (∀ s', s' < s → A 142 s' = nI (Lf (WS A0 c) (pcn (A0 134 c)) s')) → A 142 s = enc (mn (fun x => s.testBit x) (fun x => dcs (WS A0 c) (pcn (A0 134 c)) x s + Lf (WS A0 c) (pcn (A0 134 c)) (s - 2 ^ x)) x) → ZM l mX8_joins 3 w nb (qv P) 154 [(0, .ref 122), (2, .int (nI s)), (3, .int x3)] [] F A := by
  have hs2 : s < 256 := Nat.lt_of_lt_of_le hs (pow8 hp)
  have bnd : ∀ x, x < pcn (A0 134 c) → s.testBit x = true → dcs (WS A0 c) (pcn (A0 134 c)) x s + Lf (WS A0 c) (pcn (A0 134 c)) (s - 2 ^ x) < 2 ^ 20 := by
    intro x hx hb
    have p1 := Nat.two_pow_pos x
    have p2 := Nat.sub_le s (2 ^ x)
    have h1 := dcs_le (W := WS A0 c) (x := x) (s := s) hp (fun y _ => WS_le A0 c y x)
    have h2 := Lf_le (W := WS A0 c) hp (fun y x _ _ => WS_le A0 c y x) s (s - 2 ^ x) (by omega) (by omega)
    omega
  intro d
  induction d with
  | zero =>
    intro x x3 F A hd hx hJ h1 h2
    subst hx
    refine vX8_joins_154 ?_
    rw [hJ.1.2.1]
    refine ⟨fun _ => (kk F A hJ (fun s' q => ?_)), fun h => absurd (nI_le (by omega) (by omega)) h⟩
    rcases Nat.lt_or_ge s' s with q2 | q2
    · exact h1 s' q2
    · rw [show s' = s by omega, h2, show x = pcn (A0 134 c) by omega, Lf_some (setN _ hp s hs h0)]; rfl
  | succ d ih =>
    intro x x3 F A hd hx hJ h1 h2
    subst hx
    refine vX8_joins_154 ?_
    rw [hJ.1.2.1]
    refine ⟨fun h => absurd h (nI_ge (by omega) (by omega)), fun _ => s_has (b := x) (by omega) (fun hb => n1 ?_) (fun hb => n0 (vX8_joins_223 (ih (x + 1) _ F A (by omega) (by rw [nI_1]) hJ h1 ?_)))⟩
    · rw [setB s hs2 x (by omega)] at hb
      have hle := tb_le hb
      have hpos := Nat.two_pow_pos x
      refine s_cost (W := WS A0 c) hp (by omega) hs2 hJ.1.2.1 (fun y hy => hJ.2 y x hy (by omega)) (WS_self A0 c x) ?_
      have hv := vp_in_nI hs2 (N := 256) (by decide)
      have bx := bnd x (by omega) hb
      rw [setI s hs2 x (by omega) hb, nI_clamp (by omega), nI_clamp (by omega), h1 (s - 2 ^ x) (by omega), nI_add, h2]
      refine ⟨vp_in_nI (by omega) (by decide), hv, ?_⟩
      have put : ∀ v, mn (fun x => s.testBit x) (fun x => dcs (WS A0 c) (pcn (A0 134 c)) x s + Lf (WS A0 c) (pcn (A0 134 c)) (s - 2 ^ x)) (x + 1) = some v → ZM l mX8_joins 3 w nb (qv P) 215 [(0, .ref 122), (2, .int (nI s)), (3, .int (nI x)), (4, .int (nI v))] [] F A := by
        intro v hv2
        refine vX8_joins_215 ⟨hv, ?_⟩
        rw [nI_clamp (by omega)]
        refine vX8_joins_223 (ih (x + 1) _ _ _ (by omega) (by rw [nI_1]) (hJ.put (by omega)) (fun s' q => ?_) ?_)
        · rw [u2_n2 (by omega)]; exact h1 s' q
        · rw [u2_s, hv2]; rfl
      cases hm : mn (fun x => s.testBit x) (fun x => dcs (WS A0 c) (pcn (A0 134 c)) x s + Lf (WS A0 c) (pcn (A0 134 c)) (s - 2 ^ x)) x with
      | none =>
        refine ⟨fun _ => put _ ?_, fun h => absurd rfl h⟩
        unfold mn
        rw [if_pos hb, hm]
      | some u =>
        obtain ⟨⟨y, y1, y2, y3⟩, -⟩ := mn_some hm
        have bu : u < 2 ^ 20 := by rw [← y3]; exact bnd y (by omega) y2
        refine ⟨fun h => ?_, fun _ => ⟨hv, fun h => vX8_joins_223 (ih (x + 1) _ F A (by omega) (by rw [nI_1]) hJ h1 ?_), fun h => put _ ?_⟩⟩
        · have e2 := nI_toInt (n := u) (by omega)
          have e3 := congrArg Int32.toInt h
          have e4 : (-1 : Int32).toInt = -1 := rfl
          have e5 : (enc (some u)).toInt = (u : Int) := e2
          omega
        · rw [h2, hm]
          unfold mn
          rw [if_pos hb, hm]
          have : ¬ (dcs (WS A0 c) (pcn (A0 134 c)) x s + Lf (WS A0 c) (pcn (A0 134 c)) (s - 2 ^ x) < u) := fun q => absurd h (nI_ge q (by omega))
          simp only [if_neg this]
        · unfold mn
          rw [if_pos hb, hm]
          have : dcs (WS A0 c) (pcn (A0 134 c)) x s + Lf (WS A0 c) (pcn (A0 134 c)) (s - 2 ^ x) < u := by
            rcases Nat.lt_or_ge (dcs (WS A0 c) (pcn (A0 134 c)) x s + Lf (WS A0 c) (pcn (A0 134 c)) (s - 2 ^ x)) u with q | q
            · exact q
            · exact absurd (nI_le q (by omega)) h
          simp only [if_pos this]
    · rw [setB s hs2 x (by omega)] at hb
      rw [h2]
      conv => rhs; unfold mn
      rw [if_neg (by rw [hb]; decide)]
end JOINS3
