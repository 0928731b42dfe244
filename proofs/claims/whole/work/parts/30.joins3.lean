section JOINS4
variable {l : Launch} {w : Nat → Nat} {nb : Nat} {F0 A0 : MI} {P : MI → MI → Prop}
theorem joins_3 {c : Nat} (hc : c < 6) (hp : pcn (A0 134 c) ≤ 8) (kk : ∀ F A, JW F0 A0 c F A → (∀ s, s < 2 ^ pcn (A0 134 c) → A 142 s = nI (Lf (WS A0 c) (pcn (A0 134 c)) s)) → ZM l mX8_joins 3 w nb (qv P) 246 [(0, .ref 122), (2, .int (nI (2 ^ pcn (A0 134 c) - 1))), (3, .int 0)] [] F A) :
    ∀ (d s : Nat) (x2 : Int32) (F A : MI), s + d = 2 ^ pcn (A0 134 c) → 0 < s → x2 = nI s → JW F0 A0 c F A → (∀ s', s' < s → A 142 s' = nI (Lf (WS A0 c) (pcn (A0 134 c)) s')) → ZM l mX8_joins 3 w nb (qv P) 135 [(0, .ref 122), (2, .int x2)] [] F A
  | 0, s, x2, F, A, hd, h0, hx, hJ, h1 => by
    subst hx
    have := pow8 hp
    refine vX8_joins_135 ?_
    rw [hJ.1.2.1, setP _ hp]
    refine ⟨fun _ => ?_, fun h => absurd (nI_le (by omega) (by omega)) h⟩
    rw [nI_lit 1, pk_sub (Nat.two_pow_pos _)]
    exact kk F A hJ (fun s' q => h1 s' (by omega))
  | d + 1, s, x2, F, A, hd, h0, hx, hJ, h1 => by
    subst hx
    have := pow8 hp
    refine vX8_joins_135 ?_
    rw [hJ.1.2.1, setP _ hp, nI_clamp (by omega)]
    refine ⟨fun h => absurd h (nI_ge (by omega) (by omega)), fun _ => ⟨vp_in_nI (by omega) (by decide), ?_⟩⟩
    refine joins_3i hc hp h0 (by omega) (fun F A hJ h => ?_) (pcn (A0 134 c)) 0 0 _ _ (by omega) rfl (hJ.put (by omega)) (fun s' q => ?_) ?_
    · exact joins_3 hc hp kk d (s + 1) _ F A (by omega) (by omega) (by rw [nI_1]) hJ (fun s' q => h s' (by omega))
    · rw [u2_n2 (by omega)]; exact h1 s' q
    · rw [u2_s]; rfl
/-- all that joins lays down -/
def JL (F0 A0 : MI) (c : Nat) (F A : MI) : Prop := JW F0 A0 c F A ∧ ∀ s, s < 2 ^ pcn (A0 134 c) → A 142 s = nI (Lf (WS A0 c) (pcn (A0 134 c)) s)
theorem JL.put {c : Nat} {F A : MI} (h : JL F0 A0 c F A) {j : Nat} {v : Int32} : JL F0 A0 c F (u2 A 143 j v) := ⟨h.1.put (by omega), fun s hs => (u2_n1 (by decide)).trans (h.2 s hs)⟩
/-- how many are in a set of eight -/
def pc8 (s : Nat) : Nat := fb_ct (fun x => s.testBit x) 8
theorem pc8_full : ∀ n, n ≤ 8 → pc8 (2 ^ n - 1) = n := by decide +kernel
theorem pc8_del : ∀ s, s < 256 → ∀ x, x < 8 → s.testBit x = true → pc8 (s - 2 ^ x) + 1 = pc8 s := by decide +kernel
theorem pc8_pos : ∀ s, s < 256 → 0 < pc8 s → 0 < s := by decide +kernel
theorem pc8_0 : pc8 0 = 0 := by decide +kernel
theorem ssq_pc {W : Nat → Nat → Nat} {n : Nat} (hn : n ≤ 8) : ∀ k, k ≤ n → pc8 (ssq W n k) = n - k
  | 0, _ => pc8_full n hn
  | k + 1, h => by
    have ih := ssq_pc (W := W) hn k (by omega)
    have hlt := ssq_lt (W := W) (n := n) k
    have h256 := pow8 hn
    have hp := pick_ok (W := W) hn hlt (pc8_pos _ (by omega) (by omega))
    have := pc8_del (ssq W n k) (by omega) _ (by omega) hp.2.1
    unfold ssq
    omega
theorem ssq_pos {W : Nat → Nat → Nat} {n k : Nat} (hn : n ≤ 8) (hk : k < n) : 0 < ssq W n k := by
  have h1 := ssq_pc (W := W) hn k (by omega)
  have h2 := ssq_lt (W := W) (n := n) k
  have h3 := pow8 hn
  exact pc8_pos _ (by omega) (by omega)
theorem joins_4i {c k : Nat} (hc : c < 6) (hp : pcn (A0 134 c) ≤ 8) (hk : k < pcn (A0 134 c)) (kk : ∀ F A, JL F0 A0 c F A → (∀ k', k' ≤ k → A 143 k' = nI (rowM A0 c k')) → ZM l mX8_joins 3 w nb (qv P) 246 [(0, .ref 122), (2, .int (nI (ssq (WS A0 c) (pcn (A0 134 c)) (k + 1)))), (3, .int (nI k + 1))] [] F A) :
    ∀ (d x : Nat) (x4 : Int32) (F A : MI), x + d = pick (WS A0 c) (pcn (A0 134 c)) (ssq (WS A0 c) (pcn (A0 134 c)) k) → x4 = nI x → JL F0 A0 c F A → (∀ k', k' < k → A 143 k' = nI (rowM A0 c k')) → ZM l mX8_joins 3 w nb (qv P) 257 [(0, .ref 122), (2, .int (nI (ssq (WS A0 c) (pcn (A0 134 c)) k))), (3, .int (nI k)), (4, .int x4)] [] F A := by
  have hlt := ssq_lt (W := WS A0 c) (n := pcn (A0 134 c)) k
  have h0 := ssq_pos (W := WS A0 c) hp hk
  have hpk := pick_ok (W := WS A0 c) hp hlt h0
  have h256 := pow8 hp
  generalize hs : ssq (WS A0 c) (pcn (A0 134 c)) k = s at *
  generalize hq : pick (WS A0 c) (pcn (A0 134 c)) s = q at *
  have hs2 : s < 256 := by omega
  have hv := vp_in_nI hs2 (N := 256) (by decide)
  have bnd : ∀ x, x < pcn (A0 134 c) → s.testBit x = true → dcs (WS A0 c) (pcn (A0 134 c)) x s + Lf (WS A0 c) (pcn (A0 134 c)) (s - 2 ^ x) < 2 ^ 20 ∧ Lf (WS A0 c) (pcn (A0 134 c)) s < 2 ^ 20 := by
    intro x hx hb
    have p1 := Nat.two_pow_pos x
    have p2 := Nat.sub_le s (2 ^ x)
    have h1 := dcs_le (W := WS A0 c) (x := x) (s := s) hp (fun y _ => WS_le A0 c y x)
    have h2 := Lf_le (W := WS A0 c) hp (fun y x _ _ => WS_le A0 c y x) s (s - 2 ^ x) (by omega) (by omega)
    have h3 := Lf_le (W := WS A0 c) hp (fun y x _ _ => WS_le A0 c y x) s s (by omega) (by omega)
    omega
  intro d
  induction d with
  | zero =>
    intro x x4 F A hd hx hJ h1
    have : x = q := by omega
    subst this
    subst hx
    have px := Nat.sub_le s (2 ^ x)
    refine vX8_joins_257 (s_has (b := x) (by omega) (fun hb => z1 ?_) (fun hb => ?_))
    · refine s_cost (W := WS A0 c) hp hpk.1 hs2 hJ.1.1.2.1 (fun y hy => hJ.1.2 y x hy hpk.1) (WS_self A0 c x) ?_
      rw [setI s hs2 x (by omega) hpk.2.1, nI_clamp (by omega), nI_clamp (by omega), hJ.2 (s - 2 ^ x) (by omega), hJ.2 s hlt, nI_add]
      refine ⟨vp_in_nI (by omega) (by decide), hv, fun _ => ?_, fun h => absurd (by rw [hpk.2.2]) h⟩
      rw [nI_clamp (by omega), nI_clamp (by omega), hJ.1.1.2.2 x hpk.1]
      refine ⟨vp_in_nI (by omega) (by decide), vp_in_nI (by omega) (by decide), ?_⟩
      have := kk F (u2 A 143 k (nI (mbr (A0 134 c) x))) hJ.put (fun k' q2 => ?_)
      · unfold ssq at this
        rw [hs, hq] at this
        exact this
      · rcases Nat.lt_or_ge k' k with q3 | q3
        · rw [u2_n2 (by omega)]; exact h1 k' q3
        · rw [show k' = k by omega, u2_s]
          unfold rowM
          rw [hs, hq]
    · rw [setB s hs2 x (by omega), hpk.2.1] at hb; cases hb
  | succ d ih =>
    intro x x4 F A hd hx hJ h1
    subst hx
    have hxn : x < pcn (A0 134 c) := by omega
    have px := Nat.sub_le s (2 ^ x)
    have no := pick_no (W := WS A0 c) (n := pcn (A0 134 c)) (s := s) (x := x) (by omega)
    refine vX8_joins_257 (s_has (b := x) (by omega) (fun hb => z1 ?_) (fun hb => z0 (vX8_joins_296 (ih (x + 1) _ F A (by omega) (by rw [nI_1]) hJ h1))))
    rw [setB s hs2 x (by omega)] at hb
    have bx := bnd x hxn hb
    refine s_cost (W := WS A0 c) hp hxn hs2 hJ.1.1.2.1 (fun y hy => hJ.1.2 y x hy hxn) (WS_self A0 c x) ?_
    rw [setI s hs2 x (by omega) hb, nI_clamp (by omega), nI_clamp (by omega), hJ.2 (s - 2 ^ x) (by omega), hJ.2 s hlt, nI_add]
    refine ⟨vp_in_nI (by omega) (by decide), hv, fun h => ?_, fun _ => vX8_joins_296 (ih (x + 1) _ F A (by omega) (by rw [nI_1]) hJ h1)⟩
    exact absurd ⟨hb, (nI_eq (by omega) (by omega)).mp h⟩ no
theorem joins_4 {c : Nat} (hc : c < 6) (hp : pcn (A0 134 c) ≤ 8) (kk : ∀ F A, JL F0 A0 c F A → (∀ k, k < pcn (A0 134 c) → A 143 k = nI (rowM A0 c k)) → P F A) :
    ∀ (d k : Nat) (x3 : Int32) (F A : MI), k + d = pcn (A0 134 c) → x3 = nI k → JL F0 A0 c F A → (∀ k', k' < k → A 143 k' = nI (rowM A0 c k')) → ZM l mX8_joins 3 w nb (qv P) 246 [(0, .ref 122), (2, .int (nI (ssq (WS A0 c) (pcn (A0 134 c)) k))), (3, .int x3)] [] F A
  | 0, k, x3, F, A, hd, hx, hJ, h1 => by
    subst hx
    refine vX8_joins_246 ?_
    rw [hJ.1.1.2.1]
    exact ⟨fun _ => ⟨rfl, kk F A hJ (fun k' q => h1 k' (by omega))⟩, fun h => absurd (nI_le (by omega) (by omega)) h⟩
  | d + 1, k, x3, F, A, hd, hx, hJ, h1 => by
    subst hx
    refine vX8_joins_246 ?_
    rw [hJ.1.1.2.1]
    refine ⟨fun h => absurd h (nI_ge (by omega) (by omega)), fun _ => joins_4i hc hp (by omega) (fun F A hJ h => ?_) (pick (WS A0 c) (pcn (A0 134 c)) (ssq (WS A0 c) (pcn (A0 134 c)) k)) 0 0 F A (Nat.zero_add _) rfl hJ h1⟩
    exact joins_4 hc hp kk d (k + 1) _ F A (by omega) (by rw [nI_1]) hJ (fun k' q => h k' (by omega))
/-- joins(c): the members, their wins, the fewest SWAPS and THE JOINED ORDER -/
theorem s_joins' {c : Nat} (h2 : I2 nb F0 A0) (h5 : I5 nb F0 A0) (h8 : I8 A0) (hc : c < 6) (kk : ∀ F A, JF F0 A0 F A → F 345 122 = nI (pcn (A0 134 c)) → (∀ k, k < pcn (A0 134 c) → A 140 k = nI (mbr (A0 134 c) k)) → (∀ x y, x < pcn (A0 134 c) → y < pcn (A0 134 c) → A 141 (8 * x + y) = nI (WS A0 c x y)) → A 142 (2 ^ pcn (A0 134 c) - 1) = nI (fwM A0 c) → (∀ k, k < pcn (A0 134 c) → A 143 k = nI (rowM A0 c k)) → P F A) : CM l mX8_joins 3 w nb [.ref 122, .int (nI c)] F0 A0 (qv P) := by
  obtain ⟨-, -, -, hp, hb, -⟩ := h5 c hc
  have hn := h2.2.1
  have hn2 := h2.2.2.1
  have hJ0 : JF F0 A0 (u2 F0 345 122 0) A0 := ⟨fun f a q => u2_ne q, fun _ _ _ => rfl⟩
  refine kX8_joins (joins_1 hc hn hn2 hb hp (fun F A j1 j2 j3 => ?_) nb 0 0 _ _ (by omega) rfl hJ0 (by rw [u2_s]; rfl) (fun k q => absurd q (Nat.not_lt_zero k)))
  refine joins_2 hc h8 hp (fun F A j1 j2 j3 => ?_) (pcn (A0 134 c)) 0 0 F A (by omega) rfl ⟨j1, j2, j3⟩ (fun x y q => absurd q (Nat.not_lt_zero x))
  have hpos := Nat.two_pow_pos (pcn (A0 134 c))
  refine joins_3 hc hp (fun F A j1 j2 => ?_) (2 ^ pcn (A0 134 c) - 1) 1 1 F A (by omega) (by decide) rfl ⟨j1, j2⟩ (fun s q => by rw [show s = 0 by omega, j3, Lf_0])
  exact joins_4 hc hp (fun F A j1 j2 => kk F A j1.1.1.1 j1.1.1.2.1 j1.1.1.2.2 j1.1.2 (j1.2 _ (by omega)) j2) (pcn (A0 134 c)) 0 0 F A (by omega) rfl ⟨j1, j2⟩ (fun k q => absurd q (Nat.not_lt_zero k))
theorem JF.inv {F A : MI} (h : JF F0 A0 F A) (hw : TW w) (hI : Inv w nb F0 A0) : Inv w nb F A := hI.frame hw.1 (fun f a q => h.1 f a (fun e => q (Or.inr (Or.inr (Or.inr ⟨e.2, by omega, by omega, by omega⟩))))) (fun a j q => h.2 a j (fun e => q (by unfold scA; omega)))
end JOINS4
