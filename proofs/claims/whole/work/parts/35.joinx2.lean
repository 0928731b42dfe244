section JOINX2
variable {l : Launch} {w : Nat → Nat} {nb : Nat} {F0 A0 : MI} {P : MI → MI → Prop}
def encX : Option Nat → Int32 | none => 384 | some v => nI v
/-- lost stands, and the fewest of the sets below S -/
def XL (W : Nat → Nat → Nat) (n S : Nat) (F A : MI) : Prop := F 82 7 = nI n ∧ (∀ b s, b < n → s < 2 ^ n → A (20 + b) s = nI (dcs W n b s)) ∧ ∀ s, s < S → A 28 s = nI (Lf W n s)
theorem bnd_fit {W : Nat → Nat → Nat} {n s x : Nat} (hn : n ≤ 8) (hW : ∀ y x, y < n → x < n → W y x ≤ 6) (hs : s < 2 ^ n) (hx : x < n) : dcs W n x s + Lf W n (s - 2 ^ x) < 2 ^ 20 ∧ Lf W n s < 2 ^ 20 := by
  have p1 := Nat.two_pow_pos x
  have p2 := Nat.sub_le s (2 ^ x)
  have p3 := pow8 hn
  have h1 := dcs_le (W := W) (x := x) (s := s) hn (fun y hy => hW y x hy hx)
  have h2 := Lf_le (W := W) hn hW s (s - 2 ^ x) (by omega) (by omega)
  have h3 := Lf_le (W := W) hn hW s s (by omega) (by omega)
  omega
/-- how many are in a set of at most 8 -/
def ps8 (s : Nat) : Nat := fb_ct (fun x => s.testBit x) 8
theorem ps8_out : ∀ s, s < 256 → ∀ x, x < 8 → s.testBit x = true → ps8 (s - 2 ^ x) + 1 = ps8 s := by decide +kernel
theorem Lf_pc {W : Nat → Nat → Nat} {n : Nat} (hn : n ≤ 8) (hW : ∀ y x, y < n → x < n → W y x ≤ 6) : ∀ (N s : Nat), s ≤ N → s < 2 ^ n → Lf W n s ≤ 48 * ps8 s
  | 0, s, h1, _ => by rw [show s = 0 by omega, Lf_0]; omega
  | N + 1, s, h1, h2 => by
    rcases Nat.eq_zero_or_pos s with e | e
    · rw [e, Lf_0]; omega
    · obtain ⟨⟨x, q1, q2, q3⟩, -⟩ := mn_some (Lf_some (W := W) (setN n hn s h2 e))
      have p := Nat.two_pow_pos x
      have p2 := tb_le q2
      have p3 := pow8 hn
      have ih := Lf_pc hn hW N (s - 2 ^ x) (by omega) (by omega)
      have d := dcs_le (x := x) (s := s) hn (fun y hy => hW y x hy q1)
      have z := ps8_out s (by omega) x (by omega) q2
      rw [← q3]
      show dcs W n x s + Lf W n (s - 2 ^ x) ≤ 48 * ps8 s
      omega
/-- no row has more than 384 SWAPS -/
theorem bnd_384 {W : Nat → Nat → Nat} {n s x : Nat} (hn : n ≤ 8) (hW : ∀ y x, y < n → x < n → W y x ≤ 6) (hs : s < 2 ^ n) (hx : x < n) (ht : s.testBit x = true) : dcs W n x s + Lf W n (s - 2 ^ x) ≤ 384 := by
  have p := Nat.two_pow_pos x
  have p2 := tb_le ht
  have p3 := pow8 hn
  have h1 := dcs_le (W := W) (x := x) (s := s) hn (fun y hy => hW y x hy hx)
  have h2 := Lf_pc (W := W) hn hW s (s - 2 ^ x) (by omega) (by omega)
  have z := ps8_out s (by omega) x (by omega) ht
  have z8 : ps8 s ≤ 8 := fb_ct_le _ 8
  omega
theorem s_swapsF {W : Nat → Nat → Nat} {n S s b : Nat} {F A : MI} {P : Int32 → MI → MI → Prop} (hn : n ≤ 8) (hX : XL W n S F A) (hS : s ≤ S) (hs : s < 2 ^ n) (hb : b < n) (ht : s.testBit b = true) (hP : P (nI (dcs W n b s + Lf W n (s - 2 ^ b))) F A) : CM l mX2_swapsWithFirst 1 w nb [.ref 7, .int (nI s), .int (nI b)] F A (qi P) := by
  have p1 := tb_le ht
  have p0 := Nat.two_pow_pos b
  have p3 := pow8 hn
  refine kX2_swapsWithFirst ?_
  rw [setI s (by omega) b (by omega) ht, nI_clamp (n := b) (by omega), nI_clamp (n := s) (by omega), nI_clamp (n := s - 2 ^ b) (by omega), hX.2.1 b s hb hs, hX.2.2 (s - 2 ^ b) (by omega), nI_add]
  exact ⟨vp_in_nI (by omega) (by decide), vp_in_nI (by omega) (by decide), vp_in_nI (by omega) (by decide), _, rfl, hP⟩
theorem fewest_in {W : Nat → Nat → Nat} {n s : Nat} {F A : MI} (hn : n ≤ 8) (hW : ∀ y x, y < n → x < n → W y x ≤ 6) (h0 : 0 < s) (hs : s < 2 ^ n) (hX : XL W n s F A) (kk : ∀ A', A' = u2 A 28 s (nI (Lf W n s)) → ZM l mX2_findFewest 2 w nb (qv P) 2 [(0, .ref 7), (1, .int (nI s + 1))] [] F A') :
    ∀ (d x : Nat) (x2 x3 : Int32), x + d = n → x3 = nI x → x2 = encX (mn (fun x => s.testBit x) (fun x => dcs W n x s + Lf W n (s - 2 ^ x)) x) → ZM l mX2_findFewest 2 w nb (qv P) 18 [(0, .ref 7), (1, .int (nI s)), (2, .int x2), (3, .int x3)] [] F A := by
  have p3 := pow8 hn
  intro d
  induction d with
  | zero =>
    intro x x2 x3 hd hx hy
    subst hx
    have : x = n := by omega
    subst this
    refine vX2_findFewest_18 ?_
    rw [hX.1, nI_clamp (n := s) (by omega)]
    refine ⟨fun _ => ⟨vp_in_nI (by omega) (by decide), kk _ ?_⟩, fun h => absurd (Int32.le_refl _) h⟩
    rw [hy, Lf_some (setN _ hn s hs h0)]
    rfl
  | succ d ih =>
    intro x x2 x3 hd hx hy
    subst hx
    refine vX2_findFewest_18 ?_
    rw [hX.1]
    have hxn : x < n := by omega
    refine ⟨fun h => absurd h (nI_ge hxn (by omega)), fun _ => ⟨fun h => ?_, fun h => ?_⟩⟩
    · rw [bit_and (by omega), setB s (by omega) x (by omega)] at h
      refine vX2_findFewest_45 (ih (x + 1) _ _ (by omega) (by rw [nI_1]) ?_)
      rw [hy]
      conv => rhs; unfold mn
      rw [if_neg (by rw [h]; decide)]
    · have hb : s.testBit x = true := by
        rw [bit_and (by omega), setB s (by omega) x (by omega)] at h
        cases q : s.testBit x
        · exact absurd q h
        · rfl
      have bx := (bnd_fit hn hW hs hxn).1
      refine s_swapsF hn hX (Nat.le_refl s) hs hxn hb (vX2_findFewest_45 (ih (x + 1) _ _ (by omega) (by rw [nI_1]) ?_))
      rw [hy]
      conv => rhs; unfold mn
      rw [if_pos hb]
      cases hm : mn (fun x => s.testBit x) (fun x => dcs W n x s + Lf W n (s - 2 ^ x)) x with
      | none =>
        have b3 := bnd_384 (W := W) hn hW hs hxn hb
        by_cases q : dcs W n x s + Lf W n (s - 2 ^ x) < 384
        · have : nI (dcs W n x s + Lf W n (s - 2 ^ x)) < encX none := by
            rw [i_lt, nI_toInt (by omega)]
            have : (encX none).toInt = 384 := rfl
            omega
          rw [if_pos this]
          rfl
        · have e3 : dcs W n x s + Lf W n (s - 2 ^ x) = 384 := by omega
          have : ¬ nI (dcs W n x s + Lf W n (s - 2 ^ x)) < encX none := by rw [e3]; decide +kernel
          rw [if_neg this]
          show encX none = nI (dcs W n x s + Lf W n (s - 2 ^ x))
          rw [e3]
          rfl
      | some u =>
        obtain ⟨⟨y, y1, y2, y3⟩, -⟩ := mn_some hm
        have bu : u < 2 ^ 20 := by rw [← y3]; exact (bnd_fit hn hW hs (by omega)).1
        by_cases q : dcs W n x s + Lf W n (s - 2 ^ x) < u
        · have : nI (dcs W n x s + Lf W n (s - 2 ^ x)) < encX (some u) := nI_lt q (by omega)
          rw [if_pos this]
          simp only [if_pos q]
          rfl
        · have : ¬ nI (dcs W n x s + Lf W n (s - 2 ^ x)) < encX (some u) := nI_nlt (by omega) (by omega)
          rw [if_neg this]
          simp only [if_neg q]
theorem fewest_out {W : Nat → Nat → Nat} {n : Nat} {F A1 : MI} (hn : n ≤ 8) (hW : ∀ y x, y < n → x < n → W y x ≤ 6) (hP : ∀ A, XF A1 A → XL W n (2 ^ n) F A → P F A) :
    ∀ (d s : Nat) (x1 : Int32) (A : MI), s + d = 2 ^ n → 0 < s → x1 = nI s → XF A1 A → XL W n s F A → ZM l mX2_findFewest 2 w nb (qv P) 2 [(0, .ref 7), (1, .int x1)] [] F A
  | 0, s, x1, A, hd, h0, hx, hF, hX => by
    subst hx
    have p3 := pow8 hn
    have : s = 2 ^ n := by omega
    subst this
    refine vX2_findFewest_2 ?_
    rw [hX.1, setP n hn]
    exact ⟨fun _ => ⟨rfl, hP A hF hX⟩, fun h => absurd (Int32.le_refl _) h⟩
  | d + 1, s, x1, A, hd, h0, hx, hF, hX => by
    subst hx
    have p3 := pow8 hn
    refine vX2_findFewest_2 ?_
    rw [hX.1, setP n hn]
    refine ⟨fun h => absurd h (nI_ge (by omega) (by omega)), fun _ => fewest_in hn hW h0 (by omega) hX (fun A' hA' => ?_) n 0 _ _ (by omega) rfl rfl⟩
    subst hA'
    refine fewest_out hn hW hP d (s + 1) _ _ (by omega) (by omega) (by rw [nI_1]) (fun a j q => (u2_ne (by omega)).trans (hF a j q)) ⟨hX.1, fun b t h1 h2 => (u2_n1 (by omega)).trans (hX.2.1 b t h1 h2), fun t ht => ?_⟩
    rcases Nat.lt_or_ge t s with q | q
    · rw [u2_n2 (by omega)]; exact hX.2.2 t q
    · rw [show t = s by omega, u2_s]
theorem leastFirst_loop {W : Nat → Nat → Nat} {n s : Nat} {F A : MI} {P : Int32 → MI → MI → Prop} (hn : n ≤ 8) (hW : ∀ y x, y < n → x < n → W y x ≤ 6) (h0 : 0 < s) (hs : s < 2 ^ n) (hX : XL W n (2 ^ n) F A) (hP : P (nI (pick W n s)) F A) : ∀ (d x : Nat) (x2 : Int32), x + d = pick W n s → x2 = nI x → ZM l mX2_leastFirst 2 w nb (qi P) 2 [(0, .ref 7), (1, .int (nI s)), (2, .int x2)] [] F A := by
  have p3 := pow8 hn
  have hpk := pick_ok (W := W) hn hs h0
  have hno := fun x (h : x < pick W n s) => pick_no (W := W) (n := n) (s := s) h
  generalize hq : pick W n s = q at *
  intro d
  induction d with
  | zero =>
    intro x x2 hd hx
    subst hx
    have : x = q := by omega
    subst this
    refine vX2_leastFirst_2 ?_
    rw [hX.1]
    refine ⟨fun h => absurd h (nI_ge hpk.1 (by omega)), fun _ => ⟨fun h => ?_, fun _ => ?_⟩⟩
    · rw [bit_and (by omega), setB s (by omega) x (by omega), hpk.2.1] at h; cases h
    · refine s_swapsF hn hX (by omega) hs hpk.1 hpk.2.1 ?_
      rw [nI_clamp (by omega), hX.2.2 s hs, hpk.2.2]
      exact ⟨vp_in_nI (by omega) (by decide), fun h => absurd rfl h, fun _ => ⟨_, rfl, hP⟩⟩
  | succ d ih =>
    intro x x2 hd hx
    subst hx
    have hxn : x < n := by omega
    have next := ih (x + 1) (nI x + 1) (by omega) (by rw [nI_1])
    refine vX2_leastFirst_2 ?_
    rw [hX.1]
    refine ⟨fun h => absurd h (nI_ge hxn (by omega)), fun _ => ⟨fun h => vX2_leastFirst_35 next, fun h => ?_⟩⟩
    have hb : s.testBit x = true := by
      rw [bit_and (by omega), setB s (by omega) x (by omega)] at h
      cases z : s.testBit x
      · exact absurd z h
      · rfl
    have bx := bnd_fit hn hW hs hxn
    refine s_swapsF hn hX (by omega) hs hxn hb ?_
    rw [nI_clamp (by omega), hX.2.2 s hs]
    exact ⟨vp_in_nI (by omega) (by decide), fun _ => vX2_leastFirst_35 next, fun e => absurd ⟨hb, (nI_eq (by omega) (by omega)).mp e⟩ (hno x (by omega))⟩
theorem s_leastFirst {W : Nat → Nat → Nat} {n s : Nat} {F A : MI} {P : Int32 → MI → MI → Prop} (hn : n ≤ 8) (hW : ∀ y x, y < n → x < n → W y x ≤ 6) (h0 : 0 < s) (hs : s < 2 ^ n) (hX : XL W n (2 ^ n) F A) (hP : P (nI (pick W n s)) F A) : CM l mX2_leastFirst 2 w nb [.ref 7, .int (nI s)] F A (qi P) :=
  kX2_leastFirst (leastFirst_loop hn hW h0 hs hX hP (pick W n s) 0 0 (Nat.zero_add _) rfl)
theorem join_loop {c : Nat} {e : Int32} {W : Nat → Nat → Nat} {F A1 : MI} (hc : c < 6) (hn : pcn e ≤ 8) (hW : ∀ y x, y < pcn e → x < pcn e → W y x ≤ 6) (hm : ∀ k, k < pcn e → A1 8 k = nI (mbr e k)) (hX1 : XL W (pcn e) (2 ^ pcn e) F A1) (hP : ∀ A, (∀ a j, ¬ a = 38 + 14 * c + 12 → A a j = A1 a j) → (∀ k, k < pcn e → A (38 + 14 * c + 12) k = nI (mbr e (pick W (pcn e) (ssq W (pcn e) k)))) → P F A) :
    ∀ (d k : Nat) (x3 : Int32) (A : MI), k + d = pcn e → x3 = nI k → (∀ a j, ¬ a = 38 + 14 * c + 12 → A a j = A1 a j) → (∀ k', k' < k → A (38 + 14 * c + 12) k' = nI (mbr e (pick W (pcn e) (ssq W (pcn e) k')))) → ZM l mX2_join 3 w nb (qv P) 34 [(0, .ref 7), (1, .ref (38 + 14 * c)), (2, .int (nI (ssq W (pcn e) k))), (3, .int x3)] [] F A
  | 0, k, x3, A, hd, hx, hA, h1 => by
    subst hx
    refine vX2_join_34 hc ?_
    rw [hX1.1]
    exact ⟨fun _ => ⟨rfl, hP A hA (fun k' q => h1 k' (by omega))⟩, fun h => absurd (nI_le (by omega) (by omega)) h⟩
  | d + 1, k, x3, A, hd, hx, hA, h1 => by
    subst hx
    have hk : k < pcn e := by omega
    have p3 := pow8 hn
    have hlt := ssq_lt (W := W) (n := pcn e) k
    have hpk := pick_ok (W := W) hn hlt (ssq_pos hn hk)
    refine vX2_join_34 hc ?_
    rw [hX1.1]
    have hX : XL W (pcn e) (2 ^ pcn e) F A := ⟨hX1.1, fun b s q1 q2 => (hA _ _ (by omega)).trans (hX1.2.1 b s q1 q2), fun s q => (hA _ _ (by omega)).trans (hX1.2.2 s q)⟩
    refine ⟨fun h => absurd h (nI_ge hk (by omega)), fun _ => s_leastFirst hn hW (ssq_pos hn hk) hlt hX ?_⟩
    rw [setI _ (by omega) _ (by omega) hpk.2.1, nI_clamp (by omega), nI_clamp (by omega), hA 8 _ (by omega), hm _ hpk.1]
    refine ⟨vp_in_nI (by omega) (by decide), vp_in_nI (by omega) (by decide), ?_⟩
    refine join_loop hc hn hW hm hX1 hP d (k + 1) _ _ (by omega) (by rw [nI_1]) (fun a j q => (u2_n1 q).trans (hA a j q)) (fun k' q => ?_)
    rcases Nat.lt_or_ge k' k with z | z
    · rw [u2_n2 (by omega)]; exact h1 k' z
    · rw [show k' = k by omega, u2_s]
theorem WSX_le (A : MI) (c : Nat) (e : Int32) (x y : Nat) : WSX A c e x y ≤ 6 := fb_ct_le _ 6
/-- X.join: THE JOINED ORDER of CLASS c by the ORDERS as X holds them -/
theorem s_join {c : Nat} {e : Int32} (hc : c < 6) (he : F0 160 (38 + 14 * c) = e) (hb : ∀ b, bt e b = true → b < 20) (h8 : pcn e ≤ 8) (hO : OX A0 c e) (h10 : I10 A0)
    (hP : ∀ F A, (∀ f a, ¬ ((f = 82 ∧ a = 7) ∨ (f = 167 ∧ a = 38 + 14 * c)) → F f a = F0 f a) → (∀ a j, ¬ ((8 ≤ a ∧ a ≤ 28) ∨ a = 38 + 14 * c + 12) → A a j = A0 a j) → I10 A → F 167 (38 + 14 * c) = nI (Lf (WSX A0 c e) (pcn e) (2 ^ pcn e - 1)) → (∀ k, k < pcn e → A (38 + 14 * c + 12) k = nI (mbr e (pick (WSX A0 c e) (pcn e) (ssq (WSX A0 c e) (pcn e) k)))) → P F A) : CM l mX2_join 3 w nb [.ref 7, .ref (38 + 14 * c)] F0 A0 (qv P) := by
  have p3 := pow8 h8
  have hpos := Nat.two_pow_pos (pcn e)
  have hW : ∀ y x, y < pcn e → x < pcn e → WSX A0 c e y x ≤ 6 := fun y x _ _ => WSX_le A0 c e y x
  refine kX2_join hc (s_tally hc he hb h8 hO (fun F1 A1 t1 t2 => kX2_sumLost (sumLost_out h8 t1.2.1 t2 (fun b q => (t1.1.2 _ _ (by omega)).trans (h10.1 b q)) (fun A2 x2 y2 => ?_) (pcn e) 0 0 A1 (by omega) rfl (fun _ _ _ => rfl) (fun b s q => absurd q (Nat.not_lt_zero b)))))
  refine kX2_findFewest (fewest_out (A1 := A2) h8 hW (fun A3 x3 y3 => ?_) (2 ^ pcn e - 1) 1 1 A2 (by omega) (by decide) rfl (fun _ _ _ => rfl) ⟨t1.2.1, y2, fun s q => ?_⟩)
  · rw [t1.2.1, setP _ h8, nI_lit 1, pk_sub hpos, nI_clamp (by omega), y3.2.2 _ (by omega)]
    refine ⟨vp_in_nI (by omega) (by decide), ?_⟩
    have hF3 : XL (WSX A0 c e) (pcn e) (2 ^ pcn e) (u2 F1 167 (38 + 14 * c) (nI (Lf (WSX A0 c e) (pcn e) (2 ^ pcn e - 1)))) A3 := ⟨by rw [u2_n1 (by decide)]; exact t1.2.1, y3.2.1, y3.2.2⟩
    have hA3 : ∀ a j, ¬ (8 ≤ a ∧ a ≤ 28) → A3 a j = A0 a j := fun a j q => (x3 a j (by omega)).trans ((x2 a j (by omega)).trans (t1.1.2 a j (by omega)))
    refine join_loop hc h8 hW (fun k hk => (x3 _ _ (by omega)).trans ((x2 _ _ (by omega)).trans (t1.2.2.1 k hk))) hF3 (fun A4 g1 g2 => hP _ A4 (fun f a q => (u2_ne (by omega)).trans (t1.1.1 f a (by omega))) (fun a j q => (g1 a j (by omega)).trans (hA3 a j (by omega))) ⟨fun b hb' => ?_, ?_⟩ u2_s g2) (pcn e) 0 0 A3 (by omega) rfl (fun _ _ _ => rfl) (fun k q => absurd q (Nat.not_lt_zero k))
    · rw [g1 _ _ (by omega), x3 _ _ (by omega), x2 _ _ (by omega), t1.1.2 _ _ (by omega)]; exact h10.1 b hb'
    · rw [g1 _ _ (by omega), x3 _ _ (by omega), x2 _ _ (by omega), t1.1.2 _ _ (by omega)]; exact h10.2
  · rw [show s = 0 by omega, x2 _ _ (by omega), t1.1.2 _ _ (by omega), h10.2, Lf_0]
    rfl
end JOINX2
