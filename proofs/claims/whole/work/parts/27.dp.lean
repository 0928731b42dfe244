theorem mn_none {p : Nat → Bool} {g : Nat → Nat} : ∀ {k : Nat}, mn p g k = none ↔ ∀ x, x < k → p x = false
  | 0 => ⟨fun _ x hx => absurd hx (Nat.not_lt_zero x), fun _ => rfl⟩
  | k + 1 => by
    unfold mn
    cases hp : p k
    · rw [if_neg (by decide), mn_none]
      exact ⟨fun h x hx => by rcases Nat.lt_or_ge x k with q | q; exact h x q; rw [show x = k by omega]; exact hp, fun h x hx => h x (by omega)⟩
    · rw [if_pos rfl]
      constructor
      · intro h
        cases h
      · intro h
        rw [h k (by omega)] at hp
        cases hp
theorem mn_some {p : Nat → Bool} {g : Nat → Nat} : ∀ {k v : Nat}, mn p g k = some v → (∃ x, x < k ∧ p x = true ∧ g x = v) ∧ ∀ x, x < k → p x = true → v ≤ g x
  | 0, v, h => by cases h
  | k + 1, v, h => by
    unfold mn at h
    cases hp : p k
    · rw [hp, if_neg (by decide)] at h
      obtain ⟨⟨x, h1, h2, h3⟩, h4⟩ := mn_some h
      refine ⟨⟨x, by omega, h2, h3⟩, fun y hy q => ?_⟩
      rcases Nat.lt_or_ge y k with e | e
      · exact h4 y e q
      · rw [show y = k by omega, hp] at q; cases q
    · rw [hp, if_pos rfl] at h
      cases hm : mn p g k with
      | none =>
        rw [hm] at h
        simp only [Option.some.injEq] at h
        refine ⟨⟨k, by omega, hp, h⟩, fun y hy q => ?_⟩
        rcases Nat.lt_or_ge y k with e | e
        · rw [mn_none.mp hm y e] at q; cases q
        · rw [show y = k by omega, h]; exact Nat.le_refl _
      | some u =>
        rw [hm] at h
        simp only [Option.some.injEq] at h
        obtain ⟨⟨x, h1, h2, h3⟩, h4⟩ := mn_some hm
        by_cases e : g k < u
        · rw [if_pos e] at h
          refine ⟨⟨k, by omega, hp, h⟩, fun y hy q => ?_⟩
          rcases Nat.lt_or_ge y k with e2 | e2
          · have := h4 y e2 q; omega
          · rw [show y = k by omega, h]; exact Nat.le_refl _
        · rw [if_neg e] at h
          refine ⟨⟨x, by omega, h2, by omega⟩, fun y hy q => ?_⟩
          rcases Nat.lt_or_ge y k with e2 | e2
          · have := h4 y e2 q; omega
          · rw [show y = k by omega]; omega
theorem mn_cong {p : Nat → Bool} {g g' : Nat → Nat} : ∀ {k : Nat}, (∀ x, x < k → p x = true → g x = g' x) → mn p g k = mn p g' k
  | 0, _ => rfl
  | k + 1, h => by
    unfold mn
    rw [mn_cong (fun x hx q => h x (by omega) q)]
    cases hp : p k
    · rfl
    · rw [h k (by omega) hp]
theorem Lf_eq (W : Nat → Nat → Nat) (n s : Nat) : Lf W n s = (mn (fun x => s.testBit x) (fun x => dcs W n x s + Lf W n (s - 2 ^ x)) n).getD 0 := by
  rw [Lf]
  congr 1
  apply mn_cong
  intro x _ h
  rw [dif_pos h]
theorem Lf_0 (W : Nat → Nat → Nat) (n : Nat) : Lf W n 0 = 0 := by
  rw [Lf_eq, mn_none.mpr (fun x _ => Nat.zero_testBit x)]
  rfl
/-- the least is taken on -/
theorem Lf_some {W : Nat → Nat → Nat} {n s : Nat} (h : ∃ x, x < n ∧ s.testBit x = true) : mn (fun x => s.testBit x) (fun x => dcs W n x s + Lf W n (s - 2 ^ x)) n = some (Lf W n s) := by
  rw [Lf_eq W n s]
  cases e : mn (fun x => s.testBit x) (fun x => dcs W n x s + Lf W n (s - 2 ^ x)) n with
  | none =>
    obtain ⟨x, hx, q⟩ := h
    rw [mn_none.mp e x hx] at q; cases q
  | some v => rfl
theorem sets : ∀ s, s < 256 → ∀ x, x < 8 → s.testBit x = true → ∀ y, y < 8 → (s - 2 ^ x).testBit y = (s.testBit y && decide (y ≠ x)) := by decide +kernel
theorem setI : ∀ s, s < 256 → ∀ x, x < 8 → s.testBit x = true → nI s &&& ((1 <<< (nI x &&& 31)) ^^^ (-1)) = nI (s - 2 ^ x) := by decide +kernel
theorem setB : ∀ s, s < 256 → ∀ x, x < 8 → bt (nI s) x = s.testBit x := by decide +kernel
theorem setP : ∀ n, n ≤ 8 → (1 : Int32) <<< (nI n &&& 31) = nI (2 ^ n) := by decide +kernel
theorem setO : ∀ t, t < 8 → ∀ r, r < 2 ^ t → nI r ||| ((1 : Int32) <<< (nI t &&& 31)) = nI (r + 2 ^ t) := by decide +kernel
theorem setT : ∀ t, t < 8 → ∀ r, r < 2 ^ t → ∀ y, y < 8 → (r + 2 ^ t).testBit y = (r.testBit y || decide (y = t)) := by decide +kernel
theorem setF : ∀ n, n ≤ 8 → ∀ y, y < 8 → (2 ^ n - 1).testBit y = decide (y < n) := by decide +kernel
theorem setN : ∀ n, n ≤ 8 → ∀ s, s < 2 ^ n → 0 < s → ∃ x, x < n ∧ s.testBit x = true := by decide +kernel
theorem setU : ∀ n, n ≤ 8 → ∀ s, s < 2 ^ n → ∀ y, y < 8 → s.testBit y = true → y < n := by decide +kernel
theorem pow8 {n : Nat} (h : n ≤ 8) : 2 ^ n ≤ 256 := by
  have : ∀ n, n ≤ 8 → 2 ^ n ≤ 256 := by decide
  exact this n h
theorem dcs_le {W : Nat → Nat → Nat} {n x s : Nat} (hn : n ≤ 8) (hW : ∀ y, y < n → W y x ≤ 6) : dcs W n x s ≤ 48 := by
  have h := fb_sm_bound (f := fun y => if s.testBit y = true then W y x else 0) (c := 6) (n := n) (fun k hk => by
    show (if s.testBit k = true then W k x else 0) ≤ 6
    split
    · exact hW k hk
    · omega)
  unfold dcs
  omega
theorem Lf_le {W : Nat → Nat → Nat} {n : Nat} (hn : n ≤ 8) (hW : ∀ y x, y < n → x < n → W y x ≤ 6) : ∀ (N s : Nat), s ≤ N → s < 2 ^ n → Lf W n s ≤ 48 * s
  | 0, s, h1, _ => by rw [show s = 0 by omega, Lf_0]; omega
  | N + 1, s, h1, h2 => by
    rcases Nat.eq_zero_or_pos s with e | e
    · rw [e, Lf_0]; omega
    · obtain ⟨⟨x, q1, q2, q3⟩, -⟩ := mn_some (Lf_some (W := W) (setN n hn s h2 e))
      have p := Nat.two_pow_pos x
      have p2 := tb_le q2
      have ih := Lf_le hn hW N (s - 2 ^ x) (by omega) (by omega)
      have d := dcs_le (x := x) (s := s) hn (fun y hy => hW y x hy q1)
      rw [← q3]
      show dcs W n x s + Lf W n (s - 2 ^ x) ≤ 48 * s
      omega
theorem pick_ok {W : Nat → Nat → Nat} {n s : Nat} (hn : n ≤ 8) (h2 : s < 2 ^ n) (h0 : 0 < s) : pick W n s < n ∧ s.testBit (pick W n s) = true ∧ dcs W n (pick W n s) s + Lf W n (s - 2 ^ pick W n s) = Lf W n s := by
  have hlt : pick W n s < n := by
    rcases Nat.lt_or_ge (pick W n s) n with q | q
    · exact q
    · obtain ⟨⟨x, q1, q2, q3⟩, -⟩ := mn_some (Lf_some (W := W) (setN n hn s h2 h0))
      have := fa_first_no _ n x (Nat.lt_of_lt_of_le q1 q)
      simp only [q2, Bool.true_and, beq_eq_false_iff_ne] at this
      exact absurd q3 this
  have h := fa_first_yes _ n hlt
  simp only [Bool.and_eq_true, beq_iff_eq] at h
  exact ⟨hlt, h.1, h.2⟩
theorem pick_no {W : Nat → Nat → Nat} {n s x : Nat} (h : x < pick W n s) : ¬ (s.testBit x = true ∧ dcs W n x s + Lf W n (s - 2 ^ x) = Lf W n s) := by
  intro q
  have := fa_first_no _ n x h
  simp [q.1, q.2] at this
/-- the first with a property, found by a walk from below -/
theorem first_is {p : Nat → Bool} {n i : Nat} (hi : i < n) (h1 : p i = true) (h2 : ∀ j, j < i → p j = false) : fa_first p n = i := by
  have hle : fa_first p n ≤ i := by
    rcases Nat.lt_or_ge i (fa_first p n) with q | q
    · rw [fa_first_no p n i q] at h1; cases h1
    · exact q
  rcases Nat.lt_or_ge (fa_first p n) i with q | q
  · have := fa_first_yes p n (by omega)
    rw [h2 _ q] at this; cases this
  · omega
theorem ssq_lt {W : Nat → Nat → Nat} {n : Nat} : ∀ k, ssq W n k < 2 ^ n
  | 0 => by have := Nat.two_pow_pos n; unfold ssq; omega
  | k + 1 => Nat.lt_of_le_of_lt (Nat.sub_le _ _) (ssq_lt (W := W) (n := n) k)
/-- members of a set -/
theorem mbr_of {e : Int32} {b : Nat} (hb : bt e b = true) : mbr e (fb_ct (bt e) b) = b := by
  have h32 : b < 32 := by
    rcases Nat.lt_or_ge b 32 with q | q
    · exact q
    · rw [b_big q] at hb; cases hb
  refine first_is h32 (by simp [hb]) (fun j hj => ?_)
  cases e1 : bt e j
  · rfl
  · simp only [Bool.true_and, beq_eq_false_iff_ne]
    intro q
    have := fb_ct_kth_one e1 hb q
    omega
theorem mbr_ok {e : Int32} {k : Nat} (hk : k < pcn e) : bt e (mbr e k) = true ∧ fb_ct (bt e) (mbr e k) = k := by
  obtain ⟨i, -, h2, h3⟩ := fb_ct_kth hk
  have := mbr_of h2
  rw [h3] at this
  rw [this]
  exact ⟨h2, h3⟩
theorem mbr_inj {e : Int32} {j k : Nat} (hj : j < pcn e) (hk : k < pcn e) (h : mbr e j = mbr e k) : j = k := by
  have h1 := (mbr_ok hj).2
  have h2 := (mbr_ok hk).2
  rw [h] at h1
  omega
theorem ct_lt {e : Int32} {b : Nat} (hb : bt e b = true) : fb_ct (bt e) b < pcn e := by
  have h32 : b < 32 := by
    rcases Nat.lt_or_ge b 32 with q | q
    · exact q
    · rw [b_big q] at hb; cases hb
  have h1 := fb_ct_mono (bt e) (show b + 1 ≤ 32 by omega)
  rw [fb_ct_succ, hb, if_pos rfl] at h1
  exact h1
theorem ct_nb {e : Int32} {nb : Nat} (h : ∀ b, bt e b = true → b < nb) (hn : nb ≤ 32) : fb_ct (bt e) nb = pcn e := by
  unfold pcn
  have h1 := fb_ct_split (bt e) nb (32 - nb)
  rw [show nb + (32 - nb) = 32 by omega] at h1
  have h2 : fb_ct (fun k => bt e (nb + k)) (32 - nb) = 0 := fb_ct_zero.mpr (fun k _ => by
    cases q : bt e (nb + k)
    · rfl
    · have := h _ q; omega)
  rw [h1, h2]
  rfl
theorem winM_le (A : MI) (c a b : Nat) : winM A c a b ≤ 6 := fb_ct_le _ 6
theorem winM_self (A : MI) (c a : Nat) : winM A c a a = 0 := by
  unfold winM
  rw [fb_ct_zero]
  intro k _
  simp
