/-! HOURS: the search -/
def al (p : Nat → Bool) : Nat → Bool
  | 0 => true
  | n + 1 => al p n && p n
theorem al_iff {p : Nat → Bool} : ∀ {n : Nat}, al p n = true ↔ ∀ k, k < n → p k = true
  | 0 => ⟨fun _ k hk => absurd hk (Nat.not_lt_zero k), fun _ => rfl⟩
  | n + 1 => by
    unfold al
    rw [Bool.and_eq_true, al_iff]
    constructor
    · rintro ⟨h1, h2⟩ k hk
      rcases Nat.lt_or_ge k n with z | z
      · exact h1 k z
      · rw [show k = n by omega]; exact h2
    · intro h
      exact ⟨fun k hk => h k (by omega), h n (by omega)⟩
def fsto {α : Type} (f : Nat → Option α) : Nat → Nat → Option α
  | 0, _ => none
  | k + 1, v => match f v with | some g => some g | none => fsto f k (v + 1)
theorem fsto_some {α : Type} {f : Nat → Option α} {g : α} : ∀ {k v : Nat}, fsto f k v = some g → ∃ u, v ≤ u ∧ u < v + k ∧ f u = some g ∧ ∀ i, v ≤ i → i < u → f i = none
  | 0, v, h => by cases h
  | k + 1, v, h => by
    unfold fsto at h
    cases e : f v with
    | some x =>
      rw [e] at h
      exact ⟨v, Nat.le_refl v, by omega, by rw [e]; exact h, fun i h1 h2 => by omega⟩
    | none =>
      rw [e] at h
      obtain ⟨u, h1, h2, h3, h4⟩ := fsto_some h
      refine ⟨u, by omega, by omega, h3, fun i i1 i2 => ?_⟩
      rcases Nat.lt_or_ge v i with z | z
      · exact h4 i (by omega) i2
      · rw [show i = v by omega]; exact e
theorem fsto_none {α : Type} {f : Nat → Option α} : ∀ {k v : Nat}, fsto f k v = none → ∀ u, v ≤ u → u < v + k → f u = none
  | 0, v, h, u, h1, h2 => by omega
  | k + 1, v, h, u, h1, h2 => by
    unfold fsto at h
    cases e : f v with
    | some x => rw [e] at h; cases h
    | none =>
      rw [e] at h
      rcases Nat.lt_or_ge v u with z | z
      · exact fsto_none h u (by omega) (by omega)
      · rw [show u = v by omega]; exact e
def up1 (h : Nat → Nat) (c v : Nat) : Nat → Nat := fun k => if k = c then v else h k
theorem up1_s {h : Nat → Nat} {c v : Nat} : up1 h c v c = v := if_pos rfl
theorem up1_n {h : Nat → Nat} {c v k : Nat} (hk : k ≠ c) : up1 h c v k = h k := if_neg hk
def cnth (on : Nat → Bool) (h : Nat → Nat) (v c : Nat) : Nat := fb_ct (fun d => on d && (h d == v)) c
def goodB (on : Nat → Bool) (H : Nat → Int32) (s : Nat) (h : Nat → Nat) : Bool := al (fun c => !on c || (al (fun d => !(on d && (h d == h c)) || (d == c) || (H c &&& H d == 0)) 6 && decide (cnth on h (h c) 6 ≤ s))) 6
def srch (on : Nat → Bool) (H : Nat → Int32) (s last : Nat) : Nat → Nat → (Nat → Nat) → Option (Nat → Nat)
  | 0, _, h => if goodB on H s h = true then some h else none
  | d + 1, c, h => if on c = true then fsto (fun v => srch on H s last d (c + 1) (up1 h c v)) (last + 1) 0 else srch on H s last d (c + 1) h
theorem good_iff {on : Nat → Bool} {H : Nat → Int32} {s : Nat} {h : Nat → Nat} : goodB on H s h = true ↔ ∀ c, c < 6 → on c = true → (∀ d, d < 6 → on d = true → h d = h c → d ≠ c → H c &&& H d = 0) ∧ cnth on h (h c) 6 ≤ s := by
  unfold goodB
  rw [al_iff]
  constructor
  · intro g c hc oc
    have := g c hc
    rw [oc, Bool.not_true, Bool.false_or, Bool.and_eq_true, al_iff, decide_eq_true_eq] at this
    refine ⟨fun d hd od e ne => ?_, this.2⟩
    have h2 := this.1 d hd
    rw [od, Bool.true_and] at h2
    simp only [e, beq_self_eq_true, Bool.not_true, Bool.false_or, Bool.or_eq_true, beq_iff_eq, ne, false_or] at h2
    exact h2
  · intro g c hc
    cases oc : on c
    · rfl
    · obtain ⟨g1, g2⟩ := g c hc oc
      rw [Bool.not_true, Bool.false_or, Bool.and_eq_true, al_iff, decide_eq_true_eq]
      refine ⟨fun d hd => ?_, g2⟩
      cases od : on d
      · rfl
      · by_cases e : h d = h c
        · by_cases ne : d = c
          · simp [ne]
          · have := g1 d hd od e ne
            simp [this]
        · simp [e]
theorem cnth_cong {on : Nat → Bool} {h g : Nat → Nat} {v c : Nat} (e : ∀ d, d < c → on d = true → g d = h d) : cnth on g v c = cnth on h v c := by
  unfold cnth
  refine fb_ct_cong (fun k hk => ?_)
  cases o : on k
  · rfl
  · rw [e k hk o]
theorem good_cong {on : Nat → Bool} {H : Nat → Int32} {s : Nat} {h g : Nat → Nat} (e : ∀ d, d < 6 → on d = true → g d = h d) (hg : goodB on H s h = true) : goodB on H s g = true := by
  rw [good_iff] at hg ⊢
  intro c hc oc
  obtain ⟨g1, g2⟩ := hg c hc oc
  rw [e c hc oc]
  refine ⟨fun d hd od ed ne => g1 d hd od (by rw [← e d hd od]; exact ed) ne, ?_⟩
  rw [cnth_cong (h := h) (fun d hd od => e d hd od)]
  exact g2
theorem srch_some {on : Nat → Bool} {H : Nat → Int32} {s last : Nat} {g : Nat → Nat} : ∀ {d c : Nat} {h : Nat → Nat}, c + d = 6 → srch on H s last d c h = some g → goodB on H s g = true ∧ (∀ k, c ≤ k → k < 6 → on k = true → g k ≤ last) ∧ ∀ k, (k < c ∨ on k = false) → g k = h k
  | 0, c, h, hd, e => by
    unfold srch at e
    by_cases z : goodB on H s h = true
    · rw [if_pos z] at e
      cases e
      exact ⟨z, fun k h1 h2 _ => by omega, fun k _ => rfl⟩
    · rw [if_neg z] at e; cases e
  | d + 1, c, h, hd, e => by
    unfold srch at e
    by_cases z : on c = true
    · rw [if_pos z] at e
      obtain ⟨u, u1, u2, u3, -⟩ := fsto_some e
      obtain ⟨q1, q2, q3⟩ := srch_some (by omega) u3
      refine ⟨q1, fun k h1 h2 o => ?_, fun k hk => ?_⟩
      · rcases Nat.lt_or_ge c k with y | y
        · exact q2 k (by omega) h2 o
        · rw [show k = c by omega, q3 c (Or.inl (by omega)), up1_s]; omega
      · rcases hk with y | y
        · rw [q3 k (Or.inl (by omega)), up1_n (by omega)]
        · rw [q3 k (Or.inr y), up1_n (fun y2 => by rw [y2, z] at y; cases y)]
    · rw [if_neg z] at e
      obtain ⟨q1, q2, q3⟩ := srch_some (by omega) e
      refine ⟨q1, fun k h1 h2 o => ?_, fun k hk => q3 k (hk.imp (fun y => by omega) id)⟩
      rcases Nat.lt_or_ge c k with y | y
      · exact q2 k (by omega) h2 o
      · rw [show k = c by omega] at o; exact absurd o z
theorem srch_none {on : Nat → Bool} {H : Nat → Int32} {s last : Nat} {g : Nat → Nat} : ∀ {d c : Nat} {h : Nat → Nat}, c + d = 6 → srch on H s last d c h = none → (∀ k, k < c → on k = true → g k = h k) → (∀ k, c ≤ k → k < 6 → on k = true → g k ≤ last) → goodB on H s g = false
  | 0, c, h, hd, e, e1, e2 => by
    unfold srch at e
    cases z : goodB on H s g
    · rfl
    · have := good_cong (h := g) (g := h) (fun k hk o => (e1 k (by omega) o).symm) z
      rw [if_pos this] at e; cases e
  | d + 1, c, h, hd, e, e1, e2 => by
    unfold srch at e
    by_cases z : on c = true
    · rw [if_pos z] at e
      have := fsto_none e (g c) (Nat.zero_le _) (by have := e2 c (Nat.le_refl c) (by omega) z; omega)
      refine srch_none (by omega) this (fun k hk o => ?_) (fun k h1 h2 o => e2 k (by omega) h2 o)
      rcases Nat.lt_or_ge k c with y | y
      · rw [up1_n (by omega)]; exact e1 k y o
      · rw [show k = c by omega, up1_s]
    · rw [if_neg z] at e
      refine srch_none (by omega) e (fun k hk o => ?_) (fun k h1 h2 o => e2 k (by omega) h2 o)
      rcases Nat.lt_or_ge k c with y | y
      · exact e1 k y o
      · rw [show k = c by omega] at o; exact absurd o z
/-- the least last HOUR, and the least row of HOURS for it -/
def plan6 (on : Nat → Bool) (H : Nat → Int32) (s : Nat) : Option (Nat × (Nat → Nat)) := fsto (fun last => (srch on H s last 6 0 (fun _ => 0)).map (fun g => (last, g))) 6 0
theorem plan_ex {on : Nat → Bool} {H : Nat → Int32} {s : Nat} (hs : 1 ≤ s) : ∃ q, plan6 on H s = some q := by
  cases e : plan6 on H s with
  | some q => exact ⟨q, rfl⟩
  | none =>
    exfalso
    have h5 := fsto_none e 5 (by omega) (by omega)
    have h6 : srch on H s 5 6 0 (fun _ => 0) = none := by
      cases z : srch on H s 5 6 0 (fun _ => 0) with
      | none => rfl
      | some g => rw [z] at h5; cases h5
    have := srch_none (g := fun k => k) (by omega) h6 (fun k hk => absurd hk (Nat.not_lt_zero k)) (fun k _ h _ => by show k ≤ 5; omega)
    have hg : goodB on H s (fun k => k) = true := by
      rw [good_iff]
      intro c hc oc
      refine ⟨fun d _ _ e ne => absurd e ne, Nat.le_trans ?_ hs⟩
      unfold cnth
      have h1 : fb_ct (fun d => on d && (d == c)) 6 ≤ fb_ct (fun d => d == c) 6 := fb_ct_sub (fun k _ q => by rw [Bool.and_eq_true] at q; exact q.2)
      have h2 : ∀ c, c < 6 → fb_ct (fun d => d == c) 6 ≤ 1 := by decide
      exact Nat.le_trans h1 (h2 c hc)
    rw [this] at hg; cases hg
theorem plan_ok {on : Nat → Bool} {H : Nat → Int32} {s last : Nat} {g : Nat → Nat} (e : plan6 on H s = some (last, g)) : last < 6 ∧ srch on H s last 6 0 (fun _ => 0) = some g ∧ ∀ i, i < last → srch on H s i 6 0 (fun _ => 0) = none := by
  obtain ⟨u, u1, u2, u3, u4⟩ := fsto_some e
  cases z : srch on H s u 6 0 (fun _ => 0) with
  | none => rw [z] at u3; cases u3
  | some g' =>
    rw [z] at u3
    simp only [Option.map_some, Option.some.injEq, Prod.mk.injEq] at u3
    obtain ⟨q1, q2⟩ := u3
    subst q1
    subst q2
    refine ⟨by omega, z, fun i hi => ?_⟩
    have := u4 i (Nat.zero_le i) hi
    cases y : srch on H s i 6 0 (fun _ => 0) with
    | none => rfl
    | some g2 => rw [y] at this; cases this
/-- the last HOUR is one that is used -/
theorem plan_max {on : Nat → Bool} {H : Nat → Int32} {s last : Nat} {g : Nat → Nat} (e : plan6 on H s = some (last, g)) (ho : ∃ c, c < 6 ∧ on c = true) : (∀ c, c < 6 → on c = true → g c ≤ last) ∧ ∃ c, c < 6 ∧ on c = true ∧ g c = last := by
  obtain ⟨h1, h2, h3⟩ := plan_ok e
  obtain ⟨q1, q2, q3⟩ := srch_some (by omega) h2
  refine ⟨fun c hc o => q2 c (Nat.zero_le c) hc o, ?_⟩
  refine Classical.byContradiction (fun hn => ?_)
  have hlt : ∀ c, c < 6 → on c = true → g c < last := fun c hc o => by
    have := q2 c (Nat.zero_le c) hc o
    rcases Nat.lt_or_ge (g c) last with z | z
    · exact z
    · exact absurd ⟨c, hc, o, by omega⟩ hn
  obtain ⟨c, hc, oc⟩ := ho
  have h0 := hlt c hc oc
  have := srch_none (g := g) (by omega) (h3 (last - 1) (by omega)) (fun k hk => absurd hk (Nat.not_lt_zero k)) (fun k _ hk o => by have := hlt k hk o; omega)
  rw [this] at q1; cases q1
/-! a row up to CLASS c -/
def uni (on : Nat → Bool) (H : Nat → Int32) (h : Nat → Nat) (v : Nat) : Nat → Int32
  | 0 => 0
  | c + 1 => if on c = true ∧ h c = v then uni on H h v c ||| H c else uni on H h v c
theorem uni_cong {on : Nat → Bool} {H : Nat → Int32} {h g : Nat → Nat} {v : Nat} : ∀ {c : Nat}, (∀ d, d < c → g d = h d) → uni on H g v c = uni on H h v c
  | 0, _ => rfl
  | c + 1, e => by
    unfold uni
    rw [uni_cong (fun d hd => e d (by omega)), e c (by omega)]
theorem uni_0 {on : Nat → Bool} {H : Nat → Int32} {h : Nat → Nat} {v : Nat} {W : Int32} : ∀ {c : Nat}, uni on H h v c &&& W = 0 ↔ ∀ d, d < c → on d = true → h d = v → H d &&& W = 0
  | 0 => by
    unfold uni
    refine ⟨fun _ d hd => absurd hd (Nat.not_lt_zero d), fun _ => b_ext (fun i _ => by rw [b_and, b_0]; rfl)⟩
  | c + 1 => by
    unfold uni
    by_cases z : on c = true ∧ h c = v
    · rw [if_pos z]
      have key : (uni on H h v c ||| H c) &&& W = 0 ↔ (uni on H h v c &&& W = 0 ∧ H c &&& W = 0) := by
        constructor
        · intro q
          have q2 : ∀ i, bt ((uni on H h v c ||| H c) &&& W) i = false := fun i => by rw [q, b_0]
          refine ⟨b_ext (fun i _ => ?_), b_ext (fun i _ => ?_)⟩
          · have := q2 i
            rw [b_and, b_or] at this
            rw [b_and, b_0]
            cases x : bt (uni on H h v c) i
            · rfl
            · rw [x] at this; simpa using this
          · have := q2 i
            rw [b_and, b_or] at this
            rw [b_and, b_0]
            cases x : bt (H c) i
            · rfl
            · rw [x] at this; simpa using this
        · rintro ⟨q1, q2⟩
          refine b_ext (fun i _ => ?_)
          have a1 : bt (uni on H h v c &&& W) i = false := by rw [q1, b_0]
          have a2 : bt (H c &&& W) i = false := by rw [q2, b_0]
          rw [b_and] at a1 a2
          rw [b_and, b_or, b_0, Bool.and_or_distrib_right, a1, a2]
          rfl
      rw [key, uni_0]
      constructor
      · rintro ⟨q1, q2⟩ d hd o e
        rcases Nat.lt_or_ge d c with y | y
        · exact q1 d y o e
        · rw [show d = c by omega]; exact q2
      · intro q
        exact ⟨fun d hd o e => q d (by omega) o e, q c (by omega) z.1 z.2⟩
    · rw [if_neg z, uni_0]
      constructor
      · intro q d hd o e
        rcases Nat.lt_or_ge d c with y | y
        · exact q d y o e
        · rw [show d = c by omega] at o e; exact absurd ⟨o, e⟩ z
      · intro q d hd o e
        exact q d (by omega) o e
theorem uni_back {U W : Int32} (h : U &&& W = 0) : (U ||| W) &&& (W ^^^ (-1)) = U := by
  refine b_ext (fun i hi => ?_)
  have a1 : bt (U &&& W) i = false := by rw [h, b_0]
  rw [b_and] at a1
  rw [b_and, b_or, b_xor, b_m1 i hi]
  cases x : bt U i <;> cases y : bt W i <;> simp [x, y] at a1 ⊢
/-- the row stands up to c -/
def PG (on : Nat → Bool) (H : Nat → Int32) (s : Nat) (h : Nat → Nat) (c : Nat) : Prop := (∀ d e, d < c → e < c → on d = true → on e = true → h d = h e → d ≠ e → H d &&& H e = 0) ∧ ∀ v, cnth on h v c ≤ s
theorem PG.good {on : Nat → Bool} {H : Nat → Int32} {s : Nat} {h : Nat → Nat} (p : PG on H s h 6) : goodB on H s h = true := by
  rw [good_iff]
  exact fun c hc oc => ⟨fun d hd od e ne => p.1 c d hc hd oc od e.symm (fun y => ne y.symm), p.2 _⟩
theorem cnth_succ {on : Nat → Bool} {h : Nat → Nat} {v c : Nat} : cnth on h v (c + 1) = cnth on h v c + (if on c = true ∧ h c = v then 1 else 0) := by
  unfold cnth
  rw [fb_ct_succ]
  congr 1
  by_cases z : on c = true ∧ h c = v
  · rw [if_pos z, if_pos (by simp [z.1, z.2])]
  · rw [if_neg z, if_neg]
    intro y
    rw [Bool.and_eq_true, beq_iff_eq] at y
    exact z y
theorem PG.off {on : Nat → Bool} {H : Nat → Int32} {s : Nat} {h : Nat → Nat} {c : Nat} (p : PG on H s h c) (o : on c = false) : PG on H s h (c + 1) := by
  refine ⟨fun d e hd he od oe => p.1 d e ?_ ?_ od oe, fun v => ?_⟩
  · rcases Nat.lt_or_ge d c with y | y
    · exact y
    · rw [show d = c by omega, o] at od; cases od
  · rcases Nat.lt_or_ge e c with y | y
    · exact y
    · rw [show e = c by omega, o] at oe; cases oe
  · rw [cnth_succ, if_neg (by rw [o]; simp)]; exact p.2 v
theorem and_comm5 (a b : Int32) : a &&& b = b &&& a := b_ext (fun i _ => by rw [b_and, b_and, Bool.and_comm])
theorem PG.on {on : Nat → Bool} {H : Nat → Int32} {s : Nat} {h : Nat → Nat} {c v : Nat} (p : PG on H s h c) (hr : cnth on h v c < s) (hu : uni on H h v c &&& H c = 0) : PG on H s (up1 h c v) (c + 1) := by
  have hu' := uni_0.mp hu
  refine ⟨fun d e hd he od oe eh ne => ?_, fun v' => ?_⟩
  · rcases Nat.lt_or_ge d c with y | y
    · rcases Nat.lt_or_ge e c with y2 | y2
      · rw [up1_n (by omega), up1_n (by omega)] at eh
        exact p.1 d e y y2 od oe eh ne
      · have : e = c := by omega
        subst this
        rw [up1_n (by omega), up1_s] at eh
        exact hu' d y od eh
    · have : d = c := by omega
      subst this
      have : e < d := by omega
      rw [up1_s, up1_n (by omega)] at eh
      rw [and_comm5]
      exact hu' e this oe eh.symm
  · rw [cnth_succ, up1_s, cnth_cong (h := h) (fun d hd _ => up1_n (by omega))]
    have := p.2 v'
    split
    · rename_i z; rw [← z.2]; omega
    · omega
/-- a row that doesn't stand has no end -/
theorem cut_none {on : Nat → Bool} {H : Nat → Int32} {s last : Nat} {h : Nat → Nat} {d c v : Nat} (hd : c + (d + 1) = 6) (o : on c = true) (hb : ¬ (cnth on h v c < s ∧ uni on H h v c &&& H c = 0)) : srch on H s last d (c + 1) (up1 h c v) = none := by
  cases e : srch on H s last d (c + 1) (up1 h c v) with
  | none => rfl
  | some g =>
    exfalso
    obtain ⟨q1, q2, q3⟩ := srch_some (by omega) e
    have gc : g c = v := by rw [q3 c (Or.inl (by omega)), up1_s]
    have gd : ∀ k, k < c → g k = h k := fun k hk => by rw [q3 k (Or.inl (by omega)), up1_n (by omega)]
    rw [good_iff] at q1
    obtain ⟨g1, g2⟩ := q1 c (by omega) o
    apply hb
    constructor
    · have h1 : cnth on g v (c + 1) ≤ cnth on g v 6 := fb_ct_mono _ (by omega)
      rw [cnth_succ, if_pos ⟨o, gc⟩, cnth_cong (h := h) (fun k hk _ => gd k hk)] at h1
      rw [gc] at g2
      omega
    · rw [uni_0]
      intro k hk ok ek
      have := g1 k (by omega) ok (by rw [gd k hk, gc, ek]) (by omega)
      rw [and_comm5]
      exact this
