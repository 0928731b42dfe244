theorem ct_one {p : Nat → Bool} {k0 : Nat} (h1 : p k0 = true) : ∀ {n : Nat}, k0 < n → (∀ k, k < n → p k = true → k = k0) → fb_ct p n = 1
  | 0, h, _ => absurd h (Nat.not_lt_zero _)
  | n + 1, h, hu => by
    rw [fb_ct_succ]
    rcases Nat.lt_or_ge k0 n with q | q
    · rw [ct_one h1 q (fun k hk => hu k (by omega))]
      cases e : p n
      · rfl
      · have := hu n (by omega) e; omega
    · have e : k0 = n := by omega
      subst e
      rw [h1, if_pos rfl, fb_ct_zero.mpr (fun k hk => ?_)]
      cases e : p k
      · rfl
      · have := hu k (by omega) e; omega
theorem sm_one {f : Nat → Nat} {k0 v : Nat} (h1 : f k0 = v) : ∀ {n : Nat}, k0 < n → (∀ k, k < n → k ≠ k0 → f k = 0) → fb_sm f n = v
  | 0, h, _ => absurd h (Nat.not_lt_zero _)
  | n + 1, h, hu => by
    rw [fb_sm_succ]
    rcases Nat.lt_or_ge k0 n with q | q
    · rw [sm_one h1 q (fun k hk => hu k (by omega)), hu n (by omega) (by omega)]
      rfl
    · have e : k0 = n := by omega
      subst e
      have h0 : fb_sm f k0 = 0 := by
        have := fb_sm_bound (f := f) (c := 0) (n := k0) (fun k hk => by rw [hu k (by omega) (by omega)]; exact Nat.le_refl 0)
        omega
      rw [h0, h1]
      omega
section TALLY
variable {l : Launch} {w : Nat → Nat} {nb : Nat} {F0 A0 : MI} {P : MI → MI → Prop}
/-- Arrays.fill -/
theorem fill_loop {a n : Nat} {x1 : Int32} (hn : n < 1000) (ha : ∀ T G B, LY w nb T G B → At T a 10 ∧ T.2.1 a = n) (hP : ∀ A, (∀ a' j, ¬ (a' = a ∧ j < n) → A a' j = A0 a' j) → (∀ j, j < n → A a j = x1) → P F0 A) : ∀ (d k : Nat) (x2 : Int32) (A : MI), k + d = n → x2 = nI k → (∀ a' j, ¬ (a' = a ∧ j < n) → A a' j = A0 a' j) → (∀ j, j < k → A a j = x1) → ZM l mJ7_fill_53178 1 w nb (qv P) 5 [(0, .ref a), (1, .int x1), (2, .int x2), (3, .int (nI n))] [] F0 A
  | 0, k, x2, A, hd, hx, h1, h2 => by
    subst hx
    exact vJ7_fill_53178_5 hn ha ⟨fun _ => ⟨rfl, hP A h1 (fun j hj => h2 j (by omega))⟩, fun h => absurd (nI_le (by omega) (by omega)) h⟩
  | d + 1, k, x2, A, hd, hx, h1, h2 => by
    subst hx
    refine vJ7_fill_53178_5 hn ha ⟨fun h => absurd h (nI_ge (by omega) (by omega)), fun _ => ⟨vp_in_nI (by omega) (by omega), ?_⟩⟩
    rw [nI_clamp (by omega)]
    refine fill_loop hn ha hP d (k + 1) _ _ (by omega) (by rw [nI_1]) (fun a' j q => (u2_ne (by omega)).trans (h1 a' j q)) (fun j hj => ?_)
    rcases Nat.lt_or_ge j k with q | q
    · rw [u2_n2 (by omega)]; exact h2 j q
    · rw [show j = k by omega, u2_s]
theorem s_fill {a n : Nat} {x1 : Int32} (hn : n < 1000) (ha : ∀ T G B, LY w nb T G B → At T a 10 ∧ T.2.1 a = n) (hP : ∀ A, (∀ a' j, ¬ (a' = a ∧ j < n) → A a' j = A0 a' j) → (∀ j, j < n → A a j = x1) → P F0 A) : CM l mJ7_fill_53178 1 w nb [.ref a, .int x1] F0 A0 (qv P) :=
  kJ7_fill_53178 hn ha (fill_loop hn ha hP n 0 0 A0 (by omega) rfl (fun _ _ _ => rfl) (fun j hj => absurd hj (Nat.not_lt_zero j)))
/-- the slot of BEAST b -/
def slt (e : Int32) (b : Nat) : Int32 := if bt e b = true then nI (fb_ct (bt e) b) else -1
/-- what tally may change -/
def TF (F0 A0 F A : MI) : Prop := (∀ f a, ¬ (f = 82 ∧ a = 7) → F f a = F0 f a) ∧ ∀ a j, ¬ (8 ≤ a ∧ a ≤ 18) → A a j = A0 a j
theorem TF.putA {F A : MI} (h : TF F0 A0 F A) {a j : Nat} {v : Int32} (ha : 8 ≤ a ∧ a ≤ 18) : TF F0 A0 F (u2 A a j v) := ⟨h.1, fun a' j' q => (u2_n1 (by omega)).trans (h.2 a' j' q)⟩
theorem TF.putF {F A : MI} (h : TF F0 A0 F A) {v : Int32} : TF F0 A0 (u2 F 82 7 v) A := ⟨fun f a q => (u2_ne q).trans (h.1 f a q), h.2⟩
/-- members and slots stand -/
def TM (F0 A0 : MI) (e : Int32) (F A : MI) : Prop := TF F0 A0 F A ∧ F 82 7 = nI (pcn e) ∧ (∀ k, k < pcn e → A 8 k = nI (mbr e k)) ∧ ∀ b, b < 20 → A 9 b = slt e b
theorem tally_1 {c : Nat} {e : Int32} (hc : c < 6) (he : F0 160 (38 + 14 * c) = e) (hb : ∀ b, bt e b = true → b < 20) (h8 : pcn e ≤ 8) (kk : ∀ F A, TM F0 A0 e F A → ZM l mX2_tally 2 w nb (qv P) 75 [(0, .ref 7), (1, .ref (38 + 14 * c)), (2, .int 0)] [] F A) :
    ∀ (d b : Nat) (x2 : Int32) (F A : MI), b + d = 20 → x2 = nI b → TF F0 A0 F A → F 82 7 = nI (fb_ct (bt e) b) → (∀ k, k < fb_ct (bt e) b → A 8 k = nI (mbr e k)) → (∀ b', b' < b → A 9 b' = slt e b') → ZM l mX2_tally 2 w nb (qv P) 7 [(0, .ref 7), (1, .ref (38 + 14 * c)), (2, .int x2)] [] F A
  | 0, b, x2, F, A, hd, hx, hJ, hs, hm, hl => by
    have : b = 20 := by omega
    subst this
    subst hx
    rw [ct_nb hb (by omega)] at hs hm
    exact vX2_tally_7 hc ⟨fun _ => kk F A ⟨hJ, hs, hm, hl⟩, fun h => absurd (Int32.le_refl _) h⟩
  | d + 1, b, x2, F, A, hd, hx, hJ, hs, hm, hl => by
    subst hx
    refine vX2_tally_7 hc ⟨fun h => absurd h (nI_ge (a := b) (b := 20) (by omega) (by decide)), fun _ => ⟨vp_in_nI (by omega) (by decide), kX4_holds hc ?_⟩⟩
    rw [hJ.1 160 _ (by omega), he]
    rw [nI_clamp (n := b) (by omega)]
    have hl2 : ∀ (A' : MI) (v : Int32), v = slt e b → (∀ b', b' ≠ b → A' 9 b' = A 9 b') → A' 9 b = v → ∀ b', b' < b + 1 → A' 9 b' = slt e b' := by
      intro A' v hv q1 q2 b' hb'
      rcases Nat.lt_or_ge b' b with q | q
      · rw [q1 b' (by omega)]; exact hl b' q
      · rw [show b' = b by omega, q2, hv]
    refine ⟨fun h => ⟨0, rfl, z0 (vX2_tally_67 hc (tally_1 hc he hb h8 kk d (b + 1) _ _ _ (by omega) (by rw [nI_1]) (hJ.putA (by omega)) ?_ ?_ ?_))⟩, fun h => ⟨1, rfl, z1 ?_⟩⟩
    · rw [bit_and (by omega)] at h
      rw [fb_ct_succ, h]; exact hs
    · rw [bit_and (by omega)] at h
      intro k hk
      rw [fb_ct_succ, h] at hk
      rw [u2_n1 (by decide)]
      exact hm k hk
    · rw [bit_and (by omega)] at h
      exact hl2 _ (-1) (by unfold slt; rw [h]; rfl) (fun b' q => u2_n2 q) u2_s
    · have hbt : bt e b = true := by
        cases q : bt e b
        · exact absurd ((bit_and (by omega)).mpr q) h
        · rfl
      have hct := ct_lt hbt
      rw [hs, nI_clamp (n := fb_ct (bt e) b) (by omega)]
      refine ⟨fun q => absurd q (nI_ge (b := 8) (by omega) (by decide)), fun _ => ⟨vp_in_nI (by omega) (by decide), vp_in_nI (by omega) (by decide), vX2_tally_67 hc (tally_1 hc he hb h8 kk d (b + 1) _ _ _ (by omega) (by rw [nI_1]) (((hJ.putF.putA (by omega)).putA (by omega)).putA (by omega)) ?_ ?_ ?_)⟩⟩
      · rw [u2_s, nI_1, fb_ct_succ, hbt, if_pos rfl]
      · intro k hk
        rw [fb_ct_succ, hbt, if_pos rfl] at hk
        rw [u2_n1 (by decide)]
        rcases Nat.lt_or_ge k (fb_ct (bt e) b) with q | q
        · rw [u2_n2 (by omega), u2_n1 (by decide)]; exact hm k q
        · rw [show k = fb_ct (bt e) b by omega, u2_s, mbr_of hbt]
      · exact hl2 _ (nI (fb_ct (bt e) b)) (by unfold slt; rw [if_pos hbt]) (fun b' q => by rw [u2_n2 q, u2_n1 (by decide), u2_n2 q]) u2_s
theorem tally_2 {c : Nat} {e : Int32} (hc : c < 6) (h8 : pcn e ≤ 8) (kk : ∀ F A, TM F0 A0 e F A → (∀ x y, x < pcn e → y < 8 → A (11 + x) y = nI 0) → ZM l mX2_tally 2 w nb (qv P) 101 [(0, .ref 7), (1, .ref (38 + 14 * c)), (2, .int 0)] [] F A) :
    ∀ (d x : Nat) (x2 : Int32) (F A : MI), x + d = pcn e → x2 = nI x → TM F0 A0 e F A → (∀ x' y, x' < x → y < 8 → A (11 + x') y = nI 0) → ZM l mX2_tally 2 w nb (qv P) 75 [(0, .ref 7), (1, .ref (38 + 14 * c)), (2, .int x2)] [] F A
  | 0, x, x2, F, A, hd, hx, hJ, h1 => by
    subst hx
    refine vX2_tally_75 hc ?_
    rw [hJ.2.1]
    exact ⟨fun _ => kk F A hJ (fun x' y q1 q2 => h1 x' y (by omega) q2), fun h => absurd (nI_le (by omega) (by omega)) h⟩
  | d + 1, x, x2, F, A, hd, hx, hJ, h1 => by
    subst hx
    refine vX2_tally_75 hc ?_
    rw [hJ.2.1, nI_clamp (by omega)]
    refine ⟨fun h => absurd h (nI_ge (by omega) (by omega)), fun _ => ⟨vp_in_nI (by omega) (by decide), s_fill (n := 8) (by decide) (fun T G B hY => ⟨lat11 hY (by omega), lln11 hY (by omega)⟩) (fun A1 g1 g2 => ?_)⟩⟩
    refine tally_2 hc h8 kk d (x + 1) _ F A1 (by omega) (by rw [nI_1]) ⟨⟨hJ.1.1, fun a j q => (g1 a j (by omega)).trans (hJ.1.2 a j q)⟩, hJ.2.1, fun k hk => (g1 _ _ (by omega)).trans (hJ.2.2.1 k hk), fun b hb => (g1 _ _ (by omega)).trans (hJ.2.2.2 b hb)⟩ (fun x' y q1 q2 => ?_)
    rcases Nat.lt_or_ge x' x with q | q
    · rw [g1 _ _ (by omega)]; exact h1 x' y q q2
    · rw [show x' = x by omega]; exact g2 y q2
/-- a pair of an ORDER f at i, k, told by slots -/
def prD (e : Int32) (f : Nat → Nat) (x y i k : Nat) : Bool := decide (i < k) && (bt e (f i) && (fb_ct (bt e) (f i) == x)) && (bt e (f k) && (fb_ct (bt e) (f k) == y))
/-- one ORDER tallied: from the words M0 of the matrix on -/
theorem tallyOrder_in {c j t i : Nat} {e : Int32} {f : Nat → Nat} {M0 : Nat → Nat → Nat} {F : MI} (hc : c < 6) (hj : j < 6) (ht : t ≤ 8) (h8 : pcn e ≤ 8) (hi : i < t) (hf : ∀ k, k < t → f k < 20) {A1 : MI} (hr : ∀ k, k < t → A1 (38 + 14 * c + 5 + j) k = nI (f k)) (hs : ∀ b, b < 20 → A1 9 b = slt e b)
    (kk : ∀ A, (∀ a j, ¬ (11 ≤ a ∧ a ≤ 18) → A a j = A1 a j) → (∀ x y, x < pcn e → y < pcn e → A (11 + x) y = nI (M0 x y + fb_ct (prD e f x y i) t)) → ZM l mX2_tallyOrder 1 w nb (qv P) 71 [(0, .ref 7), (1, .ref (38 + 14 * c + 5 + j)), (2, .int (nI t)), (3, .int (nI i))] [] F A) :
    ∀ (d k : Nat) (x5 : Int32) (A : MI), k + d = t → i < k → x5 = nI k → (∀ a j, ¬ (11 ≤ a ∧ a ≤ 18) → A a j = A1 a j) → (∀ x y, x < pcn e → y < pcn e → A (11 + x) y = nI (M0 x y + fb_ct (prD e f x y i) k)) → ZM l mX2_tallyOrder 1 w nb (qv P) 22 [(0, .ref 7), (1, .ref (38 + 14 * c + 5 + j)), (2, .int (nI t)), (3, .int (nI i)), (4, .int (slt e (f i))), (5, .int x5)] [] F A
  | 0, k, x5, A, hd, hik, hx, hA, hM => by
    subst hx
    have : k = t := by omega
    subst this
    exact vX2_tallyOrder_22 hc hj ⟨fun _ => kk A hA hM, fun h => absurd (Int32.le_refl _) h⟩
  | d + 1, k, x5, A, hd, hik, hx, hA, hM => by
    subst hx
    refine vX2_tallyOrder_22 hc hj ⟨fun h => absurd h (nI_ge (by omega) (by omega)), fun _ => ⟨fun h => ?_, fun h => ?_⟩⟩
    · refine kk A hA (fun x y hx hy => ?_)
      have hb : bt e (f i) = false := by
        cases q : bt e (f i)
        · rfl
        · unfold slt at h
          rw [if_pos q] at h
          have := ct_lt q
          have e1 := congrArg Int32.toInt h
          rw [nI_toInt (by omega)] at e1
          have e4 : (-1 : Int32).toInt = -1 := rfl
          omega
      rw [hM x y hx hy]
      have z : ∀ n, fb_ct (prD e f x y i) n = 0 := fun n => fb_ct_zero.mpr (fun k _ => by unfold prD; rw [hb]; simp)
      rw [z, z]
    · have hb : bt e (f i) = true := by
        cases q : bt e (f i)
        · unfold slt at h; rw [q] at h; exact absurd rfl h
        · rfl
      have hci := ct_lt hb
      have es : slt e (f i) = nI (fb_ct (bt e) (f i)) := by unfold slt; rw [if_pos hb]
      have hfk := hf k (by omega)
      rw [nI_clamp (n := k) (by omega), hA _ _ (by omega), hr k (by omega), nI_clamp (n := f k) (by omega), hA 9 _ (by omega), hs (f k) hfk]
      refine ⟨vp_in_nI (by omega) (by decide), vp_in_nI hfk (by decide), fun h2 => vX2_tallyOrder_65 hc hj (tallyOrder_in hc hj ht h8 hi hf hr hs kk d (k + 1) _ _ (by omega) (by omega) (by rw [nI_1]) hA (fun x y hx hy => ?_)), fun h2 => ?_⟩
      · have hbk : bt e (f k) = false := by
          cases q : bt e (f k)
          · rfl
          · unfold slt at h2
            rw [if_pos q] at h2
            have := ct_lt q
            have e1 := congrArg Int32.toInt h2
            rw [nI_toInt (by omega)] at e1
            have e4 : (-1 : Int32).toInt = -1 := rfl
            omega
        rw [hM x y hx hy, fb_ct_succ]
        have : prD e f x y i k = false := by unfold prD; rw [hbk]; simp
        rw [this]; rfl
      · have hbk : bt e (f k) = true := by
          cases q : bt e (f k)
          · unfold slt at h2; rw [q] at h2; exact absurd rfl h2
          · rfl
        have hck := ct_lt hbk
        have ek : slt e (f k) = nI (fb_ct (bt e) (f k)) := by unfold slt; rw [if_pos hbk]
        rw [es, ek, nI_clamp (by omega), nI_clamp (by omega), hM _ _ hci hck, nI_1]
        rw [← es]
        refine ⟨by rw [es]; exact vp_in_nI (by omega) (by decide), vp_in_nI (by omega) (by decide), vp_in_nI (by omega) (by decide), vX2_tallyOrder_65 hc hj (tallyOrder_in hc hj ht h8 hi hf hr hs kk d (k + 1) _ _ (by omega) (by omega) (by rw [nI_1]) (fun a j' q => (u2_n1 (by omega)).trans (hA a j' q)) (fun x y hx hy => ?_))⟩
        by_cases q : x = fb_ct (bt e) (f i) ∧ y = fb_ct (bt e) (f k)
        · obtain ⟨rfl, rfl⟩ := q
          have : prD e f (fb_ct (bt e) (f i)) (fb_ct (bt e) (f k)) i k = true := by unfold prD; simp [hb, hbk, hik]
          rw [u2_s, fb_ct_succ, this, if_pos rfl]
          congr 1
        · rw [u2_ne (by omega), hM x y hx hy, fb_ct_succ]
          have : prD e f x y i k = false := by
            unfold prD
            rw [hb, hbk]
            cases q1 : (fb_ct (bt e) (f i) == x)
            · simp
            · cases q2 : (fb_ct (bt e) (f k) == y)
              · simp
              · simp only [beq_iff_eq] at q1 q2
                exact absurd ⟨q1.symm, q2.symm⟩ q
          rw [this]; rfl
theorem tallyOrder_out {c j t : Nat} {e : Int32} {f : Nat → Nat} {M0 : Nat → Nat → Nat} {F : MI} (hc : c < 6) (hj : j < 6) (ht : t ≤ 8) (h8 : pcn e ≤ 8) (hf : ∀ k, k < t → f k < 20) {A1 : MI} (hr : ∀ k, k < t → A1 (38 + 14 * c + 5 + j) k = nI (f k)) (hs : ∀ b, b < 20 → A1 9 b = slt e b)
    (hP : ∀ A, (∀ a j, ¬ (11 ≤ a ∧ a ≤ 18) → A a j = A1 a j) → (∀ x y, x < pcn e → y < pcn e → A (11 + x) y = nI (M0 x y + fb_sm (fun i => fb_ct (prD e f x y i) t) t)) → P F A) :
    ∀ (d i : Nat) (x3 : Int32) (A : MI), i + d = t → x3 = nI i → (∀ a j, ¬ (11 ≤ a ∧ a ≤ 18) → A a j = A1 a j) → (∀ x y, x < pcn e → y < pcn e → A (11 + x) y = nI (M0 x y + fb_sm (fun i => fb_ct (prD e f x y i) t) i)) → ZM l mX2_tallyOrder 1 w nb (qv P) 2 [(0, .ref 7), (1, .ref (38 + 14 * c + 5 + j)), (2, .int (nI t)), (3, .int x3)] [] F A
  | 0, i, x3, A, hd, hx, hA, hM => by
    subst hx
    have : i = t := by omega
    subst this
    exact vX2_tallyOrder_2 hc hj ⟨fun _ => ⟨rfl, hP A hA hM⟩, fun h => absurd (Int32.le_refl _) h⟩
  | d + 1, i, x3, A, hd, hx, hA, hM => by
    subst hx
    have hfi := hf i (by omega)
    refine vX2_tallyOrder_2 hc hj ⟨fun h => absurd h (nI_ge (by omega) (by omega)), fun _ => ?_⟩
    rw [nI_clamp (n := i) (by omega), hA _ _ (by omega), hr i (by omega), nI_clamp (n := f i) (by omega), hA 9 _ (by omega), hs (f i) hfi]
    refine ⟨vp_in_nI (by omega) (by decide), vp_in_nI hfi (by decide), ?_⟩
    refine tallyOrder_in (M0 := fun x y => M0 x y + fb_sm (fun i => fb_ct (prD e f x y i) t) i) hc hj ht h8 (by omega) hf (fun k hk => (hA _ _ (by omega)).trans (hr k hk)) (fun b hb => (hA _ _ (by omega)).trans (hs b hb)) (fun A2 g1 g2 => ?_) (t - (i + 1)) (i + 1) _ A (by omega) (by omega) (by rw [nI_1]) (fun _ _ _ => rfl) (fun x y hx hy => ?_)
    · refine vX2_tallyOrder_71 hc hj (tallyOrder_out hc hj ht h8 hf hr hs hP d (i + 1) _ A2 (by omega) (by rw [nI_1]) (fun a j' q => (g1 a j' q).trans (hA a j' q)) (fun x y hx hy => ?_))
      rw [g2 x y hx hy, fb_sm_succ]
      congr 1
      omega
    · rw [hM x y hx hy]
      have z : fb_ct (prD e f x y i) (i + 1) = 0 := fb_ct_zero.mpr (fun k hk => by
        unfold prD
        have : ¬ i < k := by omega
        simp [this])
      rw [z]
      rfl
end TALLY
