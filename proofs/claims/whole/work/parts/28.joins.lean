section JOINS
variable {l : Launch} {w : Nat → Nat} {nb : Nat} {F A : MI} {P : Int32 → MI → MI → Prop}
theorem ix_or {c j k : Nat} : (8 * ((6 * nI j) + nI c)) + nI k = nI (8 * (6 * j + c) + k) := by rw [nI_lit 6, nI_lit 8, pk_mul, nI_add, pk_mul, nI_add]
theorem ix_td {c j : Nat} : (6 * nI j) + nI c = nI (6 * j + c) := by rw [nI_lit 6, pk_mul, nI_add]
theorem placeIn_loop {c j b q : Nat} (hc : c < 6) (hj : j < 6) (hq : q < 8) (h1 : A 138 (8 * (6 * j + c) + q) = nI b) (h2 : ∀ k, k < q → ¬ A 138 (8 * (6 * j + c) + k) = nI b) (hP : P (nI q) F A) : ∀ (d k : Nat) (x4 : Int32), k + d = q → x4 = nI k → ZM l mX8_placeIn 1 w nb (qi P) 3 [(0, .ref 122), (1, .int (nI j)), (2, .int (nI c)), (3, .int (nI b)), (4, .int x4)] [] F A
  | 0, k, x4, hk, hx => by
    subst hx
    have : k = q := by omega
    subst this
    refine vX8_placeIn_3 ?_
    rw [ix_or, nI_clamp (by omega)]
    exact ⟨vp_in_nI (by omega) (by decide), fun _ => ⟨_, rfl, hP⟩, fun h => absurd h1 h⟩
  | d + 1, k, x4, hk, hx => by
    subst hx
    refine vX8_placeIn_3 ?_
    rw [ix_or, nI_clamp (by omega)]
    exact ⟨vp_in_nI (by omega) (by decide), fun h => absurd h (h2 k (by omega)), fun _ => placeIn_loop hc hj hq h1 h2 hP d (k + 1) _ (by omega) (by rw [nI_1])⟩
theorem s_placeIn {c j b : Nat} (hc : c < 6) (hj : j < 6) (hex : ∃ k, k < 8 ∧ A 138 (8 * (6 * j + c) + k) = nI b) (hP : P (nI (posM A c j b)) F A) : CM l mX8_placeIn 1 w nb [.ref 122, .int (nI j), .int (nI c), .int (nI b)] F A (qi P) := by
  have hlt : posM A c j b < 8 := by
    obtain ⟨k, hk, e⟩ := hex
    rcases Nat.lt_or_ge (posM A c j b) 8 with q | q
    · exact q
    · have := fa_first_no _ 8 k (Nat.lt_of_lt_of_le hk q)
      simp [e] at this
  have h1 := fa_first_yes _ 8 hlt
  simp only [beq_iff_eq] at h1
  refine kX8_placeIn (placeIn_loop hc hj hlt h1 (fun k hk e => ?_) hP (posM A c j b) 0 0 (by omega) rfl)
  have := fa_first_no _ 8 k hk
  simp [e] at this
theorem s_counts {c j : Nat} (h8 : I8 A) (hc : c < 6) (hj : j < 6) (h1 : A 137 (6 * j + c) ≠ 0 → P 1 F A) (h0 : A 137 (6 * j + c) = 0 → P 0 F A) : CM l mX8_counts 1 w nb [.ref 122, .int (nI j), .int (nI c)] F A (qi P) := by
  obtain ⟨t, q1, -, q2, -⟩ := h8 c j hc hj
  refine kX8_counts ?_
  rw [ix_td, nI_clamp (by omega), q2]
  refine ⟨vp_in_nI (by omega) (by decide), fun h => ⟨0, rfl, h0 ?_⟩, fun h => ⟨1, rfl, h1 (fun e => ?_)⟩⟩
  · rcases Nat.eq_zero_or_pos t with e | e
    · rw [q2, e]; rfl
    · exact absurd h (nI_nle e (by omega))
  · rw [q2] at e; rw [e] at h; exact absurd (Int32.le_refl _) h
theorem ahead_loop {c a b : Nat} (h8 : I8 A) (hc : c < 6) (ha : bt (A 134 c) a = true) (hb : bt (A 134 c) b = true) (hP : P (nI (winM A c a b)) F A) : ∀ (d j : Nat) (x4 x5 : Int32), j + d = 6 → x5 = nI j → x4 = nI (fb_ct (fun j => decide (A 137 (6 * j + c) ≠ 0) && decide (posM A c j a < posM A c j b)) j) → ZM l mX8_ahead 2 w nb (qi P) 6 [(0, .ref 122), (1, .int (nI c)), (2, .int (nI a)), (3, .int (nI b)), (4, .int x4), (5, .int x5)] [] F A
  | 0, j, x4, x5, hj, hx, hy => by
    have : j = 6 := by omega
    subst this
    subst hx
    subst hy
    exact vX8_ahead_6 ⟨fun _ => ⟨_, rfl, hP⟩, fun h => absurd (Int32.le_refl _) h⟩
  | d + 1, j, x4, x5, hj, hx, hy => by
    subst hx
    refine vX8_ahead_6 ⟨fun h => absurd h (nI_ge (a := j) (b := 6) (by omega) (by decide)), fun _ => s_counts h8 hc (by omega) (fun ht => z1 ?_) (fun ht => z0 ?_)⟩
    · obtain ⟨t, q1, -, q2, q3, -⟩ := h8 c j hc (by omega)
      have tp : 0 < t := by
        rcases Nat.eq_zero_or_pos t with e | e
        · rw [q2, e] at ht; exact absurd rfl ht
        · exact e
      obtain ⟨f, g1, g2, g3⟩ := q3 tp
      obtain ⟨ka, ka1, ka2⟩ := g3 a ha
      obtain ⟨kb, kb1, kb2⟩ := g3 b hb
      refine s_placeIn hc (by omega) ⟨ka, by omega, by rw [(g1 ka ka1).2.2, ka2]⟩ (s_placeIn hc (by omega) ⟨kb, by omega, by rw [(g1 kb kb1).2.2, kb2]⟩ ?_)
      have la : posM A c j a ≤ 8 := fa_first_le _ 8
      have lb : posM A c j b ≤ 8 := fa_first_le _ 8
      refine ⟨fun h => vX8_ahead_48 (vX8_ahead_49 (ahead_loop h8 hc ha hb hP d (j + 1) _ _ (by omega) (by rw [nI_1]) ?_)), fun h => vX8_ahead_49 (ahead_loop h8 hc ha hb hP d (j + 1) _ _ (by omega) (by rw [nI_1]) ?_)⟩
      · have : ¬ posM A c j a < posM A c j b := fun q => absurd h (nI_ge q (by omega))
        rw [hy, fb_ct_succ]
        simp [this]
      · have : posM A c j a < posM A c j b := by
          rcases Nat.lt_or_ge (posM A c j a) (posM A c j b) with q | q
          · exact q
          · exact absurd (nI_le q (by omega)) h
        rw [hy, fb_ct_succ]
        simp only [this, ht, ne_eq, not_false_eq_true, decide_true, Bool.and_self, if_true]
        rw [nI_1]
    · refine vX8_ahead_48 (vX8_ahead_49 (ahead_loop h8 hc ha hb hP d (j + 1) _ _ (by omega) (by rw [nI_1]) ?_))
      rw [hy, fb_ct_succ]
      simp [ht]
theorem s_ahead {c a b : Nat} (h8 : I8 A) (hc : c < 6) (ha : bt (A 134 c) a = true) (hb : bt (A 134 c) b = true) (hP : P (nI (winM A c a b)) F A) : CM l mX8_ahead 2 w nb [.ref 122, .int (nI c), .int (nI a), .int (nI b)] F A (qi P) :=
  kX8_ahead (ahead_loop h8 hc ha hb hP 6 0 0 0 rfl rfl rfl)
theorem cost_loop {W : Nat → Nat → Nat} {n x s : Nat} (hn : n ≤ 8) (hx : x < n) (hs : s < 256) (hF : F 345 122 = nI n) (hW : ∀ y, y < n → A 141 (8 * y + x) = nI (W y x)) (h0 : W x x = 0) (hP : P (nI (dcs W n x s)) F A) : ∀ (d y : Nat) (x3 x4 : Int32), y + d = n → x4 = nI y → x3 = nI (fb_sm (fun y => if s.testBit y = true then W y x else 0) y) → ZM l mX8_cost 2 w nb (qi P) 5 [(0, .ref 122), (1, .int (nI x)), (2, .int (nI s)), (3, .int x3), (4, .int x4)] [] F A
  | 0, y, x3, x4, hy, e4, e3 => by
    have : y = n := by omega
    subst this
    subst e4
    subst e3
    refine vX8_cost_5 ?_
    rw [hF]
    exact ⟨fun _ => ⟨_, rfl, hP⟩, fun h => absurd (Int32.le_refl _) h⟩
  | d + 1, y, x3, x4, hy, e4, e3 => by
    subst e4
    refine vX8_cost_5 ?_
    rw [hF]
    have next : ∀ v : Nat, v = (if s.testBit y = true then W y x else 0) → ZM l mX8_cost 2 w nb (qi P) 46 [(0, .ref 122), (1, .int (nI x)), (2, .int (nI s)), (4, .int (nI y))] [.int (nI v), .int x3] F A := fun v hv =>
      vX8_cost_46 (cost_loop hn hx hs hF hW h0 hP d (y + 1) _ _ (by omega) (by rw [nI_1]) (by rw [e3, nI_add, fb_sm_succ, hv]))
    refine ⟨fun h => absurd h (nI_ge (by omega) (by omega)), fun _ => ⟨fun e => vX8_cost_45 (next 0 ?_), fun e => ?_⟩⟩
    · have := (nI_eq (by omega) (by omega)).mp e
      subst this
      rw [h0]; split <;> rfl
    · refine s_has (b := y) (by omega) (fun hb => z1 ?_) (fun hb => z0 (vX8_cost_45 (next 0 ?_)))
      · rw [setB s hs y (by omega)] at hb
        rw [ix_cl, nI_clamp (by omega), hW y (by omega)]
        exact ⟨vp_in_nI (by omega) (by decide), next _ (by rw [if_pos hb])⟩
      · rw [setB s hs y (by omega)] at hb
        rw [hb]; rfl
theorem s_cost {W : Nat → Nat → Nat} {n x s : Nat} (hn : n ≤ 8) (hx : x < n) (hs : s < 256) (hF : F 345 122 = nI n) (hW : ∀ y, y < n → A 141 (8 * y + x) = nI (W y x)) (h0 : W x x = 0) (hP : P (nI (dcs W n x s)) F A) : CM l mX8_cost 2 w nb [.ref 122, .int (nI x), .int (nI s)] F A (qi P) :=
  kX8_cost (cost_loop hn hx hs hF hW h0 hP n 0 0 0 (by omega) rfl rfl)
end JOINS
section JOINS2
variable {l : Launch} {w : Nat → Nat} {nb : Nat} {F0 A0 : MI} {P : MI → MI → Prop}
/-- what joins may change -/
def JF (F0 A0 F A : MI) : Prop := (∀ f a, ¬ (f = 345 ∧ a = 122) → F f a = F0 f a) ∧ ∀ a j, ¬ (140 ≤ a ∧ a ≤ 143) → A a j = A0 a j
theorem JF.win {F A : MI} (h : JF F0 A0 F A) : winM A = winM A0 := winM_cong (fun j => h.2 _ _ (by omega)) (fun j => h.2 _ _ (by omega))
theorem JF.WS {F A : MI} (h : JF F0 A0 F A) (c : Nat) : WS A c = WS A0 c := WS_cong (fun j => h.2 _ _ (by omega)) (fun j => h.2 _ _ (by omega)) (fun j => h.2 _ _ (by omega)) c
theorem JF.i8 {F A : MI} (h : JF F0 A0 F A) (h8 : I8 A0) : I8 A := h8.cong (fun j => h.2 _ _ (by omega)) (fun c d j hc h1 h2 => h.2 _ _ (by omega)) (fun j => h.2 _ _ (by omega)) (fun j => h.2 _ _ (by omega))
theorem JF.putA {F A : MI} (h : JF F0 A0 F A) {a j : Nat} {v : Int32} (ha : 140 ≤ a ∧ a ≤ 143) : JF F0 A0 F (u2 A a j v) := ⟨h.1, fun a' j' q => (u2_n1 (by omega)).trans (h.2 a' j' q)⟩
theorem JF.putF {F A : MI} (h : JF F0 A0 F A) {v : Int32} : JF F0 A0 (u2 F 345 122 v) A := ⟨fun f a q => (u2_ne q).trans (h.1 f a q), h.2⟩
theorem joins_1 {c : Nat} (hc : c < 6) (hn : F0 322 122 = nI nb) (hn2 : nb ≤ 20) (hb : ∀ b, bt (A0 134 c) b = true → b < nb) (h8 : pcn (A0 134 c) ≤ 8) (kk : ∀ F A, JF F0 A0 F A → F 345 122 = nI (pcn (A0 134 c)) → (∀ k, k < pcn (A0 134 c) → A 140 k = nI (mbr (A0 134 c) k)) → ZM l mX8_joins 3 w nb (qv P) 59 [(0, .ref 122), (1, .int (nI c)), (2, .int 0)] [] F A) :
    ∀ (d b : Nat) (x2 : Int32) (F A : MI), b + d = nb → x2 = nI b → JF F0 A0 F A → F 345 122 = nI (fb_ct (bt (A0 134 c)) b) → (∀ k, k < fb_ct (bt (A0 134 c)) b → A 140 k = nI (mbr (A0 134 c) k)) → ZM l mX8_joins 3 w nb (qv P) 7 [(0, .ref 122), (1, .int (nI c)), (2, .int x2)] [] F A
  | 0, b, x2, F, A, hd, hx, hJ, hs, hm => by
    have : b = nb := by omega
    subst this
    subst hx
    refine vX8_joins_7 ?_
    rw [hJ.1 322 122 (by omega), hn]
    rw [ct_nb hb (by omega)] at hs hm
    exact ⟨fun _ => kk F A hJ hs hm, fun h => absurd (Int32.le_refl _) h⟩
  | d + 1, b, x2, F, A, hd, hx, hJ, hs, hm => by
    subst hx
    refine vX8_joins_7 ?_
    rw [hJ.1 322 122 (by omega), hn, nI_clamp (n := c) (by omega), hJ.2 134 c (by omega)]
    refine ⟨fun h => absurd h (nI_ge (by omega) (by omega)), fun _ => ⟨vp_in_nI hc (by decide), s_has (by omega) (fun hbt => n1 ?_) (fun hbt => n0 ?_)⟩⟩
    · have hct := ct_lt hbt
      rw [hs, nI_clamp (by omega)]
      refine ⟨vp_in_nI (by omega) (by decide), vX8_joins_51 (joins_1 hc hn hn2 hb h8 kk d (b + 1) _ _ _ (by omega) (by rw [nI_1]) (hJ.putF.putA (by omega)) ?_ ?_)⟩
      · rw [u2_s, nI_1, fb_ct_succ, hbt, if_pos rfl]
      · intro k hk
        rw [fb_ct_succ, hbt, if_pos rfl] at hk
        rcases Nat.lt_or_ge k (fb_ct (bt (A0 134 c)) b) with q | q
        · rw [u2_n2 (by omega)]; exact hm k q
        · rw [show k = fb_ct (bt (A0 134 c)) b by omega, u2_s, mbr_of hbt]
    · refine vX8_joins_51 (joins_1 hc hn hn2 hb h8 kk d (b + 1) _ _ _ (by omega) (by rw [nI_1]) hJ ?_ ?_)
      · rw [fb_ct_succ, hbt]; exact hs
      · intro k hk
        rw [fb_ct_succ, hbt] at hk
        exact hm k hk
end JOINS2
