section PRICE
variable {l : Launch} {w : Nat → Nat} {nb : Nat} {F A F0 A0 : MI} {P : Int32 → MI → MI → Prop}
theorem JF.trans {F1 A1 F2 A2 : MI} (h1 : JF F0 A0 F1 A1) (h2 : JF F1 A1 F2 A2) : JF F0 A0 F2 A2 := ⟨fun f a q => (h2.1 f a q).trans (h1.1 f a q), fun a j q => (h2.2 a j q).trans (h1.2 a j q)⟩
theorem JF.refl : JF F A F A := ⟨fun _ _ _ => rfl, fun _ _ _ => rfl⟩
theorem pl_cong (a0 : ∀ j, A 134 j = A0 134 j) (a2 : ∀ j, A 137 j = A0 137 j) (a3 : ∀ j, A 138 j = A0 138 j) (c b : Nat) : plI A c b = plI A0 c b := by
  have e1 : (fun k => rowM A c k == b) = (fun k => rowM A0 c k == b) := funext fun k => by rw [rowM_cong a0 a2 a3]
  have e2 : plq A c b = plq A0 c b := by
    unfold plq
    rw [e1, a0]
  show (if plq A c b < pcn (A 134 c) then nI (plq A c b + 1) else -1) = (if plq A0 c b < pcn (A0 134 c) then nI (plq A0 c b + 1) else -1)
  rw [e2, a0]
theorem JF.pl (h : JF F0 A0 F A) (c b : Nat) : plI A c b = plI A0 c b := pl_cong (fun j => h.2 _ _ (by omega)) (fun j => h.2 _ _ (by omega)) (fun j => h.2 _ _ (by omega)) c b
theorem JF.e (h : JF F0 A0 F A) (c : Nat) : A 134 c = A0 134 c := h.2 _ _ (by omega)
/-- what CLASSES below c give to BEAST b's PRICE -/
def prs (A : MI) (b : Nat) : Nat → Int32
  | 0 => 100
  | c + 1 => if bt (A 134 c) b = true then prs A b c + (50 / plI A c b) else prs A b c
theorem pl_in {c b : Nat} (hp : pcn (A 134 c) ≤ 8) (h : bt (A 134 c) b = true) : plI A c b = nI (plq A c b + 1) := by
  unfold plI
  rw [if_pos ((plq_ent hp).mpr h)]
theorem pl_out {c b : Nat} (hp : pcn (A 134 c) ≤ 8) (h : bt (A 134 c) b = false) : plI A c b = -1 := by
  unfold plI
  rw [if_neg (fun q => by rw [(plq_ent hp).mp q] at h; cases h)]
theorem priceX_loop {b : Nat} (hI : Inv w nb F A) (hb : b < 2 ^ 31) (hP : P (prs A b 6) F A) : ∀ (d c : Nat) (x2 x3 : Int32), c + d = 6 → x3 = nI c → x2 = prs A b c → ZM l mX7_price 3 w nb (qi P) 15 [(0, .ref 1), (1, .int (nI b)), (2, .int x2), (3, .int x3)] [] F A
  | 0, c, x2, x3, hd, hx, hy => by
    have : c = 6 := by omega
    subst this
    subst hx
    subst hy
    exact vX7_price_15 ⟨fun _ => ⟨_, rfl, hP⟩, fun h => absurd (Int32.le_refl _) h⟩
  | d + 1, c, x2, x3, hd, hx, hy => by
    subst hx
    have hc : c < 6 := by omega
    have hp := (hI.2.2.2.2.1 c hc).2.2.2.1
    refine vX7_price_15 ⟨fun h => absurd h (nI_ge (a := c) (b := 6) hc (by decide)), fun _ => ⟨vp_in_nI hc (by decide), ?_⟩⟩
    rw [nI_clamp (by omega)]
    refine s_placeOf hc hI.2.2.2.2.1 hI.2.2.2.2.2.2.2.2.1 hb ?_
    cases hbt : bt (A 134 c) b
    · rw [pl_out hp hbt]
      refine ⟨fun _ => vX7_price_46 (priceX_loop hI hb hP d (c + 1) _ _ (by omega) (by rw [nI_1]) ?_), fun h => absurd (by decide) h⟩
      rw [hy]
      unfold prs
      rw [hbt, if_neg (by decide)]
      cases c <;> rfl
    · have hq := (plq_ent hp).mpr hbt
      have e := pl_in hp hbt
      refine ⟨fun h => ?_, fun _ => ⟨?_, vX7_price_46 (priceX_loop hI hb hP d (c + 1) _ _ (by omega) (by rw [nI_1]) ?_)⟩⟩
      · rw [e] at h; exact absurd h (nI_nle (by omega) (by omega))
      · rw [e]; exact nI_ne0 (by omega) (by omega)
      · rw [hy]
        conv => rhs; unfold prs
        rw [hbt, if_pos rfl]
theorem priceM_loop {b : Nat} (hw : TW w) (hI0 : Inv w nb F0 A0) (hb : b < 31) (hP : ∀ F A, JF F0 A0 F A → P (prs A0 b 6) F A) : ∀ (d c : Nat) (x2 x3 : Int32) (F A : MI), c + d = 6 → x3 = nI c → x2 = prs A0 b c → JF F0 A0 F A → ZM l mX8_price 4 w nb (qi P) 15 [(0, .ref 122), (1, .int (nI b)), (2, .int x2), (3, .int x3)] [] F A
  | 0, c, x2, x3, F, A, hd, hx, hy, hJ => by
    have : c = 6 := by omega
    subst this
    subst hx
    subst hy
    exact vX8_price_15 ⟨fun _ => ⟨_, rfl, hP F A hJ⟩, fun h => absurd (Int32.le_refl _) h⟩
  | d + 1, c, x2, x3, F, A, hd, hx, hy, hJ => by
    subst hx
    have hc : c < 6 := by omega
    have hp := (hI0.2.2.2.2.1 c hc).2.2.2.1
    refine vX8_price_15 ⟨fun h => absurd h (nI_ge (a := c) (b := 6) hc (by decide)), fun _ => ⟨vp_in_nI hc (by decide), ?_⟩⟩
    rw [nI_clamp (by omega), hJ.e]
    refine s_has hb (fun hbt => n1 (s_joins (hJ.inv hw hI0) hc (fun F1 A1 j1 j2 j3 j4 j5 j6 => ?_))) (fun hbt => n0 (vX8_price_53 (priceM_loop hw hI0 hb hP d (c + 1) _ _ F A (by omega) (by rw [nI_1]) ?_ hJ)))
    · refine s_placeNow (A0 := A) (by rw [hJ.e]; exact hp) (by omega) j2 j6 ?_
      rw [hJ.pl]
      have e := pl_in hp hbt
      have hq := (plq_ent hp).mpr hbt
      refine ⟨by rw [e]; exact nI_ne0 (by omega) (by omega), vX8_price_53 (priceM_loop hw hI0 hb hP d (c + 1) _ _ F1 A1 (by omega) (by rw [nI_1]) ?_ (hJ.trans j1))⟩
      rw [hy]
      conv => rhs; unfold prs
      rw [hbt, if_pos rfl]
    · rw [hy]
      conv => rhs; unfold prs
      rw [hbt, if_neg (by decide)]
theorem op_price {x1 : Int32} (hw : TW w) (hI : Inv w nb F A) : CM l mX7_price 3 w nb [.ref 1, .int x1] F A (qi fun r F A => CM l mX8_price 4 w nb [.ref 122, .int x1] F A (qi fun r' F A => r = r' ∧ Inv w nb F A)) := by
  obtain ⟨hn1, hn2, hn3, -⟩ := hI.2.1
  refine kX7_price (s_beastAt hn1 hn3 (fun i hi e => ?_) (fun h => ⟨-1, rfl, kX8_price (s_isBeast hn2 hn3 (fun i hi e => absurd ⟨i, hi, e⟩ h) (fun _ => n0 ⟨-1, rfl, rfl, hI⟩))⟩))
  subst e
  refine priceX_loop hI (by omega) ?_ 6 0 _ _ rfl rfl rfl
  refine kX8_price (s_isBeast hn2 hn3 (fun i' _ _ => n1 ?_) (fun q => absurd ⟨i, hi, rfl⟩ q))
  exact priceM_loop hw hI (by omega) (fun F1 A1 j => ⟨rfl, j.inv hw hI⟩) 6 0 _ _ F A rfl rfl rfl JF.refl
/-- in how many CLASSES -/
def cls (A : MI) (b n : Nat) : Nat := fb_ct (fun c => bt (A 134 c) b) n
theorem clsX_loop {b : Nat} (hI : Inv w nb F A) (hb : b < 31) (hP : P (nI (cls A b 6)) F A) : ∀ (d c : Nat) (x2 x3 : Int32), c + d = 6 → x3 = nI c → x2 = nI (cls A b c) → ZM l mX7_classesOf 2 w nb (qi P) 4 [(0, .ref 1), (1, .int (nI b)), (2, .int x2), (3, .int x3)] [] F A
  | 0, c, x2, x3, hd, hx, hy => by
    have : c = 6 := by omega
    subst this
    subst hx
    subst hy
    exact vX7_classesOf_4 ⟨fun _ => ⟨_, rfl, hP⟩, fun h => absurd (Int32.le_refl _) h⟩
  | d + 1, c, x2, x3, hd, hx, hy => by
    subst hx
    have hc : c < 6 := by omega
    refine vX7_classesOf_4 ⟨fun h => absurd h (nI_ge (a := c) (b := 6) hc (by decide)), fun _ => ⟨vp_in_nI hc (by decide), ?_⟩⟩
    rw [nI_clamp (by omega)]
    refine kX4_holds hc ?_
    rw [(hI.2.2.2.2.1 c hc).1]
    refine ⟨fun h => ⟨0, rfl, z0 (vX7_classesOf_26 (clsX_loop hI hb hP d (c + 1) _ _ (by omega) (by rw [nI_1]) ?_))⟩, fun h => ⟨1, rfl, z1 (vX7_classesOf_26 (clsX_loop hI hb hP d (c + 1) _ _ (by omega) (by rw [nI_1]) ?_))⟩⟩
    · rw [bit_and (by omega)] at h
      rw [hy]; unfold cls; rw [fb_ct_succ, h]; rfl
    · have hbt : bt (A 134 c) b = true := by
        cases e : bt (A 134 c) b
        · exact absurd ((bit_and (by omega)).mpr e) h
        · rfl
      rw [hy]; unfold cls; rw [fb_ct_succ, hbt, if_pos rfl, nI_1]
theorem clsM_loop {b : Nat} (hb : b < 31) (hP : P (nI (cls A b 6)) F A) : ∀ (d c : Nat) (x3 x4 : Int32), c + d = 6 → x4 = nI c → x3 = nI (cls A b c) → ZM l mX8_look 4 w nb (qi P) 126 [(0, .ref 122), (1, .int (nI b)), (3, .int x3), (4, .int x4)] [] F A
  | 0, c, x3, x4, hd, hx, hy => by
    have : c = 6 := by omega
    subst this
    subst hx
    subst hy
    exact vX8_look_126 ⟨fun _ => ⟨_, rfl, hP⟩, fun h => absurd (Int32.le_refl _) h⟩
  | d + 1, c, x3, x4, hd, hx, hy => by
    subst hx
    have hc : c < 6 := by omega
    refine vX8_look_126 ⟨fun h => absurd h (nI_ge (a := c) (b := 6) hc (by decide)), fun _ => ⟨vp_in_nI hc (by decide), ?_⟩⟩
    rw [nI_clamp (by omega)]
    refine s_has hb (fun hbt => z1 (vX8_look_153 (clsM_loop hb hP d (c + 1) _ _ (by omega) (by rw [nI_1]) ?_))) (fun hbt => z0 (vX8_look_153 (clsM_loop hb hP d (c + 1) _ _ (by omega) (by rw [nI_1]) ?_)))
    · rw [hy]; unfold cls; rw [fb_ct_succ, hbt, if_pos rfl, nI_1]
    · rw [hy]; unfold cls; rw [fb_ct_succ, hbt, nI_lit 0, nI_add]; rfl
theorem sub_bel {x : Int32} {k n : Nat} (hk : k + n < 2 ^ 30) : Bel (x - nI k) n ↔ ∃ j, j < n ∧ x = nI (k + j) := by
  constructor
  · rintro ⟨j, hj, e⟩
    refine ⟨j, hj, ?_⟩
    have : x = nI j + nI k := by rw [← e]; exact (Int32.sub_add_cancel x (nI k)).symm
    rw [this, nI_add]
    congr 1; omega
  · rintro ⟨j, hj, rfl⟩
    refine ⟨j, hj, ?_⟩
    rw [pk_sub (by omega)]
    congr 1; omega
theorem op_look {x1 x2 : Int32} (hw : TW w) (hI : Inv w nb F A) : CM l mX7_look 3 w nb [.ref 1, .int x1, .int x2] F A (qi fun r F A => CM l mX8_look 4 w nb [.ref 122, .int x1, .int x2] F A (qi fun r' F A => r = r' ∧ Inv w nb F A)) := by
  obtain ⟨hn1, hn2, hn3, -⟩ := hI.2.1
  refine kX7_look (s_beastAt hn1 hn3 (fun i hi e => ?_) (fun h => ⟨-1, rfl, kX8_look (s_isBeast hn2 hn3 (fun i hi e => absurd ⟨i, hi, e⟩ h) (fun _ => n0 ⟨-1, rfl, rfl, hI⟩))⟩))
  subst e
  obtain ⟨b, a, s, hd, ms, hB⟩ := hI.2.1.beast hi
  obtain ⟨⟨b1, b2, b3, b4, f0, a0, f1, a1, f2, a2, f3, a3⟩, hm1, hm2⟩ := id hB
  have hv20 := vp_in_nI (show i < 20 by omega) (N := 20) (by decide)
  -- M, where x2 is no 10 + c
  have mlow : ∀ r : Int32, ¬ Bel (x2 - 10) 6 → (x2 = 0 → r = nI b) → (x2 = 1 → r = nI a) → (x2 = 2 → r = nI s) → (x2 = 3 → r = nI hd) → (∀ m, m < 3 → x2 = nI (4 + m) → r = nI (ms m)) → (x2 = 7 → r = nI (cls A i 6)) → (¬ Bel x2 8 → r = -1) → CM l mX8_look 4 w nb [.ref 122, .int (nI i), .int x2] F A (qi fun r' F A => r = r' ∧ Inv w nb F A) := by
    intro r hno g0 g1 g2 g3 gm g7 gn
    refine kX8_look (s_isBeast hn2 hn3 (fun i' _ _ => n1 ?_) (fun q => absurd ⟨i, hi, rfl⟩ q))
    refine s_isClass (fun c hc e => absurd ⟨c, hc, e⟩ hno) (fun _ => z0 ?_)
    have ex : ∀ m, m < 3 → ((3 * nI i) + nI (4 + m)) - 4 = nI (3 * i + m) := fun m hm => by rw [nI_lit 3, pk_mul, nI_add, nI_lit 4, pk_sub (by omega)]; congr 1; omega
    have meas : ∀ m, m < 3 → x2 = nI (4 + m) → (vp_in (((3 * nI i) + x2) - 4) 60 ∧ (qi fun r' F A => r = r' ∧ Inv w nb F A) (some (.int (A 128 (((3 * nI i) + x2) - 4).toNatClampNeg))) F A) := by
      intro m hm e
      have g := gm m hm e
      subst e
      rw [ex m hm, nI_clamp (by omega), (hm2 m hm).2]
      exact ⟨vp_in_nI (by omega) (by decide), _, rfl, g, hI⟩
    refine ⟨fun e => ?_, fun e => ?_, fun e => ?_, fun e => ?_, fun e => meas 0 (by decide) e, fun e => meas 1 (by decide) e, fun e => meas 2 (by decide) e, fun e => ?_, fun e0 e1 e2 e3 e4 e5 e6 e7 => ⟨-1, rfl, gn ?_, hI⟩⟩
    · rw [nI_clamp (by omega), a0]; exact ⟨hv20, _, rfl, g0 e, hI⟩
    · rw [nI_clamp (by omega), a1]; exact ⟨hv20, _, rfl, g1 e, hI⟩
    · rw [nI_clamp (by omega), a2]; exact ⟨hv20, _, rfl, g2 e, hI⟩
    · rw [nI_clamp (by omega), a3]; exact ⟨hv20, _, rfl, g3 e, hI⟩
    · exact clsM_loop (by omega) ⟨g7 e, hI⟩ 6 0 _ _ rfl rfl rfl
    · rintro ⟨j, hj, e⟩
      rcases (show j = 0 ∨ j = 1 ∨ j = 2 ∨ j = 3 ∨ j = 4 ∨ j = 5 ∨ j = 6 ∨ j = 7 by omega) with rfl | rfl | rfl | rfl | rfl | rfl | rfl | rfl
      · exact e0 e
      · exact e1 e
      · exact e2 e
      · exact e3 e
      · exact e4 e
      · exact e5 e
      · exact e6 e
      · exact e7 e
  have inj : ∀ j k, j < 100 → k < 100 → nI j = nI k → j = k := fun j k h1 h2 e => (nI_eq (by omega) (by omega)).mp e
  have nbig : ∀ j, j < 10 → x2 = nI j → ¬ Bel (x2 - 10) 6 := by
    intro j hj e q
    rw [nI_lit 10, sub_bel (by decide)] at q
    obtain ⟨k, hk, e2⟩ := q
    have := inj j (10 + k) (by omega) (by omega) (e.symm.trans e2)
    omega
  -- the switch of X
  have sw : (∀ m, m < 3 → ¬ x2 = nI (4 + m)) → ¬ Bel (x2 - 10) 6 → ZM l mX7_look 3 w nb (qi fun r F A => CM l mX8_look 4 w nb [.ref 122, .int (nI i), .int x2] F A (qi fun r' F A => r = r' ∧ Inv w nb F A)) 58 [(0, .ref 1), (1, .int (nI i)), (2, .int x2), (3, .ref (147 + 2 * i))] [] F A := by
    intro n4 hno
    refine vX7_look_58 (i3 := i) hi hi ⟨fun e => ?_, fun e => ?_, fun e => ?_, fun e => ?_, fun e => absurd e (n4 0 (by decide)), fun e => absurd e (n4 1 (by decide)), fun e => absurd e (n4 2 (by decide)), fun e => ?_, fun e0 e1 e2 e3 e4 e5 e6 e7 => ⟨-1, rfl, mlow _ hno (fun e => absurd e e0) (fun e => absurd e e1) (fun e => absurd e e2) (fun e => absurd e e3) (fun m hm e => absurd e (n4 m hm)) (fun e => absurd e e7) (fun _ => rfl)⟩⟩
    · rw [f0]
      subst e
      exact ⟨_, rfl, mlow _ hno (fun _ => rfl) (fun e => absurd e (by decide)) (fun e => absurd e (by decide)) (fun e => absurd e (by decide)) (fun m hm e => absurd e (n4 m hm)) (fun e => absurd e (by decide)) (fun q => absurd ⟨0, by decide, rfl⟩ q)⟩
    · rw [f1]
      subst e
      exact ⟨_, rfl, mlow _ hno (fun e => absurd e (by decide)) (fun _ => rfl) (fun e => absurd e (by decide)) (fun e => absurd e (by decide)) (fun m hm e => absurd e (n4 m hm)) (fun e => absurd e (by decide)) (fun q => absurd ⟨1, by decide, rfl⟩ q)⟩
    · rw [f2]
      subst e
      exact ⟨_, rfl, mlow _ hno (fun e => absurd e (by decide)) (fun e => absurd e (by decide)) (fun _ => rfl) (fun e => absurd e (by decide)) (fun m hm e => absurd e (n4 m hm)) (fun e => absurd e (by decide)) (fun q => absurd ⟨2, by decide, rfl⟩ q)⟩
    · rw [f3]
      subst e
      exact ⟨_, rfl, mlow _ hno (fun e => absurd e (by decide)) (fun e => absurd e (by decide)) (fun e => absurd e (by decide)) (fun _ => rfl) (fun m hm e => absurd e (n4 m hm)) (fun e => absurd e (by decide)) (fun q => absurd ⟨3, by decide, rfl⟩ q)⟩
    · subst e
      refine kX7_classesOf (clsX_loop hI (by omega) ?_ 6 0 _ _ rfl rfl rfl)
      exact ⟨_, rfl, mlow _ hno (fun e => absurd e (by decide)) (fun e => absurd e (by decide)) (fun e => absurd e (by decide)) (fun e => absurd e (by decide)) (fun m hm e => absurd e (n4 m hm)) (fun _ => rfl) (fun q => absurd ⟨7, by decide, rfl⟩ q)⟩
  -- the PLACES
  have pl : (∀ m, m < 3 → ¬ x2 = nI (4 + m)) → ZM l mX7_look 3 w nb (qi fun r F A => CM l mX8_look 4 w nb [.ref 122, .int (nI i), .int x2] F A (qi fun r' F A => r = r' ∧ Inv w nb F A)) 32 [(0, .ref 1), (1, .int (nI i)), (2, .int x2), (3, .ref (147 + 2 * i))] [] F A := by
    intro n4
    have e10 : (10 : Int32).toInt = 10 := rfl
    have e16 : (16 : Int32).toInt = 16 := rfl
    refine vX7_look_32 (i3 := i) hi ⟨fun h => sw n4 (fun q => ?_), fun h => ⟨fun h2 => sw n4 (fun q => ?_), fun h2 => ?_⟩⟩
    · rw [nI_lit 10, sub_bel (by decide)] at q
      obtain ⟨k, hk, e2⟩ := q
      rw [i_lt, e2, nI_toInt (by omega)] at h
      omega
    · rw [nI_lit 10, sub_bel (by decide)] at q
      obtain ⟨k, hk, e2⟩ := q
      rw [i_le, e2, nI_toInt (by omega)] at h2
      omega
    · rw [i_lt] at h
      rw [i_le] at h2
      obtain ⟨j, hj, e⟩ := (bel_iff (x := x2) (n := 16) (by decide)).mpr ⟨by omega, by omega⟩
      subst e
      have ej := nI_toInt (n := j) (by omega)
      have hc : j - 10 < 6 := by omega
      have es : nI j - 10 = nI (j - 10) := by rw [nI_lit 10, pk_sub (by omega)]
      rw [es, nI_clamp (by omega)]
      refine ⟨vp_in_nI hc (by decide), s_placeOf hc hI.2.2.2.2.1 hI.2.2.2.2.2.2.2.2.1 (by omega) ⟨_, rfl, ?_⟩⟩
      refine kX8_look (s_isBeast hn2 hn3 (fun i' _ _ => n1 ?_) (fun q => absurd ⟨i, hi, rfl⟩ q))
      rw [es]
      refine s_isClass (fun c _ _ => z1 ?_) (fun q => absurd ⟨j - 10, hc, rfl⟩ q)
      refine s_joins hI hc (fun F1 A1 j1 j2 j3 j4 j5 j6 => ?_)
      exact s_placeNow (A0 := A) (hI.2.2.2.2.1 _ hc).2.2.2.1 (by omega) j2 j6 ⟨_, rfl, rfl, j1.inv hw hI⟩
  have e4 : (4 : Int32).toInt = 4 := rfl
  have e7 : (7 : Int32).toInt = 7 := rfl
  refine ⟨fun h => pl (fun m hm e => ?_), fun h => ⟨fun h2 => pl (fun m hm e => ?_), fun h2 => ?_⟩⟩
  · rw [i_lt, e, nI_toInt (by omega)] at h; omega
  · rw [i_le, e, nI_toInt (by omega)] at h2; omega
  · rw [i_lt] at h
    rw [i_le] at h2
    obtain ⟨j, hj, e⟩ := (bel_iff (x := x2) (n := 7) (by decide)).mpr ⟨by omega, by omega⟩
    have ej := nI_toInt (n := j) (by omega)
    rw [← e] at ej
    have hm : j - 4 < 3 := by omega
    have es : x2 - 4 = nI (j - 4) := by rw [e, nI_lit 4, pk_sub (by omega)]
    rw [es, nI_clamp (by omega), (hm2 (j - 4) hm).1]
    have ne : ∀ k, k < 100 → k ≠ j → ¬ x2 = nI k := fun k hk hne e2 => hne (inj k j hk (by omega) (e2.symm.trans e))
    refine ⟨vp_in_nI hm (by decide), _, rfl, mlow _ (nbig j (by omega) e) (fun e => absurd e (ne 0 (by decide) (by omega))) (fun e => absurd e (ne 1 (by decide) (by omega))) (fun e => absurd e (ne 2 (by decide) (by omega))) (fun e => absurd e (ne 3 (by decide) (by omega))) (fun m hm e2 => ?_) (fun e => absurd e (ne 7 (by decide) (by omega))) (fun q => absurd ⟨j, by omega, e⟩ q)⟩
    have := inj j (4 + m) (by omega) (by omega) (e.symm.trans e2)
    rw [show j - 4 = m by omega]
end PRICE
