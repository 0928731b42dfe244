/-! TEXTS: what both read -/
def dgB (s : Nat → Nat) (n i : Nat) : Bool := decide (48 ≤ hv s n i) && decide (hv s n i ≤ 57)
theorem dg_iff {s : Nat → Nat} {n i : Nat} : dgB s n i = true ↔ 48 ≤ hv s n i ∧ hv s n i ≤ 57 := by unfold dgB; rw [Bool.and_eq_true, decide_eq_true_eq, decide_eq_true_eq]
theorem dg_no {s : Nat → Nat} {n i : Nat} : dgB s n i = false ↔ ¬ (48 ≤ hv s n i ∧ hv s n i ≤ 57) := by
  rw [← dg_iff]
  cases dgB s n i <;> simp
def numS (s : Nat → Nat) (n : Nat) : Nat → Nat → Nat → Nat × Nat
  | 0, i, v => (i, v)
  | d + 1, i, v => if dgB s n i = true then numS s n d (i + 1) (10 * v + (hv s n i - 48)) else (i, v)
def brS (s : Nat → Nat) (n : Nat) : Nat → Nat → Int32 → Nat × Nat × Int32
  | 0, i, x => (0, i, x)
  | d + 1, i, x => if dgB s n i = true then (if 52 ≤ hv s n i then (2, i, x) else brS s n d (i + 1) (x ||| (1 <<< (nI (hv s n i - 48) &&& 31)))) else (0, i, x)
abbrev CL : Type := Nat × Nat × Nat × Int32
def nmC (s : Nat → Nat) (n i wh : Nat) : CL := if dgB s n i = true then (0, (numS s n 4 i 0).1, wh, nI (numS s n 4 i 0).2) else (1, i, 0, 0)
def clS (s : Nat → Nat) (n i : Nat) : CL :=
  if hv s n i = 98 then (if dgB s n (i + 1) = true then ((brS s n 4 (i + 1) 0).1, (brS s n 4 (i + 1) 0).2.1, 0, (brS s n 4 (i + 1) 0).2.2) else (1, i + 1, 0, 0))
  else if hv s n i = 102 then nmC s n (i + 1) 1 else if hv s n i = 116 then nmC s n (i + 1) 2
  else if hv s n i = 109 then (if dgB s n (i + 1) = true then (if 51 ≤ hv s n (i + 1) then (2, i + 1, 0, 0) else if hv s n (i + 2) = 62 then nmC s n (i + 3) (3 + (hv s n (i + 1) - 48)) else if hv s n (i + 2) = 60 then nmC s n (i + 3) (6 + (hv s n (i + 1) - 48)) else (1, i + 2, 0, 0)) else (1, i + 1, 0, 0))
  else (1, i, 0, 0)
def letr (s : Nat → Nat) (n i : Nat) : Bool := decide (hv s n i = 98) || decide (hv s n i = 102) || decide (hv s n i = 116) || decide (hv s n i = 109)
abbrev TR : Type := Nat × Nat × List (Nat × Int32)
def txS (s : Nat → Nat) (n : Nat) : Nat → Nat → List (Nat × Int32) → TR
  | 0, _, cls => (0, 0, cls)
  | k + 1, i, cls => if cls.length = 8 then (if letr s n i = true then (3, i, []) else (1, i, [])) else
      if (clS s n i).1 = 0 then (if n ≤ (clS s n i).2.1 then (0, 0, cls ++ [(clS s n i).2.2]) else if hv s n (clS s n i).2.1 = 59 then txS s n k ((clS s n i).2.1 + 1) (cls ++ [(clS s n i).2.2]) else (1, (clS s n i).2.1, []))
      else ((clS s n i).1, (clS s n i).2.1, [])
theorem numS_ok {s : Nat → Nat} {n : Nat} (hs : ∀ k, k < 80 → s k < 256) (hn : n ≤ 80) : ∀ (d i v : Nat), i ≤ n → i ≤ (numS s n d i v).1 ∧ (numS s n d i v).1 ≤ n ∧ (numS s n d i v).1 ≤ i + d ∧ (numS s n d i v).2 < 10 ^ d * (v + 1)
  | 0, i, v, h => by
    unfold numS
    refine ⟨Nat.le_refl i, h, Nat.le_refl i, ?_⟩
    show v < 10 ^ 0 * (v + 1)
    omega
  | d + 1, i, v, h => by
    have hp := Nat.pow_succ (n := 10) (m := d)
    have hpos : 0 < 10 ^ d := Nat.pow_pos (by decide)
    unfold numS
    split
    · rename_i q
      have q2 := dg_iff.mp q
      have hin := hv_in (s := s) (n := n) (i := i) (by omega)
      obtain ⟨h1, h2, h3, h4⟩ := numS_ok hs hn d (i + 1) (10 * v + (hv s n i - 48)) hin
      refine ⟨by omega, h2, by omega, Nat.lt_of_lt_of_le h4 ?_⟩
      have h5 : 10 * v + (hv s n i - 48) + 1 ≤ 10 * (v + 1) := by omega
      calc 10 ^ d * (10 * v + (hv s n i - 48) + 1) ≤ 10 ^ d * (10 * (v + 1)) := Nat.mul_le_mul_left _ h5
        _ = 10 ^ (d + 1) * (v + 1) := by rw [hp, Nat.mul_assoc]
    · refine ⟨Nat.le_refl i, h, by omega, ?_⟩
      show v < 10 ^ (d + 1) * (v + 1)
      have : 1 * (v + 1) ≤ 10 ^ (d + 1) * (v + 1) := Nat.mul_le_mul_right _ (Nat.pow_pos (by decide))
      omega
theorem brS_ok {s : Nat → Nat} {n : Nat} : ∀ (d i : Nat) (x : Int32), i ≤ n → i ≤ (brS s n d i x).2.1 ∧ (brS s n d i x).2.1 ≤ n ∧ ((brS s n d i x).1 = 0 ∨ (brS s n d i x).1 = 2)
  | 0, i, x, h => ⟨Nat.le_refl i, h, Or.inl rfl⟩
  | d + 1, i, x, h => by
    unfold brS
    split
    · rename_i q
      have q2 := dg_iff.mp q
      have hin := hv_in (s := s) (n := n) (i := i) (by omega)
      split
      · exact ⟨Nat.le_refl i, h, Or.inr rfl⟩
      · obtain ⟨h1, h2, h3⟩ := brS_ok d (i + 1) (x ||| (1 <<< (nI (hv s n i - 48) &&& 31))) hin
        exact ⟨by omega, h2, h3⟩
    · exact ⟨Nat.le_refl i, h, Or.inl rfl⟩
theorem nmC_ok {s : Nat → Nat} {n i wh : Nat} (hs : ∀ k, k < 80 → s k < 256) (hn : n ≤ 80) (hi : i ≤ n) (hw : wh < 9) : i ≤ (nmC s n i wh).2.1 ∧ (nmC s n i wh).2.1 ≤ n ∧ (nmC s n i wh).1 ≤ 2 ∧ (nmC s n i wh).2.2.1 < 9 := by
  unfold nmC
  split
  · obtain ⟨h1, h2, h3, h4⟩ := numS_ok hs hn 4 i 0 hi
    exact ⟨h1, h2, Nat.zero_le 2, hw⟩
  · exact ⟨Nat.le_refl i, hi, by show 1 ≤ 2; omega, by show 0 < 9; omega⟩
theorem clS_ok {s : Nat → Nat} {n i : Nat} (hs : ∀ k, k < 80 → s k < 256) (hn : n ≤ 80) (hi : i ≤ n) : (clS s n i).2.1 ≤ n ∧ (clS s n i).1 ≤ 2 ∧ (clS s n i).2.2.1 < 9 ∧ i ≤ (clS s n i).2.1 ∧ ((clS s n i).1 = 0 → i + 1 ≤ (clS s n i).2.1) := by
  unfold clS
  split
  · rename_i h
    have hin := hv_in (s := s) (n := n) (i := i) (by omega)
    split
    · obtain ⟨h1, h2, h3⟩ := brS_ok (s := s) (n := n) 4 (i + 1) 0 hin
      exact ⟨h2, by rcases h3 with z | z <;> (show (brS s n 4 (i + 1) 0).1 ≤ 2; omega), by show 0 < 9; omega, by show i ≤ (brS s n 4 (i + 1) 0).2.1; omega, fun _ => h1⟩
    · exact ⟨hin, by show 1 ≤ 2; omega, by show 0 < 9; omega, by show i ≤ i + 1; omega, fun z => absurd z (by show ¬ 1 = 0; omega)⟩
  · split
    · have hin := hv_in (s := s) (n := n) (i := i) (by omega)
      obtain ⟨h1, h2, h3, h4⟩ := nmC_ok (i := i + 1) (wh := 1) hs hn hin (by omega)
      exact ⟨h2, h3, h4, by omega, fun _ => h1⟩
    · split
      · have hin := hv_in (s := s) (n := n) (i := i) (by omega)
        obtain ⟨h1, h2, h3, h4⟩ := nmC_ok (i := i + 1) (wh := 2) hs hn hin (by omega)
        exact ⟨h2, h3, h4, by omega, fun _ => h1⟩
      · split
        · have hin := hv_in (s := s) (n := n) (i := i) (by omega)
          split
          · rename_i q
            have q2 := dg_iff.mp q
            have hin1 := hv_in (s := s) (n := n) (i := i + 1) (by omega)
            split
            · exact ⟨hin, by show 2 ≤ 2; omega, by show 0 < 9; omega, by show i ≤ i + 1; omega, fun z => absurd z (by show ¬ 2 = 0; omega)⟩
            · split
              · have hin2 := hv_in (s := s) (n := n) (i := i + 2) (by omega)
                obtain ⟨h1, h2, h3, h4⟩ := nmC_ok (i := i + 3) (wh := 3 + (hv s n (i + 1) - 48)) hs hn hin2 (by omega)
                exact ⟨h2, h3, h4, by omega, fun _ => by omega⟩
              · split
                · have hin2 := hv_in (s := s) (n := n) (i := i + 2) (by omega)
                  obtain ⟨h1, h2, h3, h4⟩ := nmC_ok (i := i + 3) (wh := 6 + (hv s n (i + 1) - 48)) hs hn hin2 (by omega)
                  exact ⟨h2, h3, h4, by omega, fun _ => by omega⟩
                · exact ⟨hin1, by show 1 ≤ 2; omega, by show 0 < 9; omega, by show i ≤ i + 2; omega, fun z => absurd z (by show ¬ 1 = 0; omega)⟩
          · exact ⟨hin, by show 1 ≤ 2; omega, by show 0 < 9; omega, by show i ≤ i + 1; omega, fun z => absurd z (by show ¬ 1 = 0; omega)⟩
        · exact ⟨hi, by show 1 ≤ 2; omega, by show 0 < 9; omega, Nat.le_refl i, fun z => absurd z (by show ¬ 1 = 0; omega)⟩
/-! a TEXT as X holds it -/
def vsp (ag : Nat) (ms : Nat → Nat) : Nat → Int32
  | 0 => nI ag
  | m + 1 => nI (ms m)
theorem letX_iff {F A : MI} {t br ag : Nat} {ms : Nat → Nat} : letX F A t br ag ms ↔ bt (F 42 t) br = true ∧ ∀ k, k < 4 → A (t + 1) k ≤ vsp ag ms k ∧ vsp ag ms k ≤ A (t + 2) k := by
  unfold letX
  constructor
  · rintro ⟨h1, h2, h3, h4⟩
    refine ⟨h1, fun k hk => ?_⟩
    cases k with
    | zero => exact ⟨h2, h3⟩
    | succ m =>
      have := h4 m (by omega)
      rw [Nat.add_comm 1 m] at this
      exact this
  · rintro ⟨h1, h2⟩
    refine ⟨h1, (h2 0 (by omega)).1, (h2 0 (by omega)).2, fun m hm => ?_⟩
    have := h2 (m + 1) (by omega)
    rw [Nat.add_comm 1 m]
    exact this
def okX (F A : MI) (t : Nat) (cls : List (Nat × Int32)) : Prop := ∀ br ag ms, br < 4 → ag ≤ 200 → (∀ m, ms m ≤ 99) → (letX F A t br ag ms ↔ ∀ q ∈ cls, clM (nI q.1) q.2 br ag ms)
theorem okX.add {F A F' A' : MI} {t : Nat} {cls : List (Nat × Int32)} {q : Nat × Int32} (h : okX F A t cls) (hn : ∀ br ag ms, br < 4 → ag ≤ 200 → (∀ m, ms m ≤ 99) → (letX F' A' t br ag ms ↔ (letX F A t br ag ms ∧ clM (nI q.1) q.2 br ag ms))) : okX F' A' t (cls ++ [q]) := by
  intro br ag ms h1 h2 h3
  rw [hn br ag ms h1 h2 h3, h br ag ms h1 h2 h3]
  constructor
  · rintro ⟨q1, q2⟩ x hx
    rcases List.mem_append.mp hx with z | z
    · exact q1 x z
    · rw [List.mem_singleton.mp z]; exact q2
  · intro g
    exact ⟨fun x hx => g x (List.mem_append_left _ hx), g q (List.mem_append_right _ (List.mem_singleton.mpr rfl))⟩
theorem up_br {F A F' : MI} {t br ag : Nat} {ms : Nat → Nat} {x : Int32} (h : F' 42 t = F 42 t &&& x) : letX F' A t br ag ms ↔ (letX F A t br ag ms ∧ bt x br = true) := by
  rw [letX_iff, letX_iff, h, b_and, Bool.and_eq_true]
  constructor
  · rintro ⟨⟨h1, h2⟩, h3⟩; exact ⟨⟨h1, h3⟩, h2⟩
  · rintro ⟨⟨h1, h3⟩, h2⟩; exact ⟨⟨h1, h2⟩, h3⟩
theorem up_least {F A F' : MI} {t br ag k : Nat} {ms : Nat → Nat} {x : Int32} (hk : k < 4) (h : F' 42 t = F 42 t) : letX F' (u2 A (t + 1) k (if A (t + 1) k < x then x else A (t + 1) k)) t br ag ms ↔ (letX F A t br ag ms ∧ x ≤ vsp ag ms k) := by
  rw [letX_iff, letX_iff, h]
  have key : ∀ y : Int32, (if A (t + 1) k < x then x else A (t + 1) k) ≤ y ↔ (A (t + 1) k ≤ y ∧ x ≤ y) := fun y => by
    split
    · rename_i z
      rw [i_lt] at z
      rw [i_le, i_le]
      omega
    · rename_i z
      rw [i_lt] at z
      rw [i_le, i_le]
      omega
  constructor
  · rintro ⟨h1, h2⟩
    have hk2 := h2 k hk
    rw [u2_s, key, u2_n1 (i := t + 1) (a := t + 2) (by omega)] at hk2
    refine ⟨⟨h1, fun j hj => ?_⟩, hk2.1.2⟩
    have hj2 := h2 j hj
    rw [u2_n1 (i := t + 1) (a := t + 2) (by omega)] at hj2
    by_cases z : j = k
    · rw [z]; exact ⟨hk2.1.1, hk2.2⟩
    · rw [u2_n2 z] at hj2; exact hj2
  · rintro ⟨⟨h1, h2⟩, h3⟩
    refine ⟨h1, fun j hj => ?_⟩
    rw [u2_n1 (i := t + 1) (a := t + 2) (by omega)]
    by_cases z : j = k
    · rw [z, u2_s, key]; exact ⟨⟨(h2 k hk).1, h3⟩, (h2 k hk).2⟩
    · rw [u2_n2 z]; exact h2 j hj
theorem up_most {F A F' : MI} {t br ag k : Nat} {ms : Nat → Nat} {x : Int32} (hk : k < 4) (h : F' 42 t = F 42 t) : letX F' (u2 A (t + 2) k (if x < A (t + 2) k then x else A (t + 2) k)) t br ag ms ↔ (letX F A t br ag ms ∧ vsp ag ms k ≤ x) := by
  rw [letX_iff, letX_iff, h]
  have key : ∀ y : Int32, y ≤ (if x < A (t + 2) k then x else A (t + 2) k) ↔ (y ≤ A (t + 2) k ∧ y ≤ x) := fun y => by
    split
    · rename_i z
      rw [i_lt] at z
      rw [i_le, i_le]
      omega
    · rename_i z
      rw [i_lt] at z
      rw [i_le, i_le]
      omega
  constructor
  · rintro ⟨h1, h2⟩
    have hk2 := h2 k hk
    rw [u2_s, key, u2_n1 (by omega)] at hk2
    refine ⟨⟨h1, fun j hj => ?_⟩, hk2.2.2⟩
    have hj2 := h2 j hj
    rw [u2_n1 (i := t + 2) (a := t + 1) (by omega)] at hj2
    by_cases z : j = k
    · rw [z]; exact ⟨hk2.1, hk2.2.1⟩
    · rw [u2_n2 z] at hj2; exact hj2
  · rintro ⟨⟨h1, h2⟩, h3⟩
    refine ⟨h1, fun j hj => ?_⟩
    rw [u2_n1 (i := t + 2) (a := t + 1) (by omega)]
    by_cases z : j = k
    · rw [z, u2_s, key]; exact ⟨(h2 k hk).1, (h2 k hk).2, h3⟩
    · rw [u2_n2 z]; exact h2 j hj
theorem cl_0 {v : Int32} {br ag : Nat} {ms : Nat → Nat} : clM (nI 0) v br ag ms ↔ bt v br = true := by
  unfold clM
  refine ⟨fun h => h.1 rfl, fun h => ⟨fun _ => h, fun e => absurd e (by decide), fun e => absurd e (by decide), fun m hm e => ?_, fun m hm e => ?_⟩⟩
  · have := (nI_eq (a := 0) (by omega) (by omega)).mp e; omega
  · have := (nI_eq (a := 0) (by omega) (by omega)).mp e; omega
theorem cl_1 {v : Int32} {br ag : Nat} {ms : Nat → Nat} : clM (nI 1) v br ag ms ↔ v ≤ nI ag := by
  unfold clM
  refine ⟨fun h => h.2.1 rfl, fun h => ⟨fun e => absurd e (by decide), fun _ => h, fun e => absurd e (by decide), fun m hm e => ?_, fun m hm e => ?_⟩⟩
  · have := (nI_eq (a := 1) (by omega) (by omega)).mp e; omega
  · have := (nI_eq (a := 1) (by omega) (by omega)).mp e; omega
theorem cl_2 {v : Int32} {br ag : Nat} {ms : Nat → Nat} : clM (nI 2) v br ag ms ↔ nI ag ≤ v := by
  unfold clM
  refine ⟨fun h => h.2.2.1 rfl, fun h => ⟨fun e => absurd e (by decide), fun e => absurd e (by decide), fun _ => h, fun m hm e => ?_, fun m hm e => ?_⟩⟩
  · have := (nI_eq (a := 2) (by omega) (by omega)).mp e; omega
  · have := (nI_eq (a := 2) (by omega) (by omega)).mp e; omega
theorem cl_3 {v : Int32} {br ag m : Nat} {ms : Nat → Nat} (hm : m < 3) : clM (nI (3 + m)) v br ag ms ↔ v < nI (ms m) := by
  unfold clM
  refine ⟨fun h => h.2.2.2.1 m hm rfl, fun h => ⟨fun e => ?_, fun e => ?_, fun e => ?_, fun k hk e => ?_, fun k hk e => ?_⟩⟩
  · have := (nI_eq (b := 0) (by omega) (by omega)).mp e; omega
  · have := (nI_eq (b := 1) (by omega) (by omega)).mp e; omega
  · have := (nI_eq (b := 2) (by omega) (by omega)).mp e; omega
  · have := (nI_eq (by omega) (by omega)).mp e
    rw [show k = m by omega]; exact h
  · have := (nI_eq (by omega) (by omega)).mp e; omega
theorem cl_6 {v : Int32} {br ag m : Nat} {ms : Nat → Nat} (hm : m < 3) : clM (nI (6 + m)) v br ag ms ↔ nI (ms m) < v := by
  unfold clM
  refine ⟨fun h => h.2.2.2.2 m hm rfl, fun h => ⟨fun e => ?_, fun e => ?_, fun e => ?_, fun k hk e => ?_, fun k hk e => ?_⟩⟩
  · have := (nI_eq (b := 0) (by omega) (by omega)).mp e; omega
  · have := (nI_eq (b := 1) (by omega) (by omega)).mp e; omega
  · have := (nI_eq (b := 2) (by omega) (by omega)).mp e; omega
  · have := (nI_eq (by omega) (by omega)).mp e; omega
  · have := (nI_eq (by omega) (by omega)).mp e
    rw [show k = m by omega]; exact h
