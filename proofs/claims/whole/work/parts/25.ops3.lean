section OPS3
variable {l : Launch} {w : Nat → Nat} {nb : Nat} {F A : MI}
def bM (x : Int32) (k : Nat) : Int32 := (x >>> (nI (8 * k) &&& 31)).toInt8.toInt32
def bX (x : Int32) (k : Nat) : Int32 := ((x.toUInt32 >>> ((nI (8 * k)).toUInt32 &&& Int32.toUInt32 31)).toInt32) &&& 255
theorem bX_bM (x : Int32) {k : Nat} (hk : k < 4) : bX x k = bM x k &&& 255 := by
  unfold bX bM
  rw [bp_b]
  apply b_ext
  intro i hi
  rw [b_and, b_and, b_255, b_ushr (8 * k) (by omega), b_sshr (8 * k) (by omega) x hi]
  by_cases h : i < 8
  · rw [if_pos (by omega)]
  · simp [h]
theorem nI_m8 (k : Nat) : nI (8 * (k + 1)) + (-8) = nI (8 * k) := by
  have e : (-8 : Int32) = -(nI 8) := rfl
  rw [e, ← Int32.sub_eq_add_neg, pk_sub (by omega)]
  congr 1
theorem push_loop {x1 : Int32} {P : MI → MI → Prop} : ∀ (k m : Nat) (x2 : Int32) (F A : MI), k ≤ 4 → F 321 122 = nI m → m + k ≤ 80 → x2 = nI (8 * k) + (-8) → (∀ F' A', (∀ f a, ¬ (f = 321 ∧ a = 122) → F' f a = F f a) → F' 321 122 = nI (m + k) → (∀ a j, ¬ (a = 123 ∧ m ≤ j ∧ j < m + k) → A' a j = A a j) → (∀ i, i < k → A' 123 (m + i) = bM x1 (k - 1 - i)) → P F' A') → ZM l mX8_push 1 w nb (qv P) 3 [(0, .ref 122), (1, .int x1), (2, .int x2)] [] F A
  | 0, m, x2, F, A, _, hm, _, hx, hP => by
    subst hx
    refine vX8_push_3 ⟨fun _ => ⟨rfl, hP F A (fun _ _ _ => rfl) hm (fun _ _ _ => rfl) (fun i hi => absurd hi (Nat.not_lt_zero i))⟩, fun h => absurd (by decide) h⟩
  | k + 1, m, x2, F, A, hk, hm, h80, hx, hP => by
    rw [nI_m8] at hx
    subst hx
    refine vX8_push_3 ⟨fun h => absurd h (nI_pos (by omega)), fun _ => ?_⟩
    rw [hm, nI_clamp (by omega), fb_byte_twice]
    refine ⟨vp_in_nI (by omega) (by decide), push_loop k (m + 1) _ _ _ (by omega) (by rw [u2_s, nI_1]) (by omega) rfl (fun F' A' g1 g2 g3 g4 => hP F' A' (fun f a h => (g1 f a h).trans (u2_ne h)) (by rw [g2]; congr 1; omega) (fun a j h => ?_) (fun i hi => ?_))⟩
    · rw [g3 a j (by omega), u2_ne (by omega)]
    · cases i with
      | zero =>
        rw [Nat.add_zero, g3 123 m (by omega), u2_s]
        rfl
      | succ i =>
        have := g4 i (by omega)
        rw [show m + (i + 1) = m + 1 + i by omega, this]
        congr 1; omega
theorem append_loop {x1 : Int32} {P : MI → MI → Prop} : ∀ (k m : Nat) (x2 : Int32) (F A : MI), k ≤ 4 → F 201 2 = nI m → m + k ≤ 80 → x2 = nI (8 * k) + (-8) → (∀ F' A', (∀ f a, ¬ (f = 201 ∧ a = 2) → F' f a = F f a) → F' 201 2 = nI (m + k) → (∀ a j, ¬ (a = 3 ∧ m ≤ j ∧ j < m + k) → A' a j = A a j) → (∀ i, i < k → A' 3 (m + i) = bX x1 (k - 1 - i)) → P F' A') → ZM l mX5_append 1 w nb (qv P) 3 [(0, .ref 2), (1, .int x1), (2, .int x2)] [] F A
  | 0, m, x2, F, A, _, hm, _, hx, hP => by
    subst hx
    refine vX5_append_3 ⟨fun _ => ⟨rfl, hP F A (fun _ _ _ => rfl) hm (fun _ _ _ => rfl) (fun i hi => absurd hi (Nat.not_lt_zero i))⟩, fun h => absurd (by decide) h⟩
  | k + 1, m, x2, F, A, hk, hm, h80, hx, hP => by
    rw [nI_m8] at hx
    subst hx
    refine vX5_append_3 ⟨fun h => absurd h (nI_pos (by omega)), fun _ => ?_⟩
    rw [hm, nI_clamp (by omega)]
    refine ⟨fun h => absurd h (nI_ge (a := m) (b := 80) (by omega) (by decide)), fun _ => ⟨vp_in_nI (by omega) (by decide), append_loop k (m + 1) _ _ _ (by omega) (by rw [u2_s, nI_1]) (by omega) rfl (fun F' A' g1 g2 g3 g4 => hP F' A' (fun f a h => (g1 f a h).trans (u2_ne h)) (by rw [g2]; congr 1; omega) (fun a j h => ?_) (fun i hi => ?_))⟩⟩
    · rw [g3 a j (by omega), u2_ne (by omega)]
    · cases i with
      | zero =>
        rw [Nat.add_zero, g3 3 m (by omega), u2_s]
        rfl
      | succ i =>
        have := g4 i (by omega)
        rw [show m + (i + 1) = m + 1 + i by omega, this]
        congr 1; omega
/-- one int behind the tape -/
def Ext (B : Int32 → Nat → Int32) (cF aF cA m : Nat) (x : Int32) (F A F' A' : MI) : Prop := (∀ f a, ¬ (f = cF ∧ a = aF) → F' f a = F f a) ∧ F' cF aF = nI (m + 4) ∧ (∀ a j, ¬ (a = cA ∧ m ≤ j ∧ j < m + 4) → A' a j = A a j) ∧ ∀ i, i < 4 → A' cA (m + i) = B x (3 - i)
theorem s_push {x1 : Int32} {m : Nat} {P : MI → MI → Prop} (hm : F 321 122 = nI m) (h : m + 4 ≤ 80) (hP : ∀ F' A', Ext bM 321 122 123 m x1 F A F' A' → P F' A') : CM l mX8_push 1 w nb [.ref 122, .int x1] F A (qv P) :=
  kX8_push (push_loop 4 m 24 F A (by decide) hm h rfl (fun F' A' g1 g2 g3 g4 => hP F' A' ⟨g1, g2, g3, fun i hi => by rw [g4 i hi]⟩))
theorem s_append {x1 : Int32} {m : Nat} {P : MI → MI → Prop} (hm : F 201 2 = nI m) (h : m + 4 ≤ 80) (hP : ∀ F' A', Ext bX 201 2 3 m x1 F A F' A' → P F' A') : CM l mX5_append 1 w nb [.ref 2, .int x1] F A (qv P) :=
  kX5_append (append_loop 4 m 24 F A (by decide) hm h rfl (fun F' A' g1 g2 g3 g4 => hP F' A' ⟨g1, g2, g3, fun i hi => by rw [g4 i hi]⟩))
/-- five ints behind the tape -/
def Ext5 (B : Int32 → Nat → Int32) (cF aF cA m : Nat) (x : Nat → Int32) (F A F' A' : MI) : Prop := (∀ f a, ¬ (f = cF ∧ a = aF) → F' f a = F f a) ∧ F' cF aF = nI (m + 20) ∧ (∀ a j, ¬ (a = cA ∧ m ≤ j ∧ j < m + 20) → A' a j = A a j) ∧ ∀ q i, q < 5 → i < 4 → A' cA (m + 4 * q + i) = B (x q) (3 - i)
def five (x1 x2 x3 x4 x5 : Int32) : Nat → Int32 | 0 => x1 | 1 => x2 | 2 => x3 | 3 => x4 | _ => x5
theorem ext5 {B : Int32 → Nat → Int32} {cF aF cA m : Nat} {x1 x2 x3 x4 x5 : Int32} {F A F1 A1 F2 A2 F3 A3 F4 A4 F5 A5 : MI} (h1 : Ext B cF aF cA m x1 F A F1 A1) (h2 : Ext B cF aF cA (m + 4) x2 F1 A1 F2 A2) (h3 : Ext B cF aF cA (m + 8) x3 F2 A2 F3 A3) (h4 : Ext B cF aF cA (m + 12) x4 F3 A3 F4 A4) (h5 : Ext B cF aF cA (m + 16) x5 F4 A4 F5 A5) : Ext5 B cF aF cA m (five x1 x2 x3 x4 x5) F A F5 A5 := by
  refine ⟨fun f a h => ((h5.1 f a h).trans ((h4.1 f a h).trans ((h3.1 f a h).trans ((h2.1 f a h).trans (h1.1 f a h))))), h5.2.1, fun a j h => ?_, fun q i hq hi => ?_⟩
  · rw [h5.2.2.1 a j (by omega), h4.2.2.1 a j (by omega), h3.2.2.1 a j (by omega), h2.2.2.1 a j (by omega), h1.2.2.1 a j (by omega)]
  · match q, hq with
    | 0, _ => rw [h5.2.2.1 _ _ (by omega), h4.2.2.1 _ _ (by omega), h3.2.2.1 _ _ (by omega), h2.2.2.1 _ _ (by omega)]; exact h1.2.2.2 i hi
    | 1, _ => rw [h5.2.2.1 _ _ (by omega), h4.2.2.1 _ _ (by omega), h3.2.2.1 _ _ (by omega)]; exact h2.2.2.2 i hi
    | 2, _ => rw [h5.2.2.1 _ _ (by omega), h4.2.2.1 _ _ (by omega)]; exact h3.2.2.2 i hi
    | 3, _ => rw [h5.2.2.1 _ _ (by omega)]; exact h4.2.2.2 i hi
    | 4, _ => exact h5.2.2.2 i hi
theorem room20 {n : Nat} (hn : n ≤ 80) : nI n + 20 = nI (n + 20) := by rw [nI_lit 20, nI_add]
theorem op_feed {x1 x2 x3 x4 x5 : Int32} (hw : TW w) (hI : Inv w nb F A) : CM l mX7_feed 2 w nb [.ref 1, .int x1, .int x2, .int x3, .int x4, .int x5] F A (qi fun r F A => CM l mX8_feed 2 w nb [.ref 122, .int x1, .int x2, .int x3, .int x4, .int x5] F A (qi fun r' F A => r = r' ∧ Inv w nb F A)) := by
  obtain ⟨⟨n, hn, t1, t2⟩, hT⟩ := id hI.1
  refine kX7_feed (kX5_hasRoom ?_)
  rw [t1, room20 hn]
  refine ⟨fun h => ⟨0, rfl, n0 ⟨-1, rfl, kX8_feed ?_⟩⟩, fun h => ⟨1, rfl, n1 ?_⟩⟩
  · rw [t2, room20 hn]
    refine ⟨fun h2 => ?_, fun _ => ⟨-1, rfl, rfl, hI⟩⟩
    have a1 := i_lt.mp h
    have a2 := i_le.mp h2
    omega
  · have hle : n + 20 ≤ 80 := by
      rcases Nat.lt_or_ge 80 (n + 20) with q | q
      · exact absurd (nI_lt (a := 80) q (by omega)) h
      · exact q
    refine s_append (m := n) t1 (by omega) (fun F1 A1 g1 => s_append (m := n + 4) g1.2.1 (by omega) (fun F2 A2 g2 => s_append (m := n + 8) g2.2.1 (by omega) (fun F3 A3 g3 => s_append (m := n + 12) g3.2.1 (by omega) (fun F4 A4 g4 => s_append (m := n + 16) g4.2.1 (by omega) (fun F5 A5 g5 => kX5_length ?_)))))
    have gx := ext5 g1 g2 g3 g4 g5
    refine ⟨_, rfl, _, rfl, kX8_feed ?_⟩
    have u2' : F5 321 122 = nI n := (gx.1 321 122 (by omega)).trans t2
    rw [u2', room20 hn]
    refine ⟨fun _ => ?_, fun h2 => absurd (nI_le (b := 80) hle (by decide)) h2⟩
    refine s_push (m := n) u2' (by omega) (fun H1 B1 k1 => s_push (m := n + 4) k1.2.1 (by omega) (fun H2 B2 k2 => s_push (m := n + 8) k2.2.1 (by omega) (fun H3 B3 k3 => s_push (m := n + 12) k3.2.1 (by omega) (fun H4 B4 k4 => s_push (m := n + 16) k4.2.1 (by omega) (fun H5 B5 k5 => ?_)))))
    have gm := ext5 k1 k2 k3 k4 k5
    have e1 : H5 201 2 = nI (n + 20) := (gm.1 201 2 (by omega)).trans gx.2.1
    refine ⟨_, rfl, ?_, ?_⟩
    · rw [gx.2.1, gm.2.1]
    · refine hI.exc hw (fun f a => (f = 201 ∧ a = 2) ∨ (f = 321 ∧ a = 122)) (fun a => a = 3 ∨ a = 123) (fun f a q => (gm.1 f a (by omega)).trans (gx.1 f a (by omega))) (fun a j q => (gm.2.2.1 a j (by omega)).trans (gx.2.2.1 a j (by omega))) (Or.inr (⟨⟨n + 20, by omega, e1, gm.2.1⟩, fun i hi => ?_⟩)) (Or.inl ⟨by omega, by omega, fun k i => by omega, fun a _ _ => by omega, fun i => by omega⟩) (Or.inl ⟨by omega, by omega⟩) (Or.inl ⟨by omega, by omega⟩) (Or.inl ⟨fun k c _ _ _ => by omega, by omega, by omega⟩) (Or.inl ⟨⟨by omega, by omega, by omega⟩, fun d _ => ⟨by omega, by omega, by omega⟩, fun a _ _ => by omega⟩) (Or.inl ⟨fun c _ => by omega, by omega⟩) (Or.inl ⟨by omega, fun c d _ _ _ => by omega, by omega, by omega⟩) (Or.inl ⟨fun c _ => by omega, by omega, fun c _ => by omega, by omega, by omega⟩) (Or.inl (fun a _ _ => by omega))
      by_cases hin : n ≤ i ∧ i < n + 20
      · obtain ⟨q, k, hq, hk, e⟩ : ∃ q k, q < 5 ∧ k < 4 ∧ i = n + 4 * q + k := ⟨(i - n) / 4, (i - n) % 4, by omega, by omega, by omega⟩
        subst e
        rw [gm.2.2.1 3 _ (by omega), gx.2.2.2 q k hq hk, gm.2.2.2 q k hq hk]
        refine ⟨bX_bM _ (by omega), ?_⟩
        unfold bM
        exact fb_byte_twice _
      · rw [gm.2.2.1 3 i (by omega), gx.2.2.1 3 i (by omega), gm.2.2.1 123 i (by omega), gx.2.2.1 123 i (by omega)]
        exact hT i hi
end OPS3
