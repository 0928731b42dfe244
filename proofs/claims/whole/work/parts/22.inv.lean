/-! What both sides hold, word by word -/
def I1 (F A : MI) : Prop := (∃ n, n ≤ 80 ∧ F 201 2 = nI n ∧ F 321 122 = nI n) ∧ ∀ i, i < 80 → A 3 i = A 123 i &&& 255 ∧ (A 123 i).toInt8.toInt32 = A 123 i
/-- BEAST i as both sides have it -/
def Bst (F A : MI) (i b a s h : Nat) : Prop := b < 4 ∧ a ≤ 200 ∧ s < 10 ∧ h < 10 ∧ F 0 (147 + 2 * i) = nI b ∧ A 124 i = nI b ∧ F 1 (147 + 2 * i) = nI a ∧ A 125 i = nI a ∧ F 2 (147 + 2 * i) = nI s ∧ A 126 i = nI s ∧ F 3 (147 + 2 * i) = nI h ∧ A 127 i = nI h
def I2 (nb : Nat) (F A : MI) : Prop := F 288 1 = nI nb ∧ F 322 122 = nI nb ∧ nb ≤ 20 ∧ (∀ i, i < nb → ∃ b a s h, Bst F A i b a s h) ∧ (∀ i, i < nb → ∀ m, m < 3 → ∃ v, v ≤ 99 ∧ A (148 + 2 * i) m = nI v ∧ A 128 (3 * i + m) = nI v) ∧ (∀ j, 3 * nb ≤ j → j < 60 → A 128 j = 0)
def I3 (F : MI) : Prop := ∃ s, 1 ≤ s ∧ s ≤ 3 ∧ F 289 1 = nI s ∧ F 323 122 = nI s
def I4 (A : MI) : Prop := ∀ j, j < 6 → A 6 j = A 136 j
/-- how many are in a set -/
def pcn (e : Int32) : Nat := fb_ct (bt e) 32
def I5 (nb : Nat) (F A : MI) : Prop := ∀ c, c < 6 → F 160 (38 + 14 * c) = A 134 c ∧ F 162 (38 + 14 * c) = A 135 c ∧ F 161 (38 + 14 * c) = nI (pcn (A 134 c)) ∧ pcn (A 134 c) ≤ 8 ∧ (∀ b, bt (A 134 c) b = true → b < nb) ∧ (∀ b, bt (A 135 c) b = true → b < nb)
/-- a TEXT as X holds it, and as M does -/
def letX (F A : MI) (t br ag : Nat) (ms : Nat → Nat) : Prop := bt (F 42 t) br = true ∧ A (t + 1) 0 ≤ nI ag ∧ nI ag ≤ A (t + 2) 0 ∧ ∀ m, m < 3 → A (t + 1) (1 + m) ≤ nI (ms m) ∧ nI (ms m) ≤ A (t + 2) (1 + m)
def clM (wh v : Int32) (br ag : Nat) (ms : Nat → Nat) : Prop := (wh = 0 → bt v br = true) ∧ (wh = 1 → v ≤ nI ag) ∧ (wh = 2 → nI ag ≤ v) ∧ (∀ m, m < 3 → wh = nI (3 + m) → v < nI (ms m)) ∧ (∀ m, m < 3 → wh = nI (6 + m) → nI (ms m) < v)
def letM (A : MI) (c br ag : Nat) (ms : Nat → Nat) : Prop := ∀ k, k < (A 129 c).toNatClampNeg → clM (A 130 (8 * c + k)) (A 131 (8 * c + k)) br ag ms
def I6 (w : Nat → Nat) (F A : MI) : Prop := ∀ c, c < 6 → (∃ k, k ≤ 8 ∧ A 129 c = nI k) ∧ (∀ k, k < (A 129 c).toNatClampNeg → ∃ wh, wh < 9 ∧ A 130 (8 * c + k) = nI wh) ∧ ∀ br ag ms, br < 4 → ag ≤ 200 → (∀ m, ms m ≤ 99) → (letX F A (w c) br ag ms ↔ letM A c br ag ms)
def I7 (A : MI) : Prop := ∀ c i, c < 6 → i < 3 → ∃ v, v ≤ 15 ∧ A (38 + 14 * c + 13) i = nI v ∧ A 139 (3 * c + i) = nI v
/-- an ORDER that was told: t BEASTS, each once, all that are ENTERED among them -/
def Ord (A : MI) (c j t : Nat) (f : Nat → Nat) : Prop := (∀ k, k < t → f k < 20 ∧ A (38 + 14 * c + 5 + j) k = nI (f k) ∧ A 138 (8 * (6 * j + c) + k) = nI (f k)) ∧ (∀ i k, i < k → k < t → f i ≠ f k) ∧ ∀ b, bt (A 134 c) b = true → ∃ k, k < t ∧ f k = b
def I8 (A : MI) : Prop := ∀ c j, c < 6 → j < 6 → ∃ t, t ≤ 8 ∧ A (38 + 14 * c + 11) j = nI t ∧ A 137 (6 * j + c) = nI t ∧ (0 < t → ∃ f, Ord A c j t f) ∧ ∀ k, k < 8 → A (38 + 14 * c + 5 + j) k = A 138 (8 * (6 * j + c) + k)
/-- in how many ORDERS a stands ahead of b -/
def posM (A : MI) (c j a : Nat) : Nat := fa_first (fun k => A 138 (8 * (6 * j + c) + k) == nI a) 8
def winM (A : MI) (c a b : Nat) : Nat := fb_ct (fun j => decide (A 137 (6 * j + c) ≠ 0) && decide (posM A c j a < posM A c j b)) 6
/-- the same, as X holds the ORDERS -/
def posX (A : MI) (c j a : Nat) : Nat := fa_first (fun k => A (38 + 14 * c + 5 + j) k == nI a) 8
def winX (A : MI) (c a b : Nat) : Nat := fb_ct (fun j => decide (A (38 + 14 * c + 11) j ≠ 0) && decide (posX A c j a < posX A c j b)) 6
/-- the k-th of a set -/
def mbr (e : Int32) (k : Nat) : Nat := fa_first (fun b => bt e b && (fb_ct (bt e) b == k)) 32
def dcs (W : Nat → Nat → Nat) (n x s : Nat) : Nat := fb_sm (fun y => if s.testBit y = true then W y x else 0) n
/-- the least of g over those below k that p says, if there is one -/
def mn (p : Nat → Bool) (g : Nat → Nat) : Nat → Option Nat
  | 0 => none
  | k + 1 => if p k = true then some (match mn p g k with | none => g k | some v => if g k < v then g k else v) else mn p g k
theorem tb_le {s x : Nat} (h : s.testBit x = true) : 2 ^ x ≤ s := Nat.ge_two_pow_of_testBit h
/-- the fewest SWAPS of a row of the set s -/
def Lf (W : Nat → Nat → Nat) (n s : Nat) : Nat := (mn (fun x => s.testBit x) (fun x => if h : s.testBit x = true then dcs W n x s + Lf W n (s - 2 ^ x) else 0) n).getD 0
termination_by s
decreasing_by exact Nat.sub_lt (Nat.lt_of_lt_of_le (Nat.two_pow_pos x) (tb_le h)) (Nat.two_pow_pos x)
/-- who stands first in the least row of fewest SWAPS of s -/
def pick (W : Nat → Nat → Nat) (n s : Nat) : Nat := fa_first (fun x => s.testBit x && (dcs W n x s + Lf W n (s - 2 ^ x) == Lf W n s)) n
def ssq (W : Nat → Nat → Nat) (n : Nat) : Nat → Nat
  | 0 => 2 ^ n - 1
  | k + 1 => ssq W n k - 2 ^ pick W n (ssq W n k)
/-- the wins by places in the set -/
def WS (A : MI) (c : Nat) : Nat → Nat → Nat := fun x y => winM A c (mbr (A 134 c) x) (mbr (A 134 c) y)
/-- THE JOINED ORDER of CLASS c: fewest SWAPS, and its k-th BEAST -/
def fwM (A : MI) (c : Nat) : Nat := Lf (WS A c) (pcn (A 134 c)) (2 ^ pcn (A 134 c) - 1)
def rowM (A : MI) (c k : Nat) : Nat := mbr (A 134 c) (pick (WS A c) (pcn (A 134 c)) (ssq (WS A c) (pcn (A 134 c)) k))
def I9 (F A : MI) : Prop := ∀ c, c < 6 → F 167 (38 + 14 * c) = nI (fwM A c) ∧ ∀ k, k < pcn (A 134 c) → A (38 + 14 * c + 12) k = nI (rowM A c k)
/-- the empty set's words of the Joiner -/
def I10 (A : MI) : Prop := (∀ b, b < 8 → A (20 + b) 0 = 0) ∧ A 28 0 = 0
def Inv (w : Nat → Nat) (nb : Nat) (F A : MI) : Prop := I1 F A ∧ I2 nb F A ∧ I3 F ∧ I4 A ∧ I5 nb F A ∧ I6 w F A ∧ I7 A ∧ I8 A ∧ I9 F A ∧ I10 A
section CONG
variable {w : Nat → Nat} {nb : Nat} {F F' A A' : MI}
theorem I1.cong (h : I1 F A) (f1 : F' 201 2 = F 201 2) (f2 : F' 321 122 = F 321 122) (a1 : ∀ j, A' 3 j = A 3 j) (a2 : ∀ j, A' 123 j = A 123 j) : I1 F' A' := by
  unfold I1 at h ⊢; rw [f1, f2]; simp only [a1, a2]; exact h
theorem I2.cong (h : I2 nb F A) (f1 : F' 288 1 = F 288 1) (f2 : F' 322 122 = F 322 122) (f3 : ∀ k i, F' k (147 + 2 * i) = F k (147 + 2 * i)) (a1 : ∀ a j, 124 ≤ a → a ≤ 128 → A' a j = A a j) (a2 : ∀ i j, A' (148 + 2 * i) j = A (148 + 2 * i) j) : I2 nb F' A' := by
  unfold I2 Bst at h ⊢; rw [f1, f2]
  simp only [f3, a2, a1 124 _ (by decide) (by decide), a1 125 _ (by decide) (by decide), a1 126 _ (by decide) (by decide), a1 127 _ (by decide) (by decide), a1 128 _ (by decide) (by decide)]
  exact h
theorem I3.cong (h : I3 F) (f1 : F' 289 1 = F 289 1) (f2 : F' 323 122 = F 323 122) : I3 F' := by
  unfold I3 at h ⊢; rw [f1, f2]; exact h
theorem I4.cong (h : I4 A) (a1 : ∀ j, A' 6 j = A 6 j) (a2 : ∀ j, A' 136 j = A 136 j) : I4 A' := by
  unfold I4 at h ⊢; simp only [a1, a2]; exact h
theorem I5.cong (h : I5 nb F A) (f1 : ∀ k c, c < 6 → 160 ≤ k → k ≤ 162 → F' k (38 + 14 * c) = F k (38 + 14 * c)) (a1 : ∀ j, A' 134 j = A 134 j) (a2 : ∀ j, A' 135 j = A 135 j) : I5 nb F' A' := by
  intro c hc
  rw [f1 160 c hc (by decide) (by decide), f1 161 c hc (by decide) (by decide), f1 162 c hc (by decide) (by decide), a1, a2]
  exact h c hc
theorem I6.cong (h : I6 w F A) (f1 : ∀ c, c < 6 → F' 42 (w c) = F 42 (w c)) (a0 : ∀ a j, 129 ≤ a → a ≤ 131 → A' a j = A a j) (a1 : ∀ c j, c < 6 → A' (w c + 1) j = A (w c + 1) j) (a2 : ∀ c j, c < 6 → A' (w c + 2) j = A (w c + 2) j) : I6 w F' A' := by
  intro c hc
  unfold letX letM
  simp only [f1 c hc, a0 129 _ (by decide) (by decide), a0 130 _ (by decide) (by decide), a0 131 _ (by decide) (by decide), a1 c _ hc, a2 c _ hc]
  exact h c hc
theorem I7.cong (h : I7 A) (a1 : ∀ c j, c < 6 → A' (38 + 14 * c + 13) j = A (38 + 14 * c + 13) j) (a2 : ∀ j, A' 139 j = A 139 j) : I7 A' := by
  intro c i hc hi
  rw [a1 c i hc, a2]
  exact h c i hc hi
theorem I8.cong (h : I8 A) (a0 : ∀ j, A' 134 j = A 134 j) (a1 : ∀ c d j, c < 6 → 5 ≤ d → d ≤ 11 → A' (38 + 14 * c + d) j = A (38 + 14 * c + d) j) (a2 : ∀ j, A' 137 j = A 137 j) (a3 : ∀ j, A' 138 j = A 138 j) : I8 A' := by
  intro c j hc hj
  obtain ⟨t, h1, h2, h3, h4, h5⟩ := h c j hc hj
  refine ⟨t, h1, by rw [a1 c 11 _ hc (by decide) (by decide)]; exact h2, by rw [a2]; exact h3, fun ht => ?_, fun k hk => by rw [Nat.add_assoc, a1 c (5 + j) k hc (by omega) (by omega), a3, ← Nat.add_assoc]; exact h5 k hk⟩
  obtain ⟨f, g1, g2, g3⟩ := h4 ht
  refine ⟨f, fun k hk => ?_, g2, fun b hb => g3 b (by rw [← a0]; exact hb)⟩
  rw [Nat.add_assoc, a1 c (5 + j) k hc (by omega) (by omega), a3, ← Nat.add_assoc]
  exact g1 k hk
theorem winM_cong (a2 : ∀ j, A' 137 j = A 137 j) (a3 : ∀ j, A' 138 j = A 138 j) : winM A' = winM A := by
  funext c a b
  unfold winM posM
  simp only [a2, a3]
theorem WS_cong (a0 : ∀ j, A' 134 j = A 134 j) (a2 : ∀ j, A' 137 j = A 137 j) (a3 : ∀ j, A' 138 j = A 138 j) (c : Nat) : WS A' c = WS A c := by
  unfold WS
  rw [winM_cong a2 a3, a0]
theorem fwM_cong (a0 : ∀ j, A' 134 j = A 134 j) (a2 : ∀ j, A' 137 j = A 137 j) (a3 : ∀ j, A' 138 j = A 138 j) (c : Nat) : fwM A' c = fwM A c := by
  unfold fwM
  rw [WS_cong a0 a2 a3, a0]
theorem rowM_cong (a0 : ∀ j, A' 134 j = A 134 j) (a2 : ∀ j, A' 137 j = A 137 j) (a3 : ∀ j, A' 138 j = A 138 j) (c k : Nat) : rowM A' c k = rowM A c k := by
  unfold rowM
  rw [WS_cong a0 a2 a3, a0]
theorem I9.cong (h : I9 F A) (f1 : ∀ c, c < 6 → F' 167 (38 + 14 * c) = F 167 (38 + 14 * c)) (a0 : ∀ j, A' 134 j = A 134 j) (a1 : ∀ c j, c < 6 → A' (38 + 14 * c + 12) j = A (38 + 14 * c + 12) j) (a2 : ∀ j, A' 137 j = A 137 j) (a3 : ∀ j, A' 138 j = A 138 j) : I9 F' A' := by
  intro c hc
  rw [fwM_cong a0 a2 a3, f1 c hc, a0]
  refine ⟨(h c hc).1, fun k hk => ?_⟩
  rw [a1 c k hc, rowM_cong a0 a2 a3]
  exact (h c hc).2 k hk
theorem I10.cong (h : I10 A) (a1 : ∀ a j, 20 ≤ a → a ≤ 28 → A' a j = A a j) : I10 A' := ⟨fun b hb => by rw [a1 _ _ (by omega) (by omega)]; exact h.1 b hb, by rw [a1 _ _ (by decide) (by decide)]; exact h.2⟩
/-- cells that no part of Inv looks at -/
def scF (f a : Nat) : Prop := a = 7 ∨ a = 34 ∨ (a = 2 ∧ f ≠ 201) ∨ (a = 122 ∧ f ≠ 321 ∧ f ≠ 322 ∧ f ≠ 323)
def scA (a : Nat) : Prop := (8 ≤ a ∧ a ≤ 19) ∨ (29 ≤ a ∧ a ≤ 33) ∨ a = 132 ∨ a = 133 ∨ (140 ≤ a ∧ a ≤ 146)
theorem w_tx (hw : ∀ c, c < 7 → isTx (w c)) {c : Nat} (hc : c < 6) : w c = 35 ∨ ∃ d, d < 6 ∧ w c = 39 + 14 * d := hw c (by omega)
theorem Inv.frame (h : Inv w nb F A) (hw : ∀ c, c < 7 → isTx (w c)) (hF : ∀ f a, ¬ scF f a → F' f a = F f a) (hA : ∀ a j, ¬ scA a → A' a j = A a j) : Inv w nb F' A' := by
  obtain ⟨h1, h2, h3, h4, h5, h6, h7, h8, h9, h10⟩ := h
  have nF : ∀ f a, ¬ scF f a → F' f a = F f a := hF
  refine ⟨h1.cong (hF _ _ (by unfold scF; omega)) (hF _ _ (by unfold scF; omega)) (fun j => hA _ _ (by unfold scA; omega)) (fun j => hA _ _ (by unfold scA; omega)), h2.cong (hF _ _ (by unfold scF; omega)) (hF _ _ (by unfold scF; omega)) (fun k i => hF _ _ (by unfold scF; omega)) (fun a j _ _ => hA _ _ (by unfold scA; omega)) (fun i j => hA _ _ (by unfold scA; omega)), h3.cong (hF _ _ (by unfold scF; omega)) (hF _ _ (by unfold scF; omega)), h4.cong (fun j => hA _ _ (by unfold scA; omega)) (fun j => hA _ _ (by unfold scA; omega)), h5.cong (fun k c _ _ _ => hF _ _ (by unfold scF; omega)) (fun j => hA _ _ (by unfold scA; omega)) (fun j => hA _ _ (by unfold scA; omega)), h6.cong (fun c hc => hF _ _ ?_) (fun a j _ _ => hA _ _ (by unfold scA; omega)) (fun c j hc => hA _ _ ?_) (fun c j hc => hA _ _ ?_), h7.cong (fun c j _ => hA _ _ (by unfold scA; omega)) (fun j => hA _ _ (by unfold scA; omega)), h8.cong (fun j => hA _ _ (by unfold scA; omega)) (fun c d j _ _ _ => hA _ _ (by unfold scA; omega)) (fun j => hA _ _ (by unfold scA; omega)) (fun j => hA _ _ (by unfold scA; omega)), h9.cong (fun c _ => hF _ _ (by unfold scF; omega)) (fun j => hA _ _ (by unfold scA; omega)) (fun c j _ => hA _ _ (by unfold scA; omega)) (fun j => hA _ _ (by unfold scA; omega)) (fun j => hA _ _ (by unfold scA; omega)), h10.cong (fun a j _ _ => hA _ _ (by unfold scA; omega))⟩
  all_goals
    first | unfold scF | unfold scA
    rcases w_tx hw hc with e | ⟨d, hd, e⟩ <;> omega
/-- the text cells -/
def TW (w : Nat → Nat) : Prop := (∀ c, c < 7 → isTx (w c)) ∧ ∀ c d, c < 7 → d < 7 → w c = w d → c = d
def D1 (EF : Nat → Nat → Prop) (EA : Nat → Prop) : Prop := ¬ EF 201 2 ∧ ¬ EF 321 122 ∧ ¬ EA 3 ∧ ¬ EA 123
def D2 (EF : Nat → Nat → Prop) (EA : Nat → Prop) : Prop := ¬ EF 288 1 ∧ ¬ EF 322 122 ∧ (∀ k i, ¬ EF k (147 + 2 * i)) ∧ (∀ a, 124 ≤ a → a ≤ 128 → ¬ EA a) ∧ ∀ i, ¬ EA (148 + 2 * i)
def D3 (EF : Nat → Nat → Prop) : Prop := ¬ EF 289 1 ∧ ¬ EF 323 122
def D4 (EA : Nat → Prop) : Prop := ¬ EA 6 ∧ ¬ EA 136
def D5 (EF : Nat → Nat → Prop) (EA : Nat → Prop) : Prop := (∀ k c, c < 6 → 160 ≤ k → k ≤ 162 → ¬ EF k (38 + 14 * c)) ∧ ¬ EA 134 ∧ ¬ EA 135
def D6 (EF : Nat → Nat → Prop) (EA : Nat → Prop) : Prop := (¬ EF 42 35 ∧ ¬ EA (35 + 1) ∧ ¬ EA (35 + 2)) ∧ (∀ d, d < 6 → ¬ EF 42 (39 + 14 * d) ∧ ¬ EA (39 + 14 * d + 1) ∧ ¬ EA (39 + 14 * d + 2)) ∧ ∀ a, 129 ≤ a → a ≤ 131 → ¬ EA a
def D7 (EA : Nat → Prop) : Prop := (∀ c, c < 6 → ¬ EA (38 + 14 * c + 13)) ∧ ¬ EA 139
def D8 (EA : Nat → Prop) : Prop := ¬ EA 134 ∧ (∀ c d, c < 6 → 5 ≤ d → d ≤ 11 → ¬ EA (38 + 14 * c + d)) ∧ ¬ EA 137 ∧ ¬ EA 138
def D9 (EF : Nat → Nat → Prop) (EA : Nat → Prop) : Prop := (∀ c, c < 6 → ¬ EF 167 (38 + 14 * c)) ∧ ¬ EA 134 ∧ (∀ c, c < 6 → ¬ EA (38 + 14 * c + 12)) ∧ ¬ EA 137 ∧ ¬ EA 138
theorem D6.at {EF : Nat → Nat → Prop} {EA : Nat → Prop} (d : D6 EF EA) {t : Nat} (ht : isTx t) : ¬ EF 42 t ∧ ¬ EA (t + 1) ∧ ¬ EA (t + 2) := by
  rcases ht with rfl | ⟨c, hc, rfl⟩
  · exact d.1
  · exact d.2.1 c hc
theorem u2_ne {α : Type} {f : Nat → Nat → α} {i j a b : Nat} {v : α} (h : ¬ (a = i ∧ b = j)) : u2 f i j v a b = f a b := by
  unfold u2
  split
  · split
    · rename_i h1 h2; exact absurd ⟨h1, h2⟩ h
    · rfl
  · rfl
def D10 (EA : Nat → Prop) : Prop := ∀ a, 20 ≤ a → a ≤ 28 → ¬ EA a
/-- a change outside EF, EA: each part stays, or is shown anew -/
theorem Inv.exc (h : Inv w nb F A) (hw : TW w) (EF : Nat → Nat → Prop) (EA : Nat → Prop) (hF : ∀ f a, ¬ EF f a → F' f a = F f a) (hA : ∀ a j, ¬ EA a → A' a j = A a j)
    (c1 : D1 EF EA ∨ I1 F' A') (c2 : D2 EF EA ∨ I2 nb F' A') (c3 : D3 EF ∨ I3 F') (c4 : D4 EA ∨ I4 A') (c5 : D5 EF EA ∨ I5 nb F' A') (c6 : D6 EF EA ∨ I6 w F' A') (c7 : D7 EA ∨ I7 A') (c8 : D8 EA ∨ I8 A') (c9 : D9 EF EA ∨ I9 F' A') (c10 : D10 EA ∨ I10 A') : Inv w nb F' A' := by
  obtain ⟨h1, h2, h3, h4, h5, h6, h7, h8, h9, h10⟩ := h
  refine ⟨?_, ?_, ?_, ?_, ?_, ?_, ?_, ?_, ?_, ?_⟩
  · rcases c1 with d | d
    · exact h1.cong (hF _ _ d.1) (hF _ _ d.2.1) (fun j => hA _ _ d.2.2.1) (fun j => hA _ _ d.2.2.2)
    · exact d
  · rcases c2 with d | d
    · exact h2.cong (hF _ _ d.1) (hF _ _ d.2.1) (fun k i => hF _ _ (d.2.2.1 k i)) (fun a j q1 q2 => hA _ _ (d.2.2.2.1 a q1 q2)) (fun i j => hA _ _ (d.2.2.2.2 i))
    · exact d
  · rcases c3 with d | d
    · exact h3.cong (hF _ _ d.1) (hF _ _ d.2)
    · exact d
  · rcases c4 with d | d
    · exact h4.cong (fun j => hA _ _ d.1) (fun j => hA _ _ d.2)
    · exact d
  · rcases c5 with d | d
    · exact h5.cong (fun k c q1 q2 q3 => hF _ _ (d.1 k c q1 q2 q3)) (fun j => hA _ _ d.2.1) (fun j => hA _ _ d.2.2)
    · exact d
  · rcases c6 with d | d
    · exact h6.cong (fun c hc => hF _ _ (d.at (hw.1 c (by omega))).1) (fun a j q1 q2 => hA _ _ (d.2.2 a q1 q2)) (fun c j hc => hA _ _ (d.at (hw.1 c (by omega))).2.1) (fun c j hc => hA _ _ (d.at (hw.1 c (by omega))).2.2)
    · exact d
  · rcases c7 with d | d
    · exact h7.cong (fun c j hc => hA _ _ (d.1 c hc)) (fun j => hA _ _ d.2)
    · exact d
  · rcases c8 with d | d
    · exact h8.cong (fun j => hA _ _ d.1) (fun c e j q1 q2 q3 => hA _ _ (d.2.1 c e q1 q2 q3)) (fun j => hA _ _ d.2.2.1) (fun j => hA _ _ d.2.2.2)
    · exact d
  · rcases c9 with d | d
    · exact h9.cong (fun c hc => hF _ _ (d.1 c hc)) (fun j => hA _ _ d.2.1) (fun c j hc => hA _ _ (d.2.2.1 c hc)) (fun j => hA _ _ d.2.2.2.1) (fun j => hA _ _ d.2.2.2.2)
    · exact d
  · rcases c10 with d | d
    · exact h10.cong (fun a j q1 q2 => hA _ _ (d a q1 q2))
    · exact d
end CONG
