/-! the memory behind both constructors -/
def T0 : SH := (fun _ => 0, fun _ => 0, 0)
def F0i : MI := fun _ _ => 0
def G0i : MN := fun _ _ => 0
def sT1 : SH := T1 T0 0 7 0
def sF1 : MI := fr0 F0i 1
def sG1 : MN := frN G0i 1
def sT2 : SH := tX7 sT1 1
def sF2 : MI := fX7 sF1 1 1
def sG2 : MN := gX7 sG1 1 1
def sA2 : MI := aX7 F0i 1 1
def sB2 : MN := bX7 G0i 1
def sT3 : SH := T1 sT2 121 8 0
def sF3 : MI := fr0 sF2 122
def sG3 : MN := frN sG2 122
def sT4 : SH := tX8 sT3 122
def sF4 : MI := fX8 sF3 122 122
def sG4 : MN := gX8 sG3 122 122
def sA4 : MI := aX8 sA2 122 122
def sB4 : MN := bX8 sB2 122
def w0 : Nat → Nat := fun c => if c < 6 then 39 + 14 * c else 35
theorem sT2_n : sT2.2.2 = 121 := by decide +kernel
theorem w0_tx : ∀ c, c < 7 → isTx (w0 c) := by
  intro c hc
  unfold w0 isTx
  by_cases h : c < 6
  · rw [if_pos h]; exact Or.inr ⟨c, h, rfl⟩
  · rw [if_neg h]; exact Or.inl rfl
theorem w0_inj : ∀ c d, c < 7 → d < 7 → w0 c = w0 d → c = d := by
  intro c d hc hd h
  unfold w0 at h
  split at h <;> split at h <;> omega
theorem tw0 : TW w0 := ⟨w0_tx, w0_inj⟩
theorem ly0a : ∀ a, a < 147 → 1 ≤ a → sT4.1 a = (lyT.getD a (0, 0)).1 ∧ sT4.2.1 a = (lyT.getD a (0, 0)).2 := by decide +kernel
theorem ly0b : ∀ q ∈ lyG, sG4 q.1 q.2.1 = q.2.2 := by decide +kernel
theorem ly0c : ∀ q ∈ lyB, sB4 q.1 q.2.1 = q.2.2 := by decide +kernel
theorem ly0d : ∀ c, c < 6 → sG4 163 (38 + 14 * c) = w0 c := by decide +kernel
theorem ly0 : LY w0 0 sT4 sG4 sB4 := ⟨fun a h1 h2 => ly0a a (by omega) h1, by decide +kernel, ly0b, ly0c, ly0d, by decide +kernel, w0_tx, w0_inj, by omega, fun i hi => absurd hi (by omega)⟩
theorem in1 : I1 sF4 sA4 := ⟨⟨0, by omega, by decide +kernel, by decide +kernel⟩, by decide +kernel⟩
theorem in2 : I2 0 sF4 sA4 := by
  refine ⟨by decide +kernel, by decide +kernel, by omega, fun i hi => absurd hi (by omega), fun i hi => absurd hi (by omega), fun j _ hj => ?_⟩
  exact (show ∀ j, j < 60 → sA4 128 j = 0 by decide +kernel) j hj
theorem in3 : I3 sF4 := ⟨2, by omega, by omega, by decide +kernel, by decide +kernel⟩
theorem in4 : I4 sA4 := by unfold I4; decide +kernel
theorem in5a : ∀ c, c < 6 → sF4 160 (38 + 14 * c) = 0 ∧ sA4 134 c = 0 ∧ sF4 162 (38 + 14 * c) = 0 ∧ sA4 135 c = 0 ∧ sF4 161 (38 + 14 * c) = 0 ∧ sF4 167 (38 + 14 * c) = 0 := by decide +kernel
theorem pcn00 : pcn 0 = 0 := pcn_0
theorem in5 : I5 0 sF4 sA4 := by
  intro c hc
  obtain ⟨h1, h2, h3, h4, h5, h6⟩ := in5a c hc
  rw [h1, h2, h3, h4, h5, pcn00]
  exact ⟨rfl, rfl, rfl, by omega, fun b hb => (by rw [b_0] at hb; cases hb), fun b hb => (by rw [b_0] at hb; cases hb)⟩
theorem in6a : ∀ c, c < 6 → sA4 129 c = 0 ∧ sF4 42 (w0 c) = 15 ∧ ∀ k, k < 4 → sA4 (w0 c + 1) k = 0 ∧ sA4 (w0 c + 2) k = nI 9999 := by decide +kernel
theorem in6 : I6 w0 sF4 sA4 := by
  intro c hc
  obtain ⟨h1, h2, h3⟩ := in6a c hc
  have hz : (sA4 129 c).toNatClampNeg = 0 := by rw [h1]; decide +kernel
  refine ⟨⟨0, by omega, h1⟩, fun k hk => absurd hk (by omega), fun br ag ms hbr hag hms => ⟨fun _ => fun k hk => absurd hk (by omega), fun _ => ?_⟩⟩
  unfold letX
  rw [h2, (h3 0 (by omega)).1, (h3 0 (by omega)).2]
  refine ⟨(show ∀ br, br < 4 → bt 15 br = true by decide +kernel) br hbr, nI_pos' (by omega), nI_le (by omega) (by omega), fun m hm => ?_⟩
  have := hms m
  rw [(h3 (1 + m) (by omega)).1, (h3 (1 + m) (by omega)).2]
  exact ⟨nI_pos' (by omega), nI_le (by omega) (by omega)⟩
theorem in7a : ∀ c, c < 6 → ∀ i, i < 3 → sA4 (38 + 14 * c + 13) i = nI 3 ∧ sA4 139 (3 * c + i) = nI 3 := by decide +kernel
theorem in7 : I7 sA4 := fun c i hc hi => ⟨3, by omega, (in7a c hc i hi).1, (in7a c hc i hi).2⟩
theorem in8a : ∀ c, c < 6 → ∀ j, j < 6 → sA4 (38 + 14 * c + 11) j = nI 0 ∧ sA4 137 (6 * j + c) = nI 0 ∧ ∀ k, k < 8 → sA4 (38 + 14 * c + 5 + j) k = sA4 138 (8 * (6 * j + c) + k) := by decide +kernel
theorem in8 : I8 sA4 := fun c j hc hj => ⟨0, by omega, (in8a c hc j hj).1, (in8a c hc j hj).2.1, fun h => absurd h (by omega), (in8a c hc j hj).2.2⟩
theorem in9 : I9 sF4 sA4 := by
  intro c hc
  obtain ⟨h1, h2, h3, h4, h5, h6⟩ := in5a c hc
  have hf : fwM sA4 c = 0 := by
    unfold fwM
    rw [h2, pcn00, Lf]
    rfl
  rw [hf, h6, h2, pcn00]
  exact ⟨rfl, fun k hk => absurd hk (by omega)⟩
theorem in10 : I10 sA4 := by unfold I10; decide +kernel
theorem inv0 : Inv w0 0 sF4 sA4 := ⟨in1, in2, in3, in4, in5, in6, in7, in8, in9, in10⟩
