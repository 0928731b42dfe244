/-! the cells behind the two constructors: kind and length of each (cells 1 .. 146; BEAST i lies at 147 + 2 * i, its MEASURES behind it) -/
def lyT : List (Nat × Nat) := [(0, 0), (7, 0), (5, 0), (10, 80), (11, 20), (12, 6), (10, 6), (2, 0), (10, 8), (10, 20), (13, 8), (10, 8), (10, 8), (10, 8), (10, 8), (10, 8), (10, 8), (10, 8), (10, 8), (13, 8), (10, 256), (10, 256), (10, 256), (10, 256), (10, 256), (10, 256), (10, 256), (10, 256), (10, 256), (6, 0), (10, 6), (10, 6), (10, 6), (10, 6), (3, 0), (1, 0), (10, 4), (10, 4), (4, 0), (1, 0), (10, 4), (10, 4), (13, 6), (10, 8), (10, 8), (10, 8), (10, 8), (10, 8), (10, 8), (10, 6), (10, 8), (10, 3), (4, 0), (1, 0), (10, 4), (10, 4), (13, 6), (10, 8), (10, 8), (10, 8), (10, 8), (10, 8), (10, 8), (10, 6), (10, 8), (10, 3), (4, 0), (1, 0), (10, 4), (10, 4), (13, 6), (10, 8), (10, 8), (10, 8), (10, 8), (10, 8), (10, 8), (10, 6), (10, 8), (10, 3), (4, 0), (1, 0), (10, 4), (10, 4), (13, 6), (10, 8), (10, 8), (10, 8), (10, 8), (10, 8), (10, 8), (10, 6), (10, 8), (10, 3), (4, 0), (1, 0), (10, 4), (10, 4), (13, 6), (10, 8), (10, 8), (10, 8), (10, 8), (10, 8), (10, 8), (10, 6), (10, 8), (10, 3), (4, 0), (1, 0), (10, 4), (10, 4), (13, 6), (10, 8), (10, 8), (10, 8), (10, 8), (10, 8), (10, 8), (10, 6), (10, 8), (10, 3), (8, 0), (9, 80), (10, 20), (10, 20), (10, 20), (10, 20), (10, 60), (10, 6), (10, 48), (10, 48), (10, 8), (10, 8), (10, 6), (10, 6), (10, 6), (10, 36), (10, 288), (10, 18), (10, 8), (10, 64), (10, 256), (10, 8), (10, 6), (10, 6), (10, 20)]
def lyG : List (Nat × Nat × Nat) := [(280, 1, 2), (200, 2, 3), (281, 1, 4), (282, 1, 5), (283, 1, 6), (284, 1, 7), (80, 7, 8), (81, 7, 9), (83, 7, 10), (84, 7, 19), (85, 7, 28), (285, 1, 29), (240, 29, 30), (241, 29, 31), (242, 29, 32), (243, 29, 33), (286, 1, 34), (40, 35, 36), (41, 35, 37), (40, 39, 40), (41, 39, 41), (164, 38, 42), (165, 38, 49), (166, 38, 50), (168, 38, 51), (40, 53, 54), (41, 53, 55), (164, 52, 56), (165, 52, 63), (166, 52, 64), (168, 52, 65), (40, 67, 68), (41, 67, 69), (164, 66, 70), (165, 66, 77), (166, 66, 78), (168, 66, 79), (40, 81, 82), (41, 81, 83), (164, 80, 84), (165, 80, 91), (166, 80, 92), (168, 80, 93), (40, 95, 96), (41, 95, 97), (164, 94, 98), (165, 94, 105), (166, 94, 106), (168, 94, 107), (40, 109, 110), (41, 109, 111), (164, 108, 112), (165, 108, 119), (166, 108, 120), (168, 108, 121), (320, 122, 123), (324, 122, 124), (325, 122, 125), (326, 122, 126), (327, 122, 127), (328, 122, 128), (329, 122, 129), (330, 122, 130), (331, 122, 131), (333, 122, 132), (334, 122, 133), (335, 122, 134), (336, 122, 135), (337, 122, 136), (338, 122, 137), (339, 122, 138), (340, 122, 139), (346, 122, 140), (347, 122, 141), (348, 122, 142), (349, 122, 143), (351, 122, 144), (352, 122, 145), (353, 122, 146)]
def lyB : List (Nat × Nat × Nat) := [(10, 0, 11), (10, 1, 12), (10, 2, 13), (10, 3, 14), (10, 4, 15), (10, 5, 16), (10, 6, 17), (10, 7, 18), (19, 0, 20), (19, 1, 21), (19, 2, 22), (19, 3, 23), (19, 4, 24), (19, 5, 25), (19, 6, 26), (19, 7, 27), (5, 0, 38), (42, 0, 43), (42, 1, 44), (42, 2, 45), (42, 3, 46), (42, 4, 47), (42, 5, 48), (5, 1, 52), (56, 0, 57), (56, 1, 58), (56, 2, 59), (56, 3, 60), (56, 4, 61), (56, 5, 62), (5, 2, 66), (70, 0, 71), (70, 1, 72), (70, 2, 73), (70, 3, 74), (70, 4, 75), (70, 5, 76), (5, 3, 80), (84, 0, 85), (84, 1, 86), (84, 2, 87), (84, 3, 88), (84, 4, 89), (84, 5, 90), (5, 4, 94), (98, 0, 99), (98, 1, 100), (98, 2, 101), (98, 3, 102), (98, 4, 103), (98, 5, 104), (5, 5, 108), (112, 0, 113), (112, 1, 114), (112, 2, 115), (112, 3, 116), (112, 4, 117), (112, 5, 118)]
def isTx (t : Nat) : Prop := t = 35 ∨ ∃ c, c < 6 ∧ t = 39 + 14 * c
def LY (w : Nat → Nat) (nb : Nat) (T : SH) (G B : MN) : Prop :=
  (∀ a, 1 ≤ a → a ≤ 146 → T.1 a = (lyT.getD a (0, 0)).1 ∧ T.2.1 a = (lyT.getD a (0, 0)).2) ∧ T.2.2 = 146 + 2 * nb ∧ (∀ q ∈ lyG, G q.1 q.2.1 = q.2.2) ∧ (∀ q ∈ lyB, B q.1 q.2.1 = q.2.2) ∧
  (∀ c, c < 6 → G 163 (38 + 14 * c) = w c) ∧ G 287 1 = w 6 ∧ (∀ c, c < 7 → isTx (w c)) ∧ (∀ c d, c < 7 → d < 7 → w c = w d → c = d) ∧
  nb ≤ 20 ∧ (∀ i, i < nb → B 4 i = 147 + 2 * i ∧ T.1 (147 + 2 * i) = 0 ∧ T.1 (148 + 2 * i) = 10 ∧ T.2.1 (148 + 2 * i) = 3 ∧ G 4 (147 + 2 * i) = 148 + 2 * i)
section LAY
variable {w : Nat → Nat} {nb : Nat} {T : SH} {G B : MN}
def latB (a k : Nat) : Bool := decide (1 ≤ a) && decide (a ≤ 146) && ((lyT.getD a (0, 0)).1 == k)
def lnB (a n : Nat) : Bool := decide (1 ≤ a) && decide (a ≤ 146) && ((lyT.getD a (0, 0)).2 == n)
theorem lat (h : LY w nb T G B) {a k : Nat} (hb : latB a k = true) : At T a k := by
  simp only [latB, Bool.and_eq_true, decide_eq_true_eq, beq_iff_eq] at hb
  have h2 := h.2.1
  exact ⟨hb.1.1, by omega, (h.1 a hb.1.1 hb.1.2).1.trans hb.2⟩
theorem lln (h : LY w nb T G B) {a n : Nat} (hb : lnB a n = true) : T.2.1 a = n := by
  simp only [lnB, Bool.and_eq_true, decide_eq_true_eq, beq_iff_eq] at hb
  exact (h.1 a hb.1.1 hb.1.2).2.trans hb.2
theorem lgg (h : LY w nb T G B) {f a r : Nat} (hb : lyG.contains (f, a, r) = true) : G f a = r := h.2.2.1 (f, a, r) (List.contains_iff_mem.mp hb)
theorem lbb (h : LY w nb T G B) {a j r : Nat} (hb : lyB.contains (a, j, r) = true) : B a j = r := h.2.2.2.1 (a, j, r) (List.contains_iff_mem.mp hb)
theorem latc (h : LY w nb T G B) {c k : Nat} (hc : c < 6) (d : Nat) (hb : ∀ c, c < 6 → latB (38 + 14 * c + d) k = true) : At T (38 + 14 * c + d) k := lat h (hb c hc)
theorem llnc (h : LY w nb T G B) {c n : Nat} (hc : c < 6) (d : Nat) (hb : ∀ c, c < 6 → lnB (38 + 14 * c + d) n = true) : T.2.1 (38 + 14 * c + d) = n := lln h (hb c hc)
theorem lat4 (h : LY w nb T G B) {c : Nat} (hc : c < 6) : At T (38 + 14 * c) 4 := latc h hc 0 (by decide)
theorem lggc (h : LY w nb T G B) {c : Nat} (f d : Nat) (hc : c < 6) (hb : ∀ c, c < 6 → lyG.contains (f, 38 + 14 * c, 38 + 14 * c + d) = true) : G f (38 + 14 * c) = 38 + 14 * c + d := lgg h (hb c hc)
theorem lbbc (h : LY w nb T G B) {c j : Nat} (hc : c < 6) (hj : j < 6) : B (38 + 14 * c + 4) j = 38 + 14 * c + 5 + j :=
  lbb h ((show ∀ c, c < 6 → ∀ j, j < 6 → lyB.contains (38 + 14 * c + 4, j, 38 + 14 * c + 5 + j) = true by decide) c hc j hj)
theorem lat0 (h : LY w nb T G B) {i : Nat} (hi : i < nb) : At T (147 + 2 * i) 0 := ⟨by omega, by have := h.2.1; omega, (h.2.2.2.2.2.2.2.2.2 i hi).2.1⟩
theorem lat0m (h : LY w nb T G B) {i : Nat} (hi : i < nb) : At T (148 + 2 * i) 10 := ⟨by omega, by have := h.2.1; omega, (h.2.2.2.2.2.2.2.2.2 i hi).2.2.1⟩
theorem lln0 (h : LY w nb T G B) {i : Nat} (hi : i < nb) : T.2.1 (148 + 2 * i) = 3 := (h.2.2.2.2.2.2.2.2.2 i hi).2.2.2.1
theorem lgg0 (h : LY w nb T G B) {i : Nat} (hi : i < nb) : G 4 (147 + 2 * i) = 148 + 2 * i := (h.2.2.2.2.2.2.2.2.2 i hi).2.2.2.2
theorem lbb0 (h : LY w nb T G B) {i : Nat} (hi : i < nb) : B 4 i = 147 + 2 * i := (h.2.2.2.2.2.2.2.2.2 i hi).1
theorem lwc (h : LY w nb T G B) {c : Nat} (hc : c < 6) : G 163 (38 + 14 * c) = w c := h.2.2.2.2.1 c hc
theorem lw6 (h : LY w nb T G B) : G 287 1 = w 6 := h.2.2.2.2.2.1
theorem ltx (h : LY w nb T G B) {c : Nat} (hc : c < 7) : isTx (w c) := h.2.2.2.2.2.2.1 c hc
theorem tx_all (P : Nat → Prop) (h0 : P 35) (hc : ∀ c, c < 6 → P (39 + 14 * c)) {t : Nat} (ht : isTx t) : P t := by
  rcases ht with rfl | ⟨c, hc2, rfl⟩
  · exact h0
  · exact hc c hc2
theorem lat1 (h : LY w nb T G B) {t : Nat} (ht : isTx t) : At T t 1 := lat h (tx_all (fun t => latB t 1 = true) (by decide) (by decide) ht)
theorem lat1a (h : LY w nb T G B) {t : Nat} (ht : isTx t) : At T (t + 1) 10 := lat h (tx_all (fun t => latB (t + 1) 10 = true) (by decide) (by decide) ht)
theorem lat1b (h : LY w nb T G B) {t : Nat} (ht : isTx t) : At T (t + 2) 10 := lat h (tx_all (fun t => latB (t + 2) 10 = true) (by decide) (by decide) ht)
theorem lln1a (h : LY w nb T G B) {t : Nat} (ht : isTx t) : T.2.1 (t + 1) = 4 := lln h (tx_all (fun t => lnB (t + 1) 4 = true) (by decide) (by decide) ht)
theorem lln1b (h : LY w nb T G B) {t : Nat} (ht : isTx t) : T.2.1 (t + 2) = 4 := lln h (tx_all (fun t => lnB (t + 2) 4 = true) (by decide) (by decide) ht)
theorem lgg1a (h : LY w nb T G B) {t : Nat} (ht : isTx t) : G 40 t = t + 1 := lgg h (tx_all (fun t => lyG.contains (40, t, t + 1) = true) (by decide) (by decide) ht)
theorem lgg1b (h : LY w nb T G B) {t : Nat} (ht : isTx t) : G 41 t = t + 2 := lgg h (tx_all (fun t => lyG.contains (41, t, t + 2) = true) (by decide) (by decide) ht)
theorem tx_pos {t : Nat} (ht : isTx t) : t ≠ 0 := by rcases ht with rfl | ⟨c, hc, rfl⟩ <;> omega
theorem lbb5 (h : LY w nb T G B) {c : Nat} (hc : c < 6) : B 5 c = 38 + 14 * c := lbb h ((show ∀ c, c < 6 → lyB.contains (5, c, 38 + 14 * c) = true by decide) c hc)
theorem lbb10 (h : LY w nb T G B) {j : Nat} (hj : j < 8) : B 10 j = 11 + j := lbb h ((show ∀ j, j < 8 → lyB.contains (10, j, 11 + j) = true by decide) j hj)
theorem lbb19 (h : LY w nb T G B) {j : Nat} (hj : j < 8) : B 19 j = 20 + j := lbb h ((show ∀ j, j < 8 → lyB.contains (19, j, 20 + j) = true by decide) j hj)
theorem lat11 (h : LY w nb T G B) {j : Nat} (hj : j < 8) : At T (11 + j) 10 := lat h ((show ∀ j, j < 8 → latB (11 + j) 10 = true by decide) j hj)
theorem lln11 (h : LY w nb T G B) {j : Nat} (hj : j < 8) : T.2.1 (11 + j) = 8 := lln h ((show ∀ j, j < 8 → lnB (11 + j) 8 = true by decide) j hj)
theorem lat20 (h : LY w nb T G B) {j : Nat} (hj : j < 8) : At T (20 + j) 10 := lat h ((show ∀ j, j < 8 → latB (20 + j) 10 = true by decide) j hj)
theorem lln20 (h : LY w nb T G B) {j : Nat} (hj : j < 8) : T.2.1 (20 + j) = 256 := lln h ((show ∀ j, j < 8 → lnB (20 + j) 256 = true by decide) j hj)
theorem lat43 (h : LY w nb T G B) {c j : Nat} (hc : c < 6) (hj : j < 6) : At T (38 + 14 * c + 5 + j) 10 := lat h ((show ∀ c, c < 6 → ∀ j, j < 6 → latB (38 + 14 * c + 5 + j) 10 = true by decide) c hc j hj)
theorem lln43 (h : LY w nb T G B) {c j : Nat} (hc : c < 6) (hj : j < 6) : T.2.1 (38 + 14 * c + 5 + j) = 8 := lln h ((show ∀ c, c < 6 → ∀ j, j < 6 → lnB (38 + 14 * c + 5 + j) 8 = true by decide) c hc j hj)
end LAY
