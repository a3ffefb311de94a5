/-! ===== shapes; the words of the functions that the methods are turned into ===== -/
def shX0 (X : MX) (a : Nat) : Prop := X.1 a = (1, 0) ∧ X.2.1 a 1 = some (a + 1) ∧ X.1 (a + 1) = (2, 6)
theorem sh0_k {X : MX} {a : Nat} (h : shX0 X a) : X.1 a = (1, 0) := h.1
theorem sh0_F1 {X : MX} {a : Nat} (h : shX0 X a) : X.2.1 a 1 = some (a + 1) := h.2.1
theorem sh0_T1 {X : MX} {a : Nat} (h : shX0 X a) : X.1 (a + 1) = (2, 6) := h.2.2
def shX1 (X : MX) (a : Nat) : Prop := X.1 a = (1, 1) ∧ X.2.1 a 0 = some (a + 1) ∧ X.1 (a + 1) = (2, 10) ∧ X.2.1 a 1 = some (a + 2) ∧ X.1 (a + 2) = (2, 10) ∧ X.2.1 a 2 = some (a + 3) ∧ X.1 (a + 3) = (2, 10) ∧ X.2.1 a 3 = some (a + 4) ∧ X.1 (a + 4) = (2, 10)
theorem sh1_k {X : MX} {a : Nat} (h : shX1 X a) : X.1 a = (1, 1) := h.1
theorem sh1_F0 {X : MX} {a : Nat} (h : shX1 X a) : X.2.1 a 0 = some (a + 1) := h.2.1
theorem sh1_T0 {X : MX} {a : Nat} (h : shX1 X a) : X.1 (a + 1) = (2, 10) := h.2.2.1
theorem sh1_F1 {X : MX} {a : Nat} (h : shX1 X a) : X.2.1 a 1 = some (a + 2) := h.2.2.2.1
theorem sh1_T1 {X : MX} {a : Nat} (h : shX1 X a) : X.1 (a + 2) = (2, 10) := h.2.2.2.2.1
theorem sh1_F2 {X : MX} {a : Nat} (h : shX1 X a) : X.2.1 a 2 = some (a + 3) := h.2.2.2.2.2.1
theorem sh1_T2 {X : MX} {a : Nat} (h : shX1 X a) : X.1 (a + 3) = (2, 10) := h.2.2.2.2.2.2.1
theorem sh1_F3 {X : MX} {a : Nat} (h : shX1 X a) : X.2.1 a 3 = some (a + 4) := h.2.2.2.2.2.2.2.1
theorem sh1_T3 {X : MX} {a : Nat} (h : shX1 X a) : X.1 (a + 4) = (2, 10) := h.2.2.2.2.2.2.2.2
def shX3 (X : MX) (a : Nat) : Prop := X.1 a = (1, 3) ∧ X.2.1 a 0 = some (a + 1) ∧ X.1 (a + 1) = (2, 12)
theorem sh3_k {X : MX} {a : Nat} (h : shX3 X a) : X.1 a = (1, 3) := h.1
theorem sh3_F0 {X : MX} {a : Nat} (h : shX3 X a) : X.2.1 a 0 = some (a + 1) := h.2.1
theorem sh3_T0 {X : MX} {a : Nat} (h : shX3 X a) : X.1 (a + 1) = (2, 12) := h.2.2
def shX4 (X : MX) (a : Nat) : Prop := X.1 a = (1, 4) ∧ X.2.1 a 0 = some (a + 1) ∧ X.1 (a + 1) = (2, 64) ∧ X.2.1 a 1 = some (a + 2) ∧ X.1 (a + 2) = (2, 7) ∧ X.2.1 a 2 = some (a + 3) ∧ X.1 (a + 3) = (2, 448) ∧ X.2.1 a 3 = some (a + 4) ∧ X.1 (a + 4) = (2, 625) ∧ X.2.1 a 4 = some (a + 5) ∧ X.1 (a + 5) = (2, 37)
theorem sh4_k {X : MX} {a : Nat} (h : shX4 X a) : X.1 a = (1, 4) := h.1
theorem sh4_F0 {X : MX} {a : Nat} (h : shX4 X a) : X.2.1 a 0 = some (a + 1) := h.2.1
theorem sh4_T0 {X : MX} {a : Nat} (h : shX4 X a) : X.1 (a + 1) = (2, 64) := h.2.2.1
theorem sh4_F1 {X : MX} {a : Nat} (h : shX4 X a) : X.2.1 a 1 = some (a + 2) := h.2.2.2.1
theorem sh4_T1 {X : MX} {a : Nat} (h : shX4 X a) : X.1 (a + 2) = (2, 7) := h.2.2.2.2.1
theorem sh4_F2 {X : MX} {a : Nat} (h : shX4 X a) : X.2.1 a 2 = some (a + 3) := h.2.2.2.2.2.1
theorem sh4_T2 {X : MX} {a : Nat} (h : shX4 X a) : X.1 (a + 3) = (2, 448) := h.2.2.2.2.2.2.1
theorem sh4_F3 {X : MX} {a : Nat} (h : shX4 X a) : X.2.1 a 3 = some (a + 4) := h.2.2.2.2.2.2.2.1
theorem sh4_T3 {X : MX} {a : Nat} (h : shX4 X a) : X.1 (a + 4) = (2, 625) := h.2.2.2.2.2.2.2.2.1
theorem sh4_F4 {X : MX} {a : Nat} (h : shX4 X a) : X.2.1 a 4 = some (a + 5) := h.2.2.2.2.2.2.2.2.2.1
theorem sh4_T4 {X : MX} {a : Nat} (h : shX4 X a) : X.1 (a + 5) = (2, 37) := h.2.2.2.2.2.2.2.2.2.2
def shX6 (X : MX) (a : Nat) : Prop := X.1 a = (1, 6) ∧ X.2.1 a 0 = some (a + 1) ∧ X.1 (a + 1) = (3, 169) ∧ X.2.1 a 1 = some (a + 2) ∧ X.1 (a + 2) = (3, 169)
theorem sh6_k {X : MX} {a : Nat} (h : shX6 X a) : X.1 a = (1, 6) := h.1
theorem sh6_F0 {X : MX} {a : Nat} (h : shX6 X a) : X.2.1 a 0 = some (a + 1) := h.2.1
theorem sh6_T0 {X : MX} {a : Nat} (h : shX6 X a) : X.1 (a + 1) = (3, 169) := h.2.2.1
theorem sh6_F1 {X : MX} {a : Nat} (h : shX6 X a) : X.2.1 a 1 = some (a + 2) := h.2.2.2.1
theorem sh6_T1 {X : MX} {a : Nat} (h : shX6 X a) : X.1 (a + 2) = (3, 169) := h.2.2.2.2
def shX7 (X : MX) (a : Nat) : Prop := X.1 a = (1, 7) ∧ X.2.1 a 2 = some (a + 1) ∧ X.1 (a + 1) = (3, 60)
theorem sh7_k {X : MX} {a : Nat} (h : shX7 X a) : X.1 a = (1, 7) := h.1
theorem sh7_F2 {X : MX} {a : Nat} (h : shX7 X a) : X.2.1 a 2 = some (a + 1) := h.2.1
theorem sh7_T2 {X : MX} {a : Nat} (h : shX7 X a) : X.1 (a + 1) = (3, 60) := h.2.2
def shX8 (X : MX) (a : Nat) : Prop := X.1 a = (1, 8) ∧ X.2.1 a 0 = some (a + 1) ∧ X.1 (a + 1) = (2, 80) ∧ X.2.1 a 2 = some (a + 2) ∧ X.1 (a + 2) = (2, 72) ∧ X.2.1 a 3 = some (a + 3) ∧ X.1 (a + 3) = (2, 5)
theorem sh8_k {X : MX} {a : Nat} (h : shX8 X a) : X.1 a = (1, 8) := h.1
theorem sh8_F0 {X : MX} {a : Nat} (h : shX8 X a) : X.2.1 a 0 = some (a + 1) := h.2.1
theorem sh8_T0 {X : MX} {a : Nat} (h : shX8 X a) : X.1 (a + 1) = (2, 80) := h.2.2.1
theorem sh8_F2 {X : MX} {a : Nat} (h : shX8 X a) : X.2.1 a 2 = some (a + 2) := h.2.2.2.1
theorem sh8_T2 {X : MX} {a : Nat} (h : shX8 X a) : X.1 (a + 2) = (2, 72) := h.2.2.2.2.1
theorem sh8_F3 {X : MX} {a : Nat} (h : shX8 X a) : X.2.1 a 3 = some (a + 3) := h.2.2.2.2.2.1
theorem sh8_T3 {X : MX} {a : Nat} (h : shX8 X a) : X.1 (a + 3) = (2, 5) := h.2.2.2.2.2.2
def shX9 (X : MX) (a : Nat) : Prop := X.1 a = (1, 9) ∧ X.2.1 a 0 = some (a + 1) ∧ X.1 (a + 1) = (2, 12)
theorem sh9_k {X : MX} {a : Nat} (h : shX9 X a) : X.1 a = (1, 9) := h.1
theorem sh9_F0 {X : MX} {a : Nat} (h : shX9 X a) : X.2.1 a 0 = some (a + 1) := h.2.1
theorem sh9_T0 {X : MX} {a : Nat} (h : shX9 X a) : X.1 (a + 1) = (2, 12) := h.2.2
def shX2 (X : MX) (a : Nat) (n : Nat) : Prop := X.1 a = (1, 2) ∧ X.2.1 a 1 = some (a + 1) ∧ X.1 (a + 1) = (2, n) ∧ X.2.1 a 2 = some (a + 2) ∧ X.1 (a + 2) = (3, n) ∧ X.2.1 a 4 = some (a + 3) ∧ X.1 (a + 3) = (3, n) ∧ X.2.1 a 5 = some (a + 4) ∧ X.1 (a + 4) = (2, n) ∧ X.2.1 a 6 = some (a + 5) ∧ X.1 (a + 5) = (2, n)
theorem sh2_k {X : MX} {a : Nat} {n : Nat} (h : shX2 X a n) : X.1 a = (1, 2) := h.1
theorem sh2_F1 {X : MX} {a : Nat} {n : Nat} (h : shX2 X a n) : X.2.1 a 1 = some (a + 1) := h.2.1
theorem sh2_T1 {X : MX} {a : Nat} {n : Nat} (h : shX2 X a n) : X.1 (a + 1) = (2, n) := h.2.2.1
theorem sh2_F2 {X : MX} {a : Nat} {n : Nat} (h : shX2 X a n) : X.2.1 a 2 = some (a + 2) := h.2.2.2.1
theorem sh2_T2 {X : MX} {a : Nat} {n : Nat} (h : shX2 X a n) : X.1 (a + 2) = (3, n) := h.2.2.2.2.1
theorem sh2_F4 {X : MX} {a : Nat} {n : Nat} (h : shX2 X a n) : X.2.1 a 4 = some (a + 3) := h.2.2.2.2.2.1
theorem sh2_T4 {X : MX} {a : Nat} {n : Nat} (h : shX2 X a n) : X.1 (a + 3) = (3, n) := h.2.2.2.2.2.2.1
theorem sh2_F5 {X : MX} {a : Nat} {n : Nat} (h : shX2 X a n) : X.2.1 a 5 = some (a + 4) := h.2.2.2.2.2.2.2.1
theorem sh2_T5 {X : MX} {a : Nat} {n : Nat} (h : shX2 X a n) : X.1 (a + 4) = (2, n) := h.2.2.2.2.2.2.2.2.1
theorem sh2_F6 {X : MX} {a : Nat} {n : Nat} (h : shX2 X a n) : X.2.1 a 6 = some (a + 5) := h.2.2.2.2.2.2.2.2.2.1
theorem sh2_T6 {X : MX} {a : Nat} {n : Nat} (h : shX2 X a n) : X.1 (a + 5) = (2, n) := h.2.2.2.2.2.2.2.2.2.2
def shX5 (X : MX) (a : Nat) : Prop := X.1 a = (1, 5) ∧ X.2.1 a 0 = some (a + 1) ∧ X.1 (a + 1) = (4, 6) ∧ (∀ i, i < 6 → X.2.1 (a + 1) i = some (a + 9 + 4 * i)) ∧ (∀ i, i < 6 → shX9 X (a + 9 + 4 * i)) ∧ X.2.1 a 1 = some (a + 2) ∧ shX6 X (a + 2) ∧ X.2.1 a 2 = some (a + 5) ∧ X.1 (a + 5) = (5, 6) ∧ (∀ i, i < 6 → X.2.1 (a + 5) i = some (a + 11 + 4 * i)) ∧ (∀ i, i < 6 → shX0 X (a + 11 + 4 * i)) ∧ X.2.1 a 3 = some (a + 6) ∧ X.1 (a + 6) = (2, 36) ∧ X.2.1 a 4 = some (a + 7) ∧ X.1 (a + 7) = (2, 4) ∧ X.2.1 a 5 = some (a + 8) ∧ X.1 (a + 8) = (2, 4)
theorem sh5_k {X : MX} {a : Nat} (h : shX5 X a) : X.1 a = (1, 5) := h.1
theorem sh5_F0 {X : MX} {a : Nat} (h : shX5 X a) : X.2.1 a 0 = some (a + 1) := h.2.1
theorem sh5_T0 {X : MX} {a : Nat} (h : shX5 X a) : X.1 (a + 1) = (4, 6) := h.2.2.1
theorem sh5_E0 {X : MX} {a : Nat} (h : shX5 X a) : (∀ i, i < 6 → X.2.1 (a + 1) i = some (a + 9 + 4 * i)) := h.2.2.2.1
theorem sh5_O0 {X : MX} {a : Nat} (h : shX5 X a) : (∀ i, i < 6 → shX9 X (a + 9 + 4 * i)) := h.2.2.2.2.1
theorem sh5_F1 {X : MX} {a : Nat} (h : shX5 X a) : X.2.1 a 1 = some (a + 2) := h.2.2.2.2.2.1
theorem sh5_T1 {X : MX} {a : Nat} (h : shX5 X a) : shX6 X (a + 2) := h.2.2.2.2.2.2.1
theorem sh5_F2 {X : MX} {a : Nat} (h : shX5 X a) : X.2.1 a 2 = some (a + 5) := h.2.2.2.2.2.2.2.1
theorem sh5_T2 {X : MX} {a : Nat} (h : shX5 X a) : X.1 (a + 5) = (5, 6) := h.2.2.2.2.2.2.2.2.1
theorem sh5_E2 {X : MX} {a : Nat} (h : shX5 X a) : (∀ i, i < 6 → X.2.1 (a + 5) i = some (a + 11 + 4 * i)) := h.2.2.2.2.2.2.2.2.2.1
theorem sh5_O2 {X : MX} {a : Nat} (h : shX5 X a) : (∀ i, i < 6 → shX0 X (a + 11 + 4 * i)) := h.2.2.2.2.2.2.2.2.2.2.1
theorem sh5_F3 {X : MX} {a : Nat} (h : shX5 X a) : X.2.1 a 3 = some (a + 6) := h.2.2.2.2.2.2.2.2.2.2.2.1
theorem sh5_T3 {X : MX} {a : Nat} (h : shX5 X a) : X.1 (a + 6) = (2, 36) := h.2.2.2.2.2.2.2.2.2.2.2.2.1
theorem sh5_F4 {X : MX} {a : Nat} (h : shX5 X a) : X.2.1 a 4 = some (a + 7) := h.2.2.2.2.2.2.2.2.2.2.2.2.2.1
theorem sh5_T4 {X : MX} {a : Nat} (h : shX5 X a) : X.1 (a + 7) = (2, 4) := h.2.2.2.2.2.2.2.2.2.2.2.2.2.2.1
theorem sh5_F5 {X : MX} {a : Nat} (h : shX5 X a) : X.2.1 a 5 = some (a + 8) := h.2.2.2.2.2.2.2.2.2.2.2.2.2.2.2.1
theorem sh5_T5 {X : MX} {a : Nat} (h : shX5 X a) : X.1 (a + 8) = (2, 4) := h.2.2.2.2.2.2.2.2.2.2.2.2.2.2.2.2
def shX10 (X : MX) : Prop := X.1 0 = (1, 10) ∧ X.2.1 0 0 = some 1 ∧ shX5 X 1 ∧ X.2.1 0 1 = some 34 ∧ shX5 X 34 ∧ X.2.1 0 3 = some 67 ∧ shX1 X 67 ∧ X.2.1 0 4 = some 72 ∧ shX8 X 72 ∧ X.2.1 0 5 = some 76 ∧ shX3 X 76 ∧ X.2.1 0 6 = some 78 ∧ X.1 78 = (6, 6) ∧ (∀ i, i < 6 → X.2.1 78 i = some (79 + 2 * i)) ∧ (∀ i, i < 6 → shX7 X (79 + 2 * i)) ∧ X.2.1 0 7 = some 91 ∧ shX4 X 91 ∧ X.2.1 0 8 = some 97 ∧ X.1 97 = (7, 7) ∧ (∀ i q, X.2.1 97 i = some q → shX2 X q (tabI 3 i).toNatClampNeg) ∧ X.2.1 0 9 = some 98 ∧ X.1 98 = (3, 13) ∧ 99 ≤ X.2.2 ∧ (∀ b, X.2.2 ≤ b → X.1 b = (0, 0))
theorem sh10_k {X : MX} (h : shX10 X) : X.1 0 = (1, 10) := h.1
theorem sh10_F0 {X : MX} (h : shX10 X) : X.2.1 0 0 = some 1 := h.2.1
theorem sh10_T0 {X : MX} (h : shX10 X) : shX5 X 1 := h.2.2.1
theorem sh10_F1 {X : MX} (h : shX10 X) : X.2.1 0 1 = some 34 := h.2.2.2.1
theorem sh10_T1 {X : MX} (h : shX10 X) : shX5 X 34 := h.2.2.2.2.1
theorem sh10_F3 {X : MX} (h : shX10 X) : X.2.1 0 3 = some 67 := h.2.2.2.2.2.1
theorem sh10_T3 {X : MX} (h : shX10 X) : shX1 X 67 := h.2.2.2.2.2.2.1
theorem sh10_F4 {X : MX} (h : shX10 X) : X.2.1 0 4 = some 72 := h.2.2.2.2.2.2.2.1
theorem sh10_T4 {X : MX} (h : shX10 X) : shX8 X 72 := h.2.2.2.2.2.2.2.2.1
theorem sh10_F5 {X : MX} (h : shX10 X) : X.2.1 0 5 = some 76 := h.2.2.2.2.2.2.2.2.2.1
theorem sh10_T5 {X : MX} (h : shX10 X) : shX3 X 76 := h.2.2.2.2.2.2.2.2.2.2.1
theorem sh10_F6 {X : MX} (h : shX10 X) : X.2.1 0 6 = some 78 := h.2.2.2.2.2.2.2.2.2.2.2.1
theorem sh10_T6 {X : MX} (h : shX10 X) : X.1 78 = (6, 6) := h.2.2.2.2.2.2.2.2.2.2.2.2.1
theorem sh10_E6 {X : MX} (h : shX10 X) : (∀ i, i < 6 → X.2.1 78 i = some (79 + 2 * i)) := h.2.2.2.2.2.2.2.2.2.2.2.2.2.1
theorem sh10_O6 {X : MX} (h : shX10 X) : (∀ i, i < 6 → shX7 X (79 + 2 * i)) := h.2.2.2.2.2.2.2.2.2.2.2.2.2.2.1
theorem sh10_F7 {X : MX} (h : shX10 X) : X.2.1 0 7 = some 91 := h.2.2.2.2.2.2.2.2.2.2.2.2.2.2.2.1
theorem sh10_T7 {X : MX} (h : shX10 X) : shX4 X 91 := h.2.2.2.2.2.2.2.2.2.2.2.2.2.2.2.2.1
theorem sh10_F8 {X : MX} (h : shX10 X) : X.2.1 0 8 = some 97 := h.2.2.2.2.2.2.2.2.2.2.2.2.2.2.2.2.2.1
theorem sh10_T8 {X : MX} (h : shX10 X) : X.1 97 = (7, 7) := h.2.2.2.2.2.2.2.2.2.2.2.2.2.2.2.2.2.2.1
theorem sh10_E8 {X : MX} (h : shX10 X) : (∀ i q, X.2.1 97 i = some q → shX2 X q (tabI 3 i).toNatClampNeg) := h.2.2.2.2.2.2.2.2.2.2.2.2.2.2.2.2.2.2.2.1
theorem sh10_F9 {X : MX} (h : shX10 X) : X.2.1 0 9 = some 98 := h.2.2.2.2.2.2.2.2.2.2.2.2.2.2.2.2.2.2.2.2.1
theorem sh10_T9 {X : MX} (h : shX10 X) : X.1 98 = (3, 13) := h.2.2.2.2.2.2.2.2.2.2.2.2.2.2.2.2.2.2.2.2.2.1
theorem sh10_Z {X : MX} (h : shX10 X) : 99 ≤ X.2.2 := h.2.2.2.2.2.2.2.2.2.2.2.2.2.2.2.2.2.2.2.2.2.2.1
theorem sh10_S {X : MX} (h : shX10 X) : (∀ b, X.2.2 ≤ b → X.1 b = (0, 0)) := h.2.2.2.2.2.2.2.2.2.2.2.2.2.2.2.2.2.2.2.2.2.2.2
def shX11 (X : MX) : Prop := X.1 99 = (1, 11) ∧ X.2.1 99 0 = some 100 ∧ X.1 100 = (2, 6) ∧ X.2.1 99 1 = some 101 ∧ X.1 101 = (2, 72) ∧ X.2.1 99 2 = some 102 ∧ X.1 102 = (3, 169) ∧ X.2.1 99 3 = some 103 ∧ X.1 103 = (2, 6) ∧ X.2.1 99 4 = some 104 ∧ X.1 104 = (2, 36) ∧ X.2.1 99 5 = some 105 ∧ X.1 105 = (2, 36) ∧ X.2.1 99 7 = some 106 ∧ X.1 106 = (2, 4) ∧ X.2.1 99 8 = some 107 ∧ X.1 107 = (2, 4) ∧ X.2.1 99 10 = some 108 ∧ X.1 108 = (2, 10) ∧ X.2.1 99 11 = some 109 ∧ X.1 109 = (2, 10) ∧ X.2.1 99 12 = some 110 ∧ X.1 110 = (2, 10) ∧ X.2.1 99 14 = some 111 ∧ X.1 111 = (2, 80) ∧ X.2.1 99 16 = some 112 ∧ X.1 112 = (2, 24) ∧ X.2.1 99 17 = some 113 ∧ X.1 113 = (2, 6) ∧ X.2.1 99 18 = some 114 ∧ X.1 114 = (2, 6) ∧ X.2.1 99 19 = some 115 ∧ X.1 115 = (3, 360) ∧ X.2.1 99 21 = some 116 ∧ X.1 116 = (2, 6) ∧ X.2.1 99 22 = some 117 ∧ X.1 117 = (2, 72) ∧ X.2.1 99 23 = some 118 ∧ X.1 118 = (3, 169) ∧ X.2.1 99 24 = some 119 ∧ X.1 119 = (2, 6) ∧ X.2.1 99 25 = some 120 ∧ X.1 120 = (2, 36) ∧ X.2.1 99 26 = some 121 ∧ X.1 121 = (2, 36) ∧ X.2.1 99 28 = some 122 ∧ X.1 122 = (2, 4) ∧ X.2.1 99 29 = some 123 ∧ X.1 123 = (2, 4) ∧ X.2.1 99 30 = some 124 ∧ X.1 124 = (3, 14) ∧ X.2.1 99 31 = some 125 ∧ X.1 125 = (3, 196) ∧ X.2.1 99 32 = some 126 ∧ X.1 126 = (3, 196) ∧ X.2.1 99 33 = some 127 ∧ X.1 127 = (2, 6) ∧ X.2.1 99 34 = some 128 ∧ X.1 128 = (2, 12) ∧ X.2.1 99 35 = some 129 ∧ X.1 129 = (2, 64) ∧ X.2.1 99 36 = some 130 ∧ X.1 130 = (2, 7) ∧ X.2.1 99 37 = some 131 ∧ X.1 131 = (2, 448) ∧ X.2.1 99 40 = some 132 ∧ X.1 132 = (2, 5544) ∧ X.2.1 99 41 = some 133 ∧ X.1 133 = (2, 6468) ∧ X.2.1 99 42 = some 134 ∧ X.1 134 = (2, 6) ∧ X.2.1 99 48 = some 135 ∧ X.1 135 = (2, 160) ∧ X.2.1 99 49 = some 136 ∧ X.1 136 = (2, 5) ∧ X.2.1 99 50 = some 137 ∧ X.1 137 = (3, 60) ∧ 138 ≤ X.2.2 ∧ (∀ b, X.2.2 ≤ b → X.1 b = (0, 0))
theorem sh11_k {X : MX} (h : shX11 X) : X.1 99 = (1, 11) := h.1
theorem sh11_F0 {X : MX} (h : shX11 X) : X.2.1 99 0 = some 100 := h.2.1
theorem sh11_T0 {X : MX} (h : shX11 X) : X.1 100 = (2, 6) := h.2.2.1
theorem sh11_F1 {X : MX} (h : shX11 X) : X.2.1 99 1 = some 101 := h.2.2.2.1
theorem sh11_T1 {X : MX} (h : shX11 X) : X.1 101 = (2, 72) := h.2.2.2.2.1
theorem sh11_F2 {X : MX} (h : shX11 X) : X.2.1 99 2 = some 102 := h.2.2.2.2.2.1
theorem sh11_T2 {X : MX} (h : shX11 X) : X.1 102 = (3, 169) := h.2.2.2.2.2.2.1
theorem sh11_F3 {X : MX} (h : shX11 X) : X.2.1 99 3 = some 103 := h.2.2.2.2.2.2.2.1
theorem sh11_T3 {X : MX} (h : shX11 X) : X.1 103 = (2, 6) := h.2.2.2.2.2.2.2.2.1
theorem sh11_F4 {X : MX} (h : shX11 X) : X.2.1 99 4 = some 104 := h.2.2.2.2.2.2.2.2.2.1
theorem sh11_T4 {X : MX} (h : shX11 X) : X.1 104 = (2, 36) := h.2.2.2.2.2.2.2.2.2.2.1
theorem sh11_F5 {X : MX} (h : shX11 X) : X.2.1 99 5 = some 105 := h.2.2.2.2.2.2.2.2.2.2.2.1
theorem sh11_T5 {X : MX} (h : shX11 X) : X.1 105 = (2, 36) := h.2.2.2.2.2.2.2.2.2.2.2.2.1
theorem sh11_F7 {X : MX} (h : shX11 X) : X.2.1 99 7 = some 106 := h.2.2.2.2.2.2.2.2.2.2.2.2.2.1
theorem sh11_T7 {X : MX} (h : shX11 X) : X.1 106 = (2, 4) := h.2.2.2.2.2.2.2.2.2.2.2.2.2.2.1
theorem sh11_F8 {X : MX} (h : shX11 X) : X.2.1 99 8 = some 107 := h.2.2.2.2.2.2.2.2.2.2.2.2.2.2.2.1
theorem sh11_T8 {X : MX} (h : shX11 X) : X.1 107 = (2, 4) := h.2.2.2.2.2.2.2.2.2.2.2.2.2.2.2.2.1
theorem sh11_F10 {X : MX} (h : shX11 X) : X.2.1 99 10 = some 108 := h.2.2.2.2.2.2.2.2.2.2.2.2.2.2.2.2.2.1
theorem sh11_T10 {X : MX} (h : shX11 X) : X.1 108 = (2, 10) := h.2.2.2.2.2.2.2.2.2.2.2.2.2.2.2.2.2.2.1
theorem sh11_F11 {X : MX} (h : shX11 X) : X.2.1 99 11 = some 109 := h.2.2.2.2.2.2.2.2.2.2.2.2.2.2.2.2.2.2.2.1
theorem sh11_T11 {X : MX} (h : shX11 X) : X.1 109 = (2, 10) := h.2.2.2.2.2.2.2.2.2.2.2.2.2.2.2.2.2.2.2.2.1
theorem sh11_F12 {X : MX} (h : shX11 X) : X.2.1 99 12 = some 110 := h.2.2.2.2.2.2.2.2.2.2.2.2.2.2.2.2.2.2.2.2.2.1
theorem sh11_T12 {X : MX} (h : shX11 X) : X.1 110 = (2, 10) := h.2.2.2.2.2.2.2.2.2.2.2.2.2.2.2.2.2.2.2.2.2.2.1
theorem sh11_F14 {X : MX} (h : shX11 X) : X.2.1 99 14 = some 111 := h.2.2.2.2.2.2.2.2.2.2.2.2.2.2.2.2.2.2.2.2.2.2.2.1
theorem sh11_T14 {X : MX} (h : shX11 X) : X.1 111 = (2, 80) := h.2.2.2.2.2.2.2.2.2.2.2.2.2.2.2.2.2.2.2.2.2.2.2.2.1
theorem sh11_F16 {X : MX} (h : shX11 X) : X.2.1 99 16 = some 112 := h.2.2.2.2.2.2.2.2.2.2.2.2.2.2.2.2.2.2.2.2.2.2.2.2.2.1
theorem sh11_T16 {X : MX} (h : shX11 X) : X.1 112 = (2, 24) := h.2.2.2.2.2.2.2.2.2.2.2.2.2.2.2.2.2.2.2.2.2.2.2.2.2.2.1
theorem sh11_F17 {X : MX} (h : shX11 X) : X.2.1 99 17 = some 113 := h.2.2.2.2.2.2.2.2.2.2.2.2.2.2.2.2.2.2.2.2.2.2.2.2.2.2.2.1
theorem sh11_T17 {X : MX} (h : shX11 X) : X.1 113 = (2, 6) := h.2.2.2.2.2.2.2.2.2.2.2.2.2.2.2.2.2.2.2.2.2.2.2.2.2.2.2.2.1
theorem sh11_F18 {X : MX} (h : shX11 X) : X.2.1 99 18 = some 114 := h.2.2.2.2.2.2.2.2.2.2.2.2.2.2.2.2.2.2.2.2.2.2.2.2.2.2.2.2.2.1
theorem sh11_T18 {X : MX} (h : shX11 X) : X.1 114 = (2, 6) := h.2.2.2.2.2.2.2.2.2.2.2.2.2.2.2.2.2.2.2.2.2.2.2.2.2.2.2.2.2.2.1
theorem sh11_F19 {X : MX} (h : shX11 X) : X.2.1 99 19 = some 115 := h.2.2.2.2.2.2.2.2.2.2.2.2.2.2.2.2.2.2.2.2.2.2.2.2.2.2.2.2.2.2.2.1
theorem sh11_T19 {X : MX} (h : shX11 X) : X.1 115 = (3, 360) := h.2.2.2.2.2.2.2.2.2.2.2.2.2.2.2.2.2.2.2.2.2.2.2.2.2.2.2.2.2.2.2.2.1
theorem sh11_F21 {X : MX} (h : shX11 X) : X.2.1 99 21 = some 116 := h.2.2.2.2.2.2.2.2.2.2.2.2.2.2.2.2.2.2.2.2.2.2.2.2.2.2.2.2.2.2.2.2.2.1
theorem sh11_T21 {X : MX} (h : shX11 X) : X.1 116 = (2, 6) := h.2.2.2.2.2.2.2.2.2.2.2.2.2.2.2.2.2.2.2.2.2.2.2.2.2.2.2.2.2.2.2.2.2.2.1
theorem sh11_F22 {X : MX} (h : shX11 X) : X.2.1 99 22 = some 117 := h.2.2.2.2.2.2.2.2.2.2.2.2.2.2.2.2.2.2.2.2.2.2.2.2.2.2.2.2.2.2.2.2.2.2.2.1
theorem sh11_T22 {X : MX} (h : shX11 X) : X.1 117 = (2, 72) := h.2.2.2.2.2.2.2.2.2.2.2.2.2.2.2.2.2.2.2.2.2.2.2.2.2.2.2.2.2.2.2.2.2.2.2.2.1
theorem sh11_F23 {X : MX} (h : shX11 X) : X.2.1 99 23 = some 118 := h.2.2.2.2.2.2.2.2.2.2.2.2.2.2.2.2.2.2.2.2.2.2.2.2.2.2.2.2.2.2.2.2.2.2.2.2.2.1
theorem sh11_T23 {X : MX} (h : shX11 X) : X.1 118 = (3, 169) := h.2.2.2.2.2.2.2.2.2.2.2.2.2.2.2.2.2.2.2.2.2.2.2.2.2.2.2.2.2.2.2.2.2.2.2.2.2.2.1
theorem sh11_F24 {X : MX} (h : shX11 X) : X.2.1 99 24 = some 119 := h.2.2.2.2.2.2.2.2.2.2.2.2.2.2.2.2.2.2.2.2.2.2.2.2.2.2.2.2.2.2.2.2.2.2.2.2.2.2.2.1
theorem sh11_T24 {X : MX} (h : shX11 X) : X.1 119 = (2, 6) := h.2.2.2.2.2.2.2.2.2.2.2.2.2.2.2.2.2.2.2.2.2.2.2.2.2.2.2.2.2.2.2.2.2.2.2.2.2.2.2.2.1
theorem sh11_F25 {X : MX} (h : shX11 X) : X.2.1 99 25 = some 120 := h.2.2.2.2.2.2.2.2.2.2.2.2.2.2.2.2.2.2.2.2.2.2.2.2.2.2.2.2.2.2.2.2.2.2.2.2.2.2.2.2.2.1
theorem sh11_T25 {X : MX} (h : shX11 X) : X.1 120 = (2, 36) := h.2.2.2.2.2.2.2.2.2.2.2.2.2.2.2.2.2.2.2.2.2.2.2.2.2.2.2.2.2.2.2.2.2.2.2.2.2.2.2.2.2.2.1
theorem sh11_F26 {X : MX} (h : shX11 X) : X.2.1 99 26 = some 121 := h.2.2.2.2.2.2.2.2.2.2.2.2.2.2.2.2.2.2.2.2.2.2.2.2.2.2.2.2.2.2.2.2.2.2.2.2.2.2.2.2.2.2.2.1
theorem sh11_T26 {X : MX} (h : shX11 X) : X.1 121 = (2, 36) := h.2.2.2.2.2.2.2.2.2.2.2.2.2.2.2.2.2.2.2.2.2.2.2.2.2.2.2.2.2.2.2.2.2.2.2.2.2.2.2.2.2.2.2.2.1
theorem sh11_F28 {X : MX} (h : shX11 X) : X.2.1 99 28 = some 122 := h.2.2.2.2.2.2.2.2.2.2.2.2.2.2.2.2.2.2.2.2.2.2.2.2.2.2.2.2.2.2.2.2.2.2.2.2.2.2.2.2.2.2.2.2.2.1
theorem sh11_T28 {X : MX} (h : shX11 X) : X.1 122 = (2, 4) := h.2.2.2.2.2.2.2.2.2.2.2.2.2.2.2.2.2.2.2.2.2.2.2.2.2.2.2.2.2.2.2.2.2.2.2.2.2.2.2.2.2.2.2.2.2.2.1
theorem sh11_F29 {X : MX} (h : shX11 X) : X.2.1 99 29 = some 123 := h.2.2.2.2.2.2.2.2.2.2.2.2.2.2.2.2.2.2.2.2.2.2.2.2.2.2.2.2.2.2.2.2.2.2.2.2.2.2.2.2.2.2.2.2.2.2.2.1
theorem sh11_T29 {X : MX} (h : shX11 X) : X.1 123 = (2, 4) := h.2.2.2.2.2.2.2.2.2.2.2.2.2.2.2.2.2.2.2.2.2.2.2.2.2.2.2.2.2.2.2.2.2.2.2.2.2.2.2.2.2.2.2.2.2.2.2.2.1
theorem sh11_F30 {X : MX} (h : shX11 X) : X.2.1 99 30 = some 124 := h.2.2.2.2.2.2.2.2.2.2.2.2.2.2.2.2.2.2.2.2.2.2.2.2.2.2.2.2.2.2.2.2.2.2.2.2.2.2.2.2.2.2.2.2.2.2.2.2.2.1
theorem sh11_T30 {X : MX} (h : shX11 X) : X.1 124 = (3, 14) := h.2.2.2.2.2.2.2.2.2.2.2.2.2.2.2.2.2.2.2.2.2.2.2.2.2.2.2.2.2.2.2.2.2.2.2.2.2.2.2.2.2.2.2.2.2.2.2.2.2.2.1
theorem sh11_F31 {X : MX} (h : shX11 X) : X.2.1 99 31 = some 125 := h.2.2.2.2.2.2.2.2.2.2.2.2.2.2.2.2.2.2.2.2.2.2.2.2.2.2.2.2.2.2.2.2.2.2.2.2.2.2.2.2.2.2.2.2.2.2.2.2.2.2.2.1
theorem sh11_T31 {X : MX} (h : shX11 X) : X.1 125 = (3, 196) := h.2.2.2.2.2.2.2.2.2.2.2.2.2.2.2.2.2.2.2.2.2.2.2.2.2.2.2.2.2.2.2.2.2.2.2.2.2.2.2.2.2.2.2.2.2.2.2.2.2.2.2.2.1
theorem sh11_F32 {X : MX} (h : shX11 X) : X.2.1 99 32 = some 126 := h.2.2.2.2.2.2.2.2.2.2.2.2.2.2.2.2.2.2.2.2.2.2.2.2.2.2.2.2.2.2.2.2.2.2.2.2.2.2.2.2.2.2.2.2.2.2.2.2.2.2.2.2.2.1
theorem sh11_T32 {X : MX} (h : shX11 X) : X.1 126 = (3, 196) := h.2.2.2.2.2.2.2.2.2.2.2.2.2.2.2.2.2.2.2.2.2.2.2.2.2.2.2.2.2.2.2.2.2.2.2.2.2.2.2.2.2.2.2.2.2.2.2.2.2.2.2.2.2.2.1
theorem sh11_F33 {X : MX} (h : shX11 X) : X.2.1 99 33 = some 127 := h.2.2.2.2.2.2.2.2.2.2.2.2.2.2.2.2.2.2.2.2.2.2.2.2.2.2.2.2.2.2.2.2.2.2.2.2.2.2.2.2.2.2.2.2.2.2.2.2.2.2.2.2.2.2.2.1
theorem sh11_T33 {X : MX} (h : shX11 X) : X.1 127 = (2, 6) := h.2.2.2.2.2.2.2.2.2.2.2.2.2.2.2.2.2.2.2.2.2.2.2.2.2.2.2.2.2.2.2.2.2.2.2.2.2.2.2.2.2.2.2.2.2.2.2.2.2.2.2.2.2.2.2.2.1
theorem sh11_F34 {X : MX} (h : shX11 X) : X.2.1 99 34 = some 128 := h.2.2.2.2.2.2.2.2.2.2.2.2.2.2.2.2.2.2.2.2.2.2.2.2.2.2.2.2.2.2.2.2.2.2.2.2.2.2.2.2.2.2.2.2.2.2.2.2.2.2.2.2.2.2.2.2.2.1
theorem sh11_T34 {X : MX} (h : shX11 X) : X.1 128 = (2, 12) := h.2.2.2.2.2.2.2.2.2.2.2.2.2.2.2.2.2.2.2.2.2.2.2.2.2.2.2.2.2.2.2.2.2.2.2.2.2.2.2.2.2.2.2.2.2.2.2.2.2.2.2.2.2.2.2.2.2.2.1
theorem sh11_F35 {X : MX} (h : shX11 X) : X.2.1 99 35 = some 129 := h.2.2.2.2.2.2.2.2.2.2.2.2.2.2.2.2.2.2.2.2.2.2.2.2.2.2.2.2.2.2.2.2.2.2.2.2.2.2.2.2.2.2.2.2.2.2.2.2.2.2.2.2.2.2.2.2.2.2.2.1
theorem sh11_T35 {X : MX} (h : shX11 X) : X.1 129 = (2, 64) := h.2.2.2.2.2.2.2.2.2.2.2.2.2.2.2.2.2.2.2.2.2.2.2.2.2.2.2.2.2.2.2.2.2.2.2.2.2.2.2.2.2.2.2.2.2.2.2.2.2.2.2.2.2.2.2.2.2.2.2.2.1
theorem sh11_F36 {X : MX} (h : shX11 X) : X.2.1 99 36 = some 130 := h.2.2.2.2.2.2.2.2.2.2.2.2.2.2.2.2.2.2.2.2.2.2.2.2.2.2.2.2.2.2.2.2.2.2.2.2.2.2.2.2.2.2.2.2.2.2.2.2.2.2.2.2.2.2.2.2.2.2.2.2.2.1
theorem sh11_T36 {X : MX} (h : shX11 X) : X.1 130 = (2, 7) := h.2.2.2.2.2.2.2.2.2.2.2.2.2.2.2.2.2.2.2.2.2.2.2.2.2.2.2.2.2.2.2.2.2.2.2.2.2.2.2.2.2.2.2.2.2.2.2.2.2.2.2.2.2.2.2.2.2.2.2.2.2.2.1
theorem sh11_F37 {X : MX} (h : shX11 X) : X.2.1 99 37 = some 131 := h.2.2.2.2.2.2.2.2.2.2.2.2.2.2.2.2.2.2.2.2.2.2.2.2.2.2.2.2.2.2.2.2.2.2.2.2.2.2.2.2.2.2.2.2.2.2.2.2.2.2.2.2.2.2.2.2.2.2.2.2.2.2.2.1
theorem sh11_T37 {X : MX} (h : shX11 X) : X.1 131 = (2, 448) := h.2.2.2.2.2.2.2.2.2.2.2.2.2.2.2.2.2.2.2.2.2.2.2.2.2.2.2.2.2.2.2.2.2.2.2.2.2.2.2.2.2.2.2.2.2.2.2.2.2.2.2.2.2.2.2.2.2.2.2.2.2.2.2.2.1
theorem sh11_F40 {X : MX} (h : shX11 X) : X.2.1 99 40 = some 132 := h.2.2.2.2.2.2.2.2.2.2.2.2.2.2.2.2.2.2.2.2.2.2.2.2.2.2.2.2.2.2.2.2.2.2.2.2.2.2.2.2.2.2.2.2.2.2.2.2.2.2.2.2.2.2.2.2.2.2.2.2.2.2.2.2.2.1
theorem sh11_T40 {X : MX} (h : shX11 X) : X.1 132 = (2, 5544) := h.2.2.2.2.2.2.2.2.2.2.2.2.2.2.2.2.2.2.2.2.2.2.2.2.2.2.2.2.2.2.2.2.2.2.2.2.2.2.2.2.2.2.2.2.2.2.2.2.2.2.2.2.2.2.2.2.2.2.2.2.2.2.2.2.2.2.1
theorem sh11_F41 {X : MX} (h : shX11 X) : X.2.1 99 41 = some 133 := h.2.2.2.2.2.2.2.2.2.2.2.2.2.2.2.2.2.2.2.2.2.2.2.2.2.2.2.2.2.2.2.2.2.2.2.2.2.2.2.2.2.2.2.2.2.2.2.2.2.2.2.2.2.2.2.2.2.2.2.2.2.2.2.2.2.2.2.1
theorem sh11_T41 {X : MX} (h : shX11 X) : X.1 133 = (2, 6468) := h.2.2.2.2.2.2.2.2.2.2.2.2.2.2.2.2.2.2.2.2.2.2.2.2.2.2.2.2.2.2.2.2.2.2.2.2.2.2.2.2.2.2.2.2.2.2.2.2.2.2.2.2.2.2.2.2.2.2.2.2.2.2.2.2.2.2.2.2.1
theorem sh11_F42 {X : MX} (h : shX11 X) : X.2.1 99 42 = some 134 := h.2.2.2.2.2.2.2.2.2.2.2.2.2.2.2.2.2.2.2.2.2.2.2.2.2.2.2.2.2.2.2.2.2.2.2.2.2.2.2.2.2.2.2.2.2.2.2.2.2.2.2.2.2.2.2.2.2.2.2.2.2.2.2.2.2.2.2.2.2.1
theorem sh11_T42 {X : MX} (h : shX11 X) : X.1 134 = (2, 6) := h.2.2.2.2.2.2.2.2.2.2.2.2.2.2.2.2.2.2.2.2.2.2.2.2.2.2.2.2.2.2.2.2.2.2.2.2.2.2.2.2.2.2.2.2.2.2.2.2.2.2.2.2.2.2.2.2.2.2.2.2.2.2.2.2.2.2.2.2.2.2.1
theorem sh11_F48 {X : MX} (h : shX11 X) : X.2.1 99 48 = some 135 := h.2.2.2.2.2.2.2.2.2.2.2.2.2.2.2.2.2.2.2.2.2.2.2.2.2.2.2.2.2.2.2.2.2.2.2.2.2.2.2.2.2.2.2.2.2.2.2.2.2.2.2.2.2.2.2.2.2.2.2.2.2.2.2.2.2.2.2.2.2.2.2.1
theorem sh11_T48 {X : MX} (h : shX11 X) : X.1 135 = (2, 160) := h.2.2.2.2.2.2.2.2.2.2.2.2.2.2.2.2.2.2.2.2.2.2.2.2.2.2.2.2.2.2.2.2.2.2.2.2.2.2.2.2.2.2.2.2.2.2.2.2.2.2.2.2.2.2.2.2.2.2.2.2.2.2.2.2.2.2.2.2.2.2.2.2.1
theorem sh11_F49 {X : MX} (h : shX11 X) : X.2.1 99 49 = some 136 := h.2.2.2.2.2.2.2.2.2.2.2.2.2.2.2.2.2.2.2.2.2.2.2.2.2.2.2.2.2.2.2.2.2.2.2.2.2.2.2.2.2.2.2.2.2.2.2.2.2.2.2.2.2.2.2.2.2.2.2.2.2.2.2.2.2.2.2.2.2.2.2.2.2.1
theorem sh11_T49 {X : MX} (h : shX11 X) : X.1 136 = (2, 5) := h.2.2.2.2.2.2.2.2.2.2.2.2.2.2.2.2.2.2.2.2.2.2.2.2.2.2.2.2.2.2.2.2.2.2.2.2.2.2.2.2.2.2.2.2.2.2.2.2.2.2.2.2.2.2.2.2.2.2.2.2.2.2.2.2.2.2.2.2.2.2.2.2.2.2.1
theorem sh11_F50 {X : MX} (h : shX11 X) : X.2.1 99 50 = some 137 := h.2.2.2.2.2.2.2.2.2.2.2.2.2.2.2.2.2.2.2.2.2.2.2.2.2.2.2.2.2.2.2.2.2.2.2.2.2.2.2.2.2.2.2.2.2.2.2.2.2.2.2.2.2.2.2.2.2.2.2.2.2.2.2.2.2.2.2.2.2.2.2.2.2.2.2.1
theorem sh11_T50 {X : MX} (h : shX11 X) : X.1 137 = (3, 60) := h.2.2.2.2.2.2.2.2.2.2.2.2.2.2.2.2.2.2.2.2.2.2.2.2.2.2.2.2.2.2.2.2.2.2.2.2.2.2.2.2.2.2.2.2.2.2.2.2.2.2.2.2.2.2.2.2.2.2.2.2.2.2.2.2.2.2.2.2.2.2.2.2.2.2.2.2.1
theorem sh11_Z {X : MX} (h : shX11 X) : 138 ≤ X.2.2 := h.2.2.2.2.2.2.2.2.2.2.2.2.2.2.2.2.2.2.2.2.2.2.2.2.2.2.2.2.2.2.2.2.2.2.2.2.2.2.2.2.2.2.2.2.2.2.2.2.2.2.2.2.2.2.2.2.2.2.2.2.2.2.2.2.2.2.2.2.2.2.2.2.2.2.2.2.2.1
theorem sh11_S {X : MX} (h : shX11 X) : (∀ b, X.2.2 ≤ b → X.1 b = (0, 0)) := h.2.2.2.2.2.2.2.2.2.2.2.2.2.2.2.2.2.2.2.2.2.2.2.2.2.2.2.2.2.2.2.2.2.2.2.2.2.2.2.2.2.2.2.2.2.2.2.2.2.2.2.2.2.2.2.2.2.2.2.2.2.2.2.2.2.2.2.2.2.2.2.2.2.2.2.2.2.2
/-- a later shape: what was there is there, but for what the row 97 holds -/
def extX (X X' : MX) : Prop := X.2.2 ≤ X'.2.2 ∧ ∀ b, b < X.2.2 → X'.1 b = X.1 b ∧ (b ≠ 97 → ∀ j, X'.2.1 b j = X.2.1 b j)
theorem ext_k {X X' : MX} (hs : ∀ b, X.2.2 ≤ b → X.1 b = (0, 0)) (he : extX X X') {a t n : Nat} (h : X.1 a = (t + 1, n)) : X'.1 a = (t + 1, n) := by
  by_cases q : a < X.2.2
  · rw [(he.2 a q).1]; exact h
  · rw [hs a (by omega)] at h; cases h
theorem ext_f {X X' : MX} (hs : ∀ b, X.2.2 ≤ b → X.1 b = (0, 0)) (h97 : X.1 97 = (7, 7)) (he : extX X X') {a t n k : Nat} {r : Option Nat} (h : X.1 a = (t + 1, n)) (ht : t ≠ 6) (hf : X.2.1 a k = r) : X'.2.1 a k = r := by
  have q : a < X.2.2 := by
    by_cases q : a < X.2.2
    · exact q
    · rw [hs a (by omega)] at h; cases h
  have q2 : a ≠ 97 := fun e => by
    rw [e, h97] at h
    have := congrArg Prod.fst h
    simp at this
    omega
  rw [(he.2 a q).2 q2 k]
  exact hf
theorem sh0_ext {X X' : MX} (hs : ∀ b, X.2.2 ≤ b → X.1 b = (0, 0)) (h97 : X.1 97 = (7, 7)) (he : extX X X') {a : Nat} (h : shX0 X a) : shX0 X' a := ⟨ext_k hs he (sh0_k h), ext_f hs h97 he (sh0_k h) (by decide) (sh0_F1 h), ext_k hs he (sh0_T1 h)⟩
theorem sh1_ext {X X' : MX} (hs : ∀ b, X.2.2 ≤ b → X.1 b = (0, 0)) (h97 : X.1 97 = (7, 7)) (he : extX X X') {a : Nat} (h : shX1 X a) : shX1 X' a := ⟨ext_k hs he (sh1_k h), ext_f hs h97 he (sh1_k h) (by decide) (sh1_F0 h), ext_k hs he (sh1_T0 h), ext_f hs h97 he (sh1_k h) (by decide) (sh1_F1 h), ext_k hs he (sh1_T1 h), ext_f hs h97 he (sh1_k h) (by decide) (sh1_F2 h), ext_k hs he (sh1_T2 h), ext_f hs h97 he (sh1_k h) (by decide) (sh1_F3 h), ext_k hs he (sh1_T3 h)⟩
theorem sh3_ext {X X' : MX} (hs : ∀ b, X.2.2 ≤ b → X.1 b = (0, 0)) (h97 : X.1 97 = (7, 7)) (he : extX X X') {a : Nat} (h : shX3 X a) : shX3 X' a := ⟨ext_k hs he (sh3_k h), ext_f hs h97 he (sh3_k h) (by decide) (sh3_F0 h), ext_k hs he (sh3_T0 h)⟩
theorem sh4_ext {X X' : MX} (hs : ∀ b, X.2.2 ≤ b → X.1 b = (0, 0)) (h97 : X.1 97 = (7, 7)) (he : extX X X') {a : Nat} (h : shX4 X a) : shX4 X' a := ⟨ext_k hs he (sh4_k h), ext_f hs h97 he (sh4_k h) (by decide) (sh4_F0 h), ext_k hs he (sh4_T0 h), ext_f hs h97 he (sh4_k h) (by decide) (sh4_F1 h), ext_k hs he (sh4_T1 h), ext_f hs h97 he (sh4_k h) (by decide) (sh4_F2 h), ext_k hs he (sh4_T2 h), ext_f hs h97 he (sh4_k h) (by decide) (sh4_F3 h), ext_k hs he (sh4_T3 h), ext_f hs h97 he (sh4_k h) (by decide) (sh4_F4 h), ext_k hs he (sh4_T4 h)⟩
theorem sh6_ext {X X' : MX} (hs : ∀ b, X.2.2 ≤ b → X.1 b = (0, 0)) (h97 : X.1 97 = (7, 7)) (he : extX X X') {a : Nat} (h : shX6 X a) : shX6 X' a := ⟨ext_k hs he (sh6_k h), ext_f hs h97 he (sh6_k h) (by decide) (sh6_F0 h), ext_k hs he (sh6_T0 h), ext_f hs h97 he (sh6_k h) (by decide) (sh6_F1 h), ext_k hs he (sh6_T1 h)⟩
theorem sh7_ext {X X' : MX} (hs : ∀ b, X.2.2 ≤ b → X.1 b = (0, 0)) (h97 : X.1 97 = (7, 7)) (he : extX X X') {a : Nat} (h : shX7 X a) : shX7 X' a := ⟨ext_k hs he (sh7_k h), ext_f hs h97 he (sh7_k h) (by decide) (sh7_F2 h), ext_k hs he (sh7_T2 h)⟩
theorem sh8_ext {X X' : MX} (hs : ∀ b, X.2.2 ≤ b → X.1 b = (0, 0)) (h97 : X.1 97 = (7, 7)) (he : extX X X') {a : Nat} (h : shX8 X a) : shX8 X' a := ⟨ext_k hs he (sh8_k h), ext_f hs h97 he (sh8_k h) (by decide) (sh8_F0 h), ext_k hs he (sh8_T0 h), ext_f hs h97 he (sh8_k h) (by decide) (sh8_F2 h), ext_k hs he (sh8_T2 h), ext_f hs h97 he (sh8_k h) (by decide) (sh8_F3 h), ext_k hs he (sh8_T3 h)⟩
theorem sh9_ext {X X' : MX} (hs : ∀ b, X.2.2 ≤ b → X.1 b = (0, 0)) (h97 : X.1 97 = (7, 7)) (he : extX X X') {a : Nat} (h : shX9 X a) : shX9 X' a := ⟨ext_k hs he (sh9_k h), ext_f hs h97 he (sh9_k h) (by decide) (sh9_F0 h), ext_k hs he (sh9_T0 h)⟩
theorem sh2_ext {X X' : MX} (hs : ∀ b, X.2.2 ≤ b → X.1 b = (0, 0)) (h97 : X.1 97 = (7, 7)) (he : extX X X') {a : Nat} {n : Nat} (h : shX2 X a n) : shX2 X' a n := ⟨ext_k hs he (sh2_k h), ext_f hs h97 he (sh2_k h) (by decide) (sh2_F1 h), ext_k hs he (sh2_T1 h), ext_f hs h97 he (sh2_k h) (by decide) (sh2_F2 h), ext_k hs he (sh2_T2 h), ext_f hs h97 he (sh2_k h) (by decide) (sh2_F4 h), ext_k hs he (sh2_T4 h), ext_f hs h97 he (sh2_k h) (by decide) (sh2_F5 h), ext_k hs he (sh2_T5 h), ext_f hs h97 he (sh2_k h) (by decide) (sh2_F6 h), ext_k hs he (sh2_T6 h)⟩
theorem sh5_ext {X X' : MX} (hs : ∀ b, X.2.2 ≤ b → X.1 b = (0, 0)) (h97 : X.1 97 = (7, 7)) (he : extX X X') {a : Nat} (h : shX5 X a) : shX5 X' a := ⟨ext_k hs he (sh5_k h), ext_f hs h97 he (sh5_k h) (by decide) (sh5_F0 h), ext_k hs he (sh5_T0 h), fun i hi => ext_f hs h97 he (sh5_T0 h) (by decide) (sh5_E0 h i hi), fun i hi => sh9_ext hs h97 he (sh5_O0 h i hi), ext_f hs h97 he (sh5_k h) (by decide) (sh5_F1 h), sh6_ext hs h97 he (sh5_T1 h), ext_f hs h97 he (sh5_k h) (by decide) (sh5_F2 h), ext_k hs he (sh5_T2 h), fun i hi => ext_f hs h97 he (sh5_T2 h) (by decide) (sh5_E2 h i hi), fun i hi => sh0_ext hs h97 he (sh5_O2 h i hi), ext_f hs h97 he (sh5_k h) (by decide) (sh5_F3 h), ext_k hs he (sh5_T3 h), ext_f hs h97 he (sh5_k h) (by decide) (sh5_F4 h), ext_k hs he (sh5_T4 h), ext_f hs h97 he (sh5_k h) (by decide) (sh5_F5 h), ext_k hs he (sh5_T5 h)⟩
theorem sh10_ext {X X' : MX} (h : shX10 X) (he : extX X X') (hs' : ∀ b, X'.2.2 ≤ b → X'.1 b = (0, 0)) (hL : ∀ i q, X'.2.1 97 i = some q → shX2 X' q (tabI 3 i).toNatClampNeg) : shX10 X' := by
  have hs := sh10_S h
  exact ⟨ext_k hs he (sh10_k h), ext_f hs (sh10_T8 h) he (sh10_k h) (by decide) (sh10_F0 h), sh5_ext hs (sh10_T8 h) he (sh10_T0 h), ext_f hs (sh10_T8 h) he (sh10_k h) (by decide) (sh10_F1 h), sh5_ext hs (sh10_T8 h) he (sh10_T1 h), ext_f hs (sh10_T8 h) he (sh10_k h) (by decide) (sh10_F3 h), sh1_ext hs (sh10_T8 h) he (sh10_T3 h), ext_f hs (sh10_T8 h) he (sh10_k h) (by decide) (sh10_F4 h), sh8_ext hs (sh10_T8 h) he (sh10_T4 h), ext_f hs (sh10_T8 h) he (sh10_k h) (by decide) (sh10_F5 h), sh3_ext hs (sh10_T8 h) he (sh10_T5 h), ext_f hs (sh10_T8 h) he (sh10_k h) (by decide) (sh10_F6 h), ext_k hs he (sh10_T6 h), fun i hi => ext_f hs (sh10_T8 h) he (sh10_T6 h) (by decide) (sh10_E6 h i hi), fun i hi => sh7_ext hs (sh10_T8 h) he (sh10_O6 h i hi), ext_f hs (sh10_T8 h) he (sh10_k h) (by decide) (sh10_F7 h), sh4_ext hs (sh10_T8 h) he (sh10_T7 h), ext_f hs (sh10_T8 h) he (sh10_k h) (by decide) (sh10_F8 h), ext_k hs he (sh10_T8 h), hL, ext_f hs (sh10_T8 h) he (sh10_k h) (by decide) (sh10_F9 h), ext_k hs he (sh10_T9 h), Nat.le_trans (sh10_Z h) he.1, hs'⟩
theorem sh11_ext {X X' : MX} (h97 : X.1 97 = (7, 7)) (h : shX11 X) (he : extX X X') (hs' : ∀ b, X'.2.2 ≤ b → X'.1 b = (0, 0)) : shX11 X' := by
  have hs := sh11_S h
  exact ⟨ext_k hs he (sh11_k h), ext_f hs h97 he (sh11_k h) (by decide) (sh11_F0 h), ext_k hs he (sh11_T0 h), ext_f hs h97 he (sh11_k h) (by decide) (sh11_F1 h), ext_k hs he (sh11_T1 h), ext_f hs h97 he (sh11_k h) (by decide) (sh11_F2 h), ext_k hs he (sh11_T2 h), ext_f hs h97 he (sh11_k h) (by decide) (sh11_F3 h), ext_k hs he (sh11_T3 h), ext_f hs h97 he (sh11_k h) (by decide) (sh11_F4 h), ext_k hs he (sh11_T4 h), ext_f hs h97 he (sh11_k h) (by decide) (sh11_F5 h), ext_k hs he (sh11_T5 h), ext_f hs h97 he (sh11_k h) (by decide) (sh11_F7 h), ext_k hs he (sh11_T7 h), ext_f hs h97 he (sh11_k h) (by decide) (sh11_F8 h), ext_k hs he (sh11_T8 h), ext_f hs h97 he (sh11_k h) (by decide) (sh11_F10 h), ext_k hs he (sh11_T10 h), ext_f hs h97 he (sh11_k h) (by decide) (sh11_F11 h), ext_k hs he (sh11_T11 h), ext_f hs h97 he (sh11_k h) (by decide) (sh11_F12 h), ext_k hs he (sh11_T12 h), ext_f hs h97 he (sh11_k h) (by decide) (sh11_F14 h), ext_k hs he (sh11_T14 h), ext_f hs h97 he (sh11_k h) (by decide) (sh11_F16 h), ext_k hs he (sh11_T16 h), ext_f hs h97 he (sh11_k h) (by decide) (sh11_F17 h), ext_k hs he (sh11_T17 h), ext_f hs h97 he (sh11_k h) (by decide) (sh11_F18 h), ext_k hs he (sh11_T18 h), ext_f hs h97 he (sh11_k h) (by decide) (sh11_F19 h), ext_k hs he (sh11_T19 h), ext_f hs h97 he (sh11_k h) (by decide) (sh11_F21 h), ext_k hs he (sh11_T21 h), ext_f hs h97 he (sh11_k h) (by decide) (sh11_F22 h), ext_k hs he (sh11_T22 h), ext_f hs h97 he (sh11_k h) (by decide) (sh11_F23 h), ext_k hs he (sh11_T23 h), ext_f hs h97 he (sh11_k h) (by decide) (sh11_F24 h), ext_k hs he (sh11_T24 h), ext_f hs h97 he (sh11_k h) (by decide) (sh11_F25 h), ext_k hs he (sh11_T25 h), ext_f hs h97 he (sh11_k h) (by decide) (sh11_F26 h), ext_k hs he (sh11_T26 h), ext_f hs h97 he (sh11_k h) (by decide) (sh11_F28 h), ext_k hs he (sh11_T28 h), ext_f hs h97 he (sh11_k h) (by decide) (sh11_F29 h), ext_k hs he (sh11_T29 h), ext_f hs h97 he (sh11_k h) (by decide) (sh11_F30 h), ext_k hs he (sh11_T30 h), ext_f hs h97 he (sh11_k h) (by decide) (sh11_F31 h), ext_k hs he (sh11_T31 h), ext_f hs h97 he (sh11_k h) (by decide) (sh11_F32 h), ext_k hs he (sh11_T32 h), ext_f hs h97 he (sh11_k h) (by decide) (sh11_F33 h), ext_k hs he (sh11_T33 h), ext_f hs h97 he (sh11_k h) (by decide) (sh11_F34 h), ext_k hs he (sh11_T34 h), ext_f hs h97 he (sh11_k h) (by decide) (sh11_F35 h), ext_k hs he (sh11_T35 h), ext_f hs h97 he (sh11_k h) (by decide) (sh11_F36 h), ext_k hs he (sh11_T36 h), ext_f hs h97 he (sh11_k h) (by decide) (sh11_F37 h), ext_k hs he (sh11_T37 h), ext_f hs h97 he (sh11_k h) (by decide) (sh11_F40 h), ext_k hs he (sh11_T40 h), ext_f hs h97 he (sh11_k h) (by decide) (sh11_F41 h), ext_k hs he (sh11_T41 h), ext_f hs h97 he (sh11_k h) (by decide) (sh11_F42 h), ext_k hs he (sh11_T42 h), ext_f hs h97 he (sh11_k h) (by decide) (sh11_F48 h), ext_k hs he (sh11_T48 h), ext_f hs h97 he (sh11_k h) (by decide) (sh11_F49 h), ext_k hs he (sh11_T49 h), ext_f hs h97 he (sh11_k h) (by decide) (sh11_F50 h), ext_k hs he (sh11_T50 h), Nat.le_trans (sh11_Z h) he.1, hs'⟩

def inb (i : Int32) (n : Nat) : Bool := !(decide (i < 0)) && decide (i.toNatClampNeg < n)
theorem inb_in {i : Int32} {n : Nat} (h : inb i n = true) : vp_in i n := by
  simp only [inb, Bool.and_eq_true, Bool.not_eq_true', decide_eq_false_iff_not, decide_eq_true_eq] at h
  intro q
  rcases q with q | q
  · exact h.1 q
  · omega
theorem inb_lt {i : Int32} {n : Nat} (h : inb i n = true) : i.toNatClampNeg < n := by
  simp only [inb, Bool.and_eq_true, Bool.not_eq_true', decide_eq_false_iff_not, decide_eq_true_eq] at h
  exact h.2
def cpok (sp dp n : Int32) (n0 n1 : Nat) : Bool := (!(decide (sp < 0)) && !(decide (dp < 0)) && !(decide (n < 0))) && (decide (sp.toNatClampNeg + n.toNatClampNeg ≤ n0) && decide (dp.toNatClampNeg + n.toNatClampNeg ≤ n1))
theorem cpok_ok {sp dp n : Int32} {n0 n1 : Nat} (h : cpok sp dp n n0 n1 = true) : (¬ sp < 0 ∧ ¬ dp < 0 ∧ ¬ n < 0) ∧ sp.toNatClampNeg + n.toNatClampNeg ≤ n0 ∧ dp.toNatClampNeg + n.toNatClampNeg ≤ n1 := by
  simp only [cpok, Bool.and_eq_true, Bool.not_eq_true', decide_eq_false_iff_not, decide_eq_true_eq] at h
  exact ⟨⟨h.1.1.1, h.1.1.2, h.1.2⟩, h.2⟩
theorem of_guard {α : Type} {b : Bool} {e : Option α} {r : α} (h : (if b = true then e else none) = some r) : b = true ∧ e = some r := by
  by_cases hb : b = true
  · rw [if_pos hb] at h; exact ⟨hb, h⟩
  · rw [if_neg hb] at h; cases h
theorem of_guardN {α : Type} {c : Prop} [Decidable c] {e : Option α} {r : α} (h : (if c then none else e) = some r) : ¬ c ∧ e = some r := by
  by_cases hb : c
  · rw [if_pos hb] at h; cases h
  · rw [if_neg hb] at h; exact ⟨hb, h⟩
theorem of_guardP {α : Type} {c : Prop} [Decidable c] {e : Option α} {r : α} (h : (if c then e else none) = some r) : c ∧ e = some r := by
  by_cases hb : c
  · rw [if_pos hb] at h; exact ⟨hb, h⟩
  · rw [if_neg hb] at h; cases h
theorem if_t {α : Type} {c : Prop} [Decidable c] {a b : Option α} {r : α} (hc : c) (h : (if c then a else b) = some r) : a = some r := by rw [if_pos hc] at h; exact h
theorem if_f {α : Type} {c : Prop} [Decidable c] {a b : Option α} {r : α} (hc : ¬ c) (h : (if c then a else b) = some r) : b = some r := by rw [if_neg hc] at h; exact h
def letv {α β : Type} (x : α) (k : α → β) : β := k x
theorem of_let {α β : Type} {x : α} {k : α → Option β} {r : β} (h : letv x k = some r) : ∃ y, y = x ∧ k y = some r := ⟨x, rfl, h⟩
def loopN {σ ρ : Type} (f : σ → Option (σ ⊕ ρ)) : Nat → σ → Option ρ
  | 0, _ => none
  | n + 1, s => match f s with
    | none => none
    | some (.inl s') => loopN f n s'
    | some (.inr r) => some r
theorem loopN_zero {σ ρ : Type} {f : σ → Option (σ ⊕ ρ)} {s : σ} {r : ρ} (h : loopN f 0 s = some r) : False := by cases h
theorem loopN_succ {σ ρ : Type} {f : σ → Option (σ ⊕ ρ)} {n : Nat} {s : σ} {r : ρ} (h : loopN f (n + 1) s = some r) : (∃ s', f s = some (.inl s') ∧ loopN f n s' = some r) ∨ f s = some (.inr r) := by
  unfold loopN at h
  split at h
  · cases h
  · rename_i s' e; exact Or.inl ⟨s', e, h⟩
  · rename_i r' e; cases h; exact Or.inr e
def bnd1 {α1 β : Type} (o : Option (α1)) (k : α1 → Option β) : Option β := match o with
  | none => none
  | some s => k s
theorem of_bnd1 {α1 β : Type} {o : Option (α1)} {k : α1 → Option β} {r : β} (h : bnd1 o k = some r) : ∃ a1, o = some a1 ∧ k a1 = some r := by
  cases o with
  | none => cases h
  | some s => exact ⟨s, rfl, h⟩
def bns1 {α1 ρ β : Type} (o : Option ((α1) ⊕ ρ)) (k : α1 → Option β) (k2 : ρ → Option β) : Option β := match o with
  | none => none
  | some (.inl s) => k s
  | some (.inr q) => k2 q
theorem of_bns1 {α1 ρ β : Type} {o : Option ((α1) ⊕ ρ)} {k : α1 → Option β} {k2 : ρ → Option β} {r : β} (h : bns1 o k k2 = some r) : (∃ a1, o = some (.inl a1) ∧ k a1 = some r) ∨ (∃ q, o = some (.inr q) ∧ k2 q = some r) := by
  cases o with
  | none => cases h
  | some s => cases s with
    | inl s => exact Or.inl ⟨s, rfl, h⟩
    | inr q => exact Or.inr ⟨q, rfl, h⟩
def bnd2 {α1 α2 β : Type} (o : Option (α1 × α2)) (k : α1 → α2 → Option β) : Option β := match o with
  | none => none
  | some s => k s.1 s.2
theorem of_bnd2 {α1 α2 β : Type} {o : Option (α1 × α2)} {k : α1 → α2 → Option β} {r : β} (h : bnd2 o k = some r) : ∃ a1 a2, o = some (a1, a2) ∧ k a1 a2 = some r := by
  cases o with
  | none => cases h
  | some s => exact ⟨s.1, s.2, rfl, h⟩
def bns2 {α1 α2 ρ β : Type} (o : Option ((α1 × α2) ⊕ ρ)) (k : α1 → α2 → Option β) (k2 : ρ → Option β) : Option β := match o with
  | none => none
  | some (.inl s) => k s.1 s.2
  | some (.inr q) => k2 q
theorem of_bns2 {α1 α2 ρ β : Type} {o : Option ((α1 × α2) ⊕ ρ)} {k : α1 → α2 → Option β} {k2 : ρ → Option β} {r : β} (h : bns2 o k k2 = some r) : (∃ a1 a2, o = some (.inl (a1, a2)) ∧ k a1 a2 = some r) ∨ (∃ q, o = some (.inr q) ∧ k2 q = some r) := by
  cases o with
  | none => cases h
  | some s => cases s with
    | inl s => exact Or.inl ⟨s.1, s.2, rfl, h⟩
    | inr q => exact Or.inr ⟨q, rfl, h⟩
def bnd3 {α1 α2 α3 β : Type} (o : Option (α1 × α2 × α3)) (k : α1 → α2 → α3 → Option β) : Option β := match o with
  | none => none
  | some s => k s.1 s.2.1 s.2.2
theorem of_bnd3 {α1 α2 α3 β : Type} {o : Option (α1 × α2 × α3)} {k : α1 → α2 → α3 → Option β} {r : β} (h : bnd3 o k = some r) : ∃ a1 a2 a3, o = some (a1, a2, a3) ∧ k a1 a2 a3 = some r := by
  cases o with
  | none => cases h
  | some s => exact ⟨s.1, s.2.1, s.2.2, rfl, h⟩
def bns3 {α1 α2 α3 ρ β : Type} (o : Option ((α1 × α2 × α3) ⊕ ρ)) (k : α1 → α2 → α3 → Option β) (k2 : ρ → Option β) : Option β := match o with
  | none => none
  | some (.inl s) => k s.1 s.2.1 s.2.2
  | some (.inr q) => k2 q
theorem of_bns3 {α1 α2 α3 ρ β : Type} {o : Option ((α1 × α2 × α3) ⊕ ρ)} {k : α1 → α2 → α3 → Option β} {k2 : ρ → Option β} {r : β} (h : bns3 o k k2 = some r) : (∃ a1 a2 a3, o = some (.inl (a1, a2, a3)) ∧ k a1 a2 a3 = some r) ∨ (∃ q, o = some (.inr q) ∧ k2 q = some r) := by
  cases o with
  | none => cases h
  | some s => cases s with
    | inl s => exact Or.inl ⟨s.1, s.2.1, s.2.2, rfl, h⟩
    | inr q => exact Or.inr ⟨q, rfl, h⟩
def bnd4 {α1 α2 α3 α4 β : Type} (o : Option (α1 × α2 × α3 × α4)) (k : α1 → α2 → α3 → α4 → Option β) : Option β := match o with
  | none => none
  | some s => k s.1 s.2.1 s.2.2.1 s.2.2.2
theorem of_bnd4 {α1 α2 α3 α4 β : Type} {o : Option (α1 × α2 × α3 × α4)} {k : α1 → α2 → α3 → α4 → Option β} {r : β} (h : bnd4 o k = some r) : ∃ a1 a2 a3 a4, o = some (a1, a2, a3, a4) ∧ k a1 a2 a3 a4 = some r := by
  cases o with
  | none => cases h
  | some s => exact ⟨s.1, s.2.1, s.2.2.1, s.2.2.2, rfl, h⟩
def bns4 {α1 α2 α3 α4 ρ β : Type} (o : Option ((α1 × α2 × α3 × α4) ⊕ ρ)) (k : α1 → α2 → α3 → α4 → Option β) (k2 : ρ → Option β) : Option β := match o with
  | none => none
  | some (.inl s) => k s.1 s.2.1 s.2.2.1 s.2.2.2
  | some (.inr q) => k2 q
theorem of_bns4 {α1 α2 α3 α4 ρ β : Type} {o : Option ((α1 × α2 × α3 × α4) ⊕ ρ)} {k : α1 → α2 → α3 → α4 → Option β} {k2 : ρ → Option β} {r : β} (h : bns4 o k k2 = some r) : (∃ a1 a2 a3 a4, o = some (.inl (a1, a2, a3, a4)) ∧ k a1 a2 a3 a4 = some r) ∨ (∃ q, o = some (.inr q) ∧ k2 q = some r) := by
  cases o with
  | none => cases h
  | some s => cases s with
    | inl s => exact Or.inl ⟨s.1, s.2.1, s.2.2.1, s.2.2.2, rfl, h⟩
    | inr q => exact Or.inr ⟨q, rfl, h⟩
def bnd5 {α1 α2 α3 α4 α5 β : Type} (o : Option (α1 × α2 × α3 × α4 × α5)) (k : α1 → α2 → α3 → α4 → α5 → Option β) : Option β := match o with
  | none => none
  | some s => k s.1 s.2.1 s.2.2.1 s.2.2.2.1 s.2.2.2.2
theorem of_bnd5 {α1 α2 α3 α4 α5 β : Type} {o : Option (α1 × α2 × α3 × α4 × α5)} {k : α1 → α2 → α3 → α4 → α5 → Option β} {r : β} (h : bnd5 o k = some r) : ∃ a1 a2 a3 a4 a5, o = some (a1, a2, a3, a4, a5) ∧ k a1 a2 a3 a4 a5 = some r := by
  cases o with
  | none => cases h
  | some s => exact ⟨s.1, s.2.1, s.2.2.1, s.2.2.2.1, s.2.2.2.2, rfl, h⟩
def bns5 {α1 α2 α3 α4 α5 ρ β : Type} (o : Option ((α1 × α2 × α3 × α4 × α5) ⊕ ρ)) (k : α1 → α2 → α3 → α4 → α5 → Option β) (k2 : ρ → Option β) : Option β := match o with
  | none => none
  | some (.inl s) => k s.1 s.2.1 s.2.2.1 s.2.2.2.1 s.2.2.2.2
  | some (.inr q) => k2 q
theorem of_bns5 {α1 α2 α3 α4 α5 ρ β : Type} {o : Option ((α1 × α2 × α3 × α4 × α5) ⊕ ρ)} {k : α1 → α2 → α3 → α4 → α5 → Option β} {k2 : ρ → Option β} {r : β} (h : bns5 o k k2 = some r) : (∃ a1 a2 a3 a4 a5, o = some (.inl (a1, a2, a3, a4, a5)) ∧ k a1 a2 a3 a4 a5 = some r) ∨ (∃ q, o = some (.inr q) ∧ k2 q = some r) := by
  cases o with
  | none => cases h
  | some s => cases s with
    | inl s => exact Or.inl ⟨s.1, s.2.1, s.2.2.1, s.2.2.2.1, s.2.2.2.2, rfl, h⟩
    | inr q => exact Or.inr ⟨q, rfl, h⟩
def bnd6 {α1 α2 α3 α4 α5 α6 β : Type} (o : Option (α1 × α2 × α3 × α4 × α5 × α6)) (k : α1 → α2 → α3 → α4 → α5 → α6 → Option β) : Option β := match o with
  | none => none
  | some s => k s.1 s.2.1 s.2.2.1 s.2.2.2.1 s.2.2.2.2.1 s.2.2.2.2.2
theorem of_bnd6 {α1 α2 α3 α4 α5 α6 β : Type} {o : Option (α1 × α2 × α3 × α4 × α5 × α6)} {k : α1 → α2 → α3 → α4 → α5 → α6 → Option β} {r : β} (h : bnd6 o k = some r) : ∃ a1 a2 a3 a4 a5 a6, o = some (a1, a2, a3, a4, a5, a6) ∧ k a1 a2 a3 a4 a5 a6 = some r := by
  cases o with
  | none => cases h
  | some s => exact ⟨s.1, s.2.1, s.2.2.1, s.2.2.2.1, s.2.2.2.2.1, s.2.2.2.2.2, rfl, h⟩
def bns6 {α1 α2 α3 α4 α5 α6 ρ β : Type} (o : Option ((α1 × α2 × α3 × α4 × α5 × α6) ⊕ ρ)) (k : α1 → α2 → α3 → α4 → α5 → α6 → Option β) (k2 : ρ → Option β) : Option β := match o with
  | none => none
  | some (.inl s) => k s.1 s.2.1 s.2.2.1 s.2.2.2.1 s.2.2.2.2.1 s.2.2.2.2.2
  | some (.inr q) => k2 q
theorem of_bns6 {α1 α2 α3 α4 α5 α6 ρ β : Type} {o : Option ((α1 × α2 × α3 × α4 × α5 × α6) ⊕ ρ)} {k : α1 → α2 → α3 → α4 → α5 → α6 → Option β} {k2 : ρ → Option β} {r : β} (h : bns6 o k k2 = some r) : (∃ a1 a2 a3 a4 a5 a6, o = some (.inl (a1, a2, a3, a4, a5, a6)) ∧ k a1 a2 a3 a4 a5 a6 = some r) ∨ (∃ q, o = some (.inr q) ∧ k2 q = some r) := by
  cases o with
  | none => cases h
  | some s => cases s with
    | inl s => exact Or.inl ⟨s.1, s.2.1, s.2.2.1, s.2.2.2.1, s.2.2.2.2.1, s.2.2.2.2.2, rfl, h⟩
    | inr q => exact Or.inr ⟨q, rfl, h⟩
def bnd7 {α1 α2 α3 α4 α5 α6 α7 β : Type} (o : Option (α1 × α2 × α3 × α4 × α5 × α6 × α7)) (k : α1 → α2 → α3 → α4 → α5 → α6 → α7 → Option β) : Option β := match o with
  | none => none
  | some s => k s.1 s.2.1 s.2.2.1 s.2.2.2.1 s.2.2.2.2.1 s.2.2.2.2.2.1 s.2.2.2.2.2.2
theorem of_bnd7 {α1 α2 α3 α4 α5 α6 α7 β : Type} {o : Option (α1 × α2 × α3 × α4 × α5 × α6 × α7)} {k : α1 → α2 → α3 → α4 → α5 → α6 → α7 → Option β} {r : β} (h : bnd7 o k = some r) : ∃ a1 a2 a3 a4 a5 a6 a7, o = some (a1, a2, a3, a4, a5, a6, a7) ∧ k a1 a2 a3 a4 a5 a6 a7 = some r := by
  cases o with
  | none => cases h
  | some s => exact ⟨s.1, s.2.1, s.2.2.1, s.2.2.2.1, s.2.2.2.2.1, s.2.2.2.2.2.1, s.2.2.2.2.2.2, rfl, h⟩
def bns7 {α1 α2 α3 α4 α5 α6 α7 ρ β : Type} (o : Option ((α1 × α2 × α3 × α4 × α5 × α6 × α7) ⊕ ρ)) (k : α1 → α2 → α3 → α4 → α5 → α6 → α7 → Option β) (k2 : ρ → Option β) : Option β := match o with
  | none => none
  | some (.inl s) => k s.1 s.2.1 s.2.2.1 s.2.2.2.1 s.2.2.2.2.1 s.2.2.2.2.2.1 s.2.2.2.2.2.2
  | some (.inr q) => k2 q
theorem of_bns7 {α1 α2 α3 α4 α5 α6 α7 ρ β : Type} {o : Option ((α1 × α2 × α3 × α4 × α5 × α6 × α7) ⊕ ρ)} {k : α1 → α2 → α3 → α4 → α5 → α6 → α7 → Option β} {k2 : ρ → Option β} {r : β} (h : bns7 o k k2 = some r) : (∃ a1 a2 a3 a4 a5 a6 a7, o = some (.inl (a1, a2, a3, a4, a5, a6, a7)) ∧ k a1 a2 a3 a4 a5 a6 a7 = some r) ∨ (∃ q, o = some (.inr q) ∧ k2 q = some r) := by
  cases o with
  | none => cases h
  | some s => cases s with
    | inl s => exact Or.inl ⟨s.1, s.2.1, s.2.2.1, s.2.2.2.1, s.2.2.2.2.1, s.2.2.2.2.2.1, s.2.2.2.2.2.2, rfl, h⟩
    | inr q => exact Or.inr ⟨q, rfl, h⟩
def bnd8 {α1 α2 α3 α4 α5 α6 α7 α8 β : Type} (o : Option (α1 × α2 × α3 × α4 × α5 × α6 × α7 × α8)) (k : α1 → α2 → α3 → α4 → α5 → α6 → α7 → α8 → Option β) : Option β := match o with
  | none => none
  | some s => k s.1 s.2.1 s.2.2.1 s.2.2.2.1 s.2.2.2.2.1 s.2.2.2.2.2.1 s.2.2.2.2.2.2.1 s.2.2.2.2.2.2.2
theorem of_bnd8 {α1 α2 α3 α4 α5 α6 α7 α8 β : Type} {o : Option (α1 × α2 × α3 × α4 × α5 × α6 × α7 × α8)} {k : α1 → α2 → α3 → α4 → α5 → α6 → α7 → α8 → Option β} {r : β} (h : bnd8 o k = some r) : ∃ a1 a2 a3 a4 a5 a6 a7 a8, o = some (a1, a2, a3, a4, a5, a6, a7, a8) ∧ k a1 a2 a3 a4 a5 a6 a7 a8 = some r := by
  cases o with
  | none => cases h
  | some s => exact ⟨s.1, s.2.1, s.2.2.1, s.2.2.2.1, s.2.2.2.2.1, s.2.2.2.2.2.1, s.2.2.2.2.2.2.1, s.2.2.2.2.2.2.2, rfl, h⟩
def bns8 {α1 α2 α3 α4 α5 α6 α7 α8 ρ β : Type} (o : Option ((α1 × α2 × α3 × α4 × α5 × α6 × α7 × α8) ⊕ ρ)) (k : α1 → α2 → α3 → α4 → α5 → α6 → α7 → α8 → Option β) (k2 : ρ → Option β) : Option β := match o with
  | none => none
  | some (.inl s) => k s.1 s.2.1 s.2.2.1 s.2.2.2.1 s.2.2.2.2.1 s.2.2.2.2.2.1 s.2.2.2.2.2.2.1 s.2.2.2.2.2.2.2
  | some (.inr q) => k2 q
theorem of_bns8 {α1 α2 α3 α4 α5 α6 α7 α8 ρ β : Type} {o : Option ((α1 × α2 × α3 × α4 × α5 × α6 × α7 × α8) ⊕ ρ)} {k : α1 → α2 → α3 → α4 → α5 → α6 → α7 → α8 → Option β} {k2 : ρ → Option β} {r : β} (h : bns8 o k k2 = some r) : (∃ a1 a2 a3 a4 a5 a6 a7 a8, o = some (.inl (a1, a2, a3, a4, a5, a6, a7, a8)) ∧ k a1 a2 a3 a4 a5 a6 a7 a8 = some r) ∨ (∃ q, o = some (.inr q) ∧ k2 q = some r) := by
  cases o with
  | none => cases h
  | some s => cases s with
    | inl s => exact Or.inl ⟨s.1, s.2.1, s.2.2.1, s.2.2.2.1, s.2.2.2.2.1, s.2.2.2.2.2.1, s.2.2.2.2.2.2.1, s.2.2.2.2.2.2.2, rfl, h⟩
    | inr q => exact Or.inr ⟨q, rfl, h⟩
def bnd9 {α1 α2 α3 α4 α5 α6 α7 α8 α9 β : Type} (o : Option (α1 × α2 × α3 × α4 × α5 × α6 × α7 × α8 × α9)) (k : α1 → α2 → α3 → α4 → α5 → α6 → α7 → α8 → α9 → Option β) : Option β := match o with
  | none => none
  | some s => k s.1 s.2.1 s.2.2.1 s.2.2.2.1 s.2.2.2.2.1 s.2.2.2.2.2.1 s.2.2.2.2.2.2.1 s.2.2.2.2.2.2.2.1 s.2.2.2.2.2.2.2.2
theorem of_bnd9 {α1 α2 α3 α4 α5 α6 α7 α8 α9 β : Type} {o : Option (α1 × α2 × α3 × α4 × α5 × α6 × α7 × α8 × α9)} {k : α1 → α2 → α3 → α4 → α5 → α6 → α7 → α8 → α9 → Option β} {r : β} (h : bnd9 o k = some r) : ∃ a1 a2 a3 a4 a5 a6 a7 a8 a9, o = some (a1, a2, a3, a4, a5, a6, a7, a8, a9) ∧ k a1 a2 a3 a4 a5 a6 a7 a8 a9 = some r := by
  cases o with
  | none => cases h
  | some s => exact ⟨s.1, s.2.1, s.2.2.1, s.2.2.2.1, s.2.2.2.2.1, s.2.2.2.2.2.1, s.2.2.2.2.2.2.1, s.2.2.2.2.2.2.2.1, s.2.2.2.2.2.2.2.2, rfl, h⟩
def bns9 {α1 α2 α3 α4 α5 α6 α7 α8 α9 ρ β : Type} (o : Option ((α1 × α2 × α3 × α4 × α5 × α6 × α7 × α8 × α9) ⊕ ρ)) (k : α1 → α2 → α3 → α4 → α5 → α6 → α7 → α8 → α9 → Option β) (k2 : ρ → Option β) : Option β := match o with
  | none => none
  | some (.inl s) => k s.1 s.2.1 s.2.2.1 s.2.2.2.1 s.2.2.2.2.1 s.2.2.2.2.2.1 s.2.2.2.2.2.2.1 s.2.2.2.2.2.2.2.1 s.2.2.2.2.2.2.2.2
  | some (.inr q) => k2 q
theorem of_bns9 {α1 α2 α3 α4 α5 α6 α7 α8 α9 ρ β : Type} {o : Option ((α1 × α2 × α3 × α4 × α5 × α6 × α7 × α8 × α9) ⊕ ρ)} {k : α1 → α2 → α3 → α4 → α5 → α6 → α7 → α8 → α9 → Option β} {k2 : ρ → Option β} {r : β} (h : bns9 o k k2 = some r) : (∃ a1 a2 a3 a4 a5 a6 a7 a8 a9, o = some (.inl (a1, a2, a3, a4, a5, a6, a7, a8, a9)) ∧ k a1 a2 a3 a4 a5 a6 a7 a8 a9 = some r) ∨ (∃ q, o = some (.inr q) ∧ k2 q = some r) := by
  cases o with
  | none => cases h
  | some s => cases s with
    | inl s => exact Or.inl ⟨s.1, s.2.1, s.2.2.1, s.2.2.2.1, s.2.2.2.2.1, s.2.2.2.2.2.1, s.2.2.2.2.2.2.1, s.2.2.2.2.2.2.2.1, s.2.2.2.2.2.2.2.2, rfl, h⟩
    | inr q => exact Or.inr ⟨q, rfl, h⟩
def bnd10 {α1 α2 α3 α4 α5 α6 α7 α8 α9 α10 β : Type} (o : Option (α1 × α2 × α3 × α4 × α5 × α6 × α7 × α8 × α9 × α10)) (k : α1 → α2 → α3 → α4 → α5 → α6 → α7 → α8 → α9 → α10 → Option β) : Option β := match o with
  | none => none
  | some s => k s.1 s.2.1 s.2.2.1 s.2.2.2.1 s.2.2.2.2.1 s.2.2.2.2.2.1 s.2.2.2.2.2.2.1 s.2.2.2.2.2.2.2.1 s.2.2.2.2.2.2.2.2.1 s.2.2.2.2.2.2.2.2.2
theorem of_bnd10 {α1 α2 α3 α4 α5 α6 α7 α8 α9 α10 β : Type} {o : Option (α1 × α2 × α3 × α4 × α5 × α6 × α7 × α8 × α9 × α10)} {k : α1 → α2 → α3 → α4 → α5 → α6 → α7 → α8 → α9 → α10 → Option β} {r : β} (h : bnd10 o k = some r) : ∃ a1 a2 a3 a4 a5 a6 a7 a8 a9 a10, o = some (a1, a2, a3, a4, a5, a6, a7, a8, a9, a10) ∧ k a1 a2 a3 a4 a5 a6 a7 a8 a9 a10 = some r := by
  cases o with
  | none => cases h
  | some s => exact ⟨s.1, s.2.1, s.2.2.1, s.2.2.2.1, s.2.2.2.2.1, s.2.2.2.2.2.1, s.2.2.2.2.2.2.1, s.2.2.2.2.2.2.2.1, s.2.2.2.2.2.2.2.2.1, s.2.2.2.2.2.2.2.2.2, rfl, h⟩
def bns10 {α1 α2 α3 α4 α5 α6 α7 α8 α9 α10 ρ β : Type} (o : Option ((α1 × α2 × α3 × α4 × α5 × α6 × α7 × α8 × α9 × α10) ⊕ ρ)) (k : α1 → α2 → α3 → α4 → α5 → α6 → α7 → α8 → α9 → α10 → Option β) (k2 : ρ → Option β) : Option β := match o with
  | none => none
  | some (.inl s) => k s.1 s.2.1 s.2.2.1 s.2.2.2.1 s.2.2.2.2.1 s.2.2.2.2.2.1 s.2.2.2.2.2.2.1 s.2.2.2.2.2.2.2.1 s.2.2.2.2.2.2.2.2.1 s.2.2.2.2.2.2.2.2.2
  | some (.inr q) => k2 q
theorem of_bns10 {α1 α2 α3 α4 α5 α6 α7 α8 α9 α10 ρ β : Type} {o : Option ((α1 × α2 × α3 × α4 × α5 × α6 × α7 × α8 × α9 × α10) ⊕ ρ)} {k : α1 → α2 → α3 → α4 → α5 → α6 → α7 → α8 → α9 → α10 → Option β} {k2 : ρ → Option β} {r : β} (h : bns10 o k k2 = some r) : (∃ a1 a2 a3 a4 a5 a6 a7 a8 a9 a10, o = some (.inl (a1, a2, a3, a4, a5, a6, a7, a8, a9, a10)) ∧ k a1 a2 a3 a4 a5 a6 a7 a8 a9 a10 = some r) ∨ (∃ q, o = some (.inr q) ∧ k2 q = some r) := by
  cases o with
  | none => cases h
  | some s => cases s with
    | inl s => exact Or.inl ⟨s.1, s.2.1, s.2.2.1, s.2.2.2.1, s.2.2.2.2.1, s.2.2.2.2.2.1, s.2.2.2.2.2.2.1, s.2.2.2.2.2.2.2.1, s.2.2.2.2.2.2.2.2.1, s.2.2.2.2.2.2.2.2.2, rfl, h⟩
    | inr q => exact Or.inr ⟨q, rfl, h⟩
def roomB (rm rm' : RM) (mt' : MT) (kn : Nat × Nat) : Bool := (Nat.ble (rm'.1.1 + 1) rm.1.1 && Nat.ble (8 + (mt'.2.2 + 11) + rm'.1.2.1) rm.1.2.1) && (Nat.ble (kn.1 + rm'.1.2.2.1) rm.1.2.2.1 && Nat.ble (kn.2 + rm'.1.2.2.2) rm.1.2.2.2)
theorem ROOM_of {rm rm' : RM} {mt' : MT} {kn : Nat × Nat} (h : roomB rm rm' mt' kn = true) : ROOM rm rm' mt' kn := by
  simp only [roomB, Bool.and_eq_true] at h
  exact ⟨⟨Nat.le_of_ble_eq_true h.1.1, Nat.le_of_ble_eq_true h.1.2⟩, Nat.le_of_ble_eq_true h.2.1, Nat.le_of_ble_eq_true h.2.2⟩
theorem kn_eq {kn : Nat × Nat} {rm' : RM} (hz : rm'.1.2.2 = (0, 0)) : (kn.1 + rm'.1.2.2.1, kn.2 + rm'.1.2.2.2) = kn := by rw [hz]; rfl
section EW
variable {G : GX} {mt : MT} {rm : RM} {Q : State → Prop} {kn : Nat × Nat} {X X' : MX} {I I' : MI} {L L' : ML} {pc pc' : Nat} {lv lv' : List (Nat × Value)} {st stk : List Value}
theorem ex_callV_i {a ci : Nat} {v : Int32} {index n : Nat} {y : MethodName} {mt' : MT} {rm' : RM} {args : Nat → List Value} (As : List Value) (hd : decode mt.2.1 pc = .ok (.invokevirtual index, 3)) (hcl : CLV mt.1 index y mt' rm'.2.2 n) (hcon : Con G mt' y rm' args X I L (some (.int v)) X' I' L') (ha : args (gB G) = .ref (gB G + a) :: As) (hk : X.1 a = (1, ci)) (hci : ∃ T N, vwCl[ci]? = some (y.cls, T, N)) (hst : stk = As.reverse ++ .ref (gB G + a) :: st) (hn : As.length = n) (hR : ROOM rm rm' mt' kn) (hw : (st.map fun v => v.category).sum ≤ 8) (hz : rm'.1.2.2 = (0, 0)) (hp : pc + 3 = pc') (kk : Ex G mt rm Q kn X' I' L' pc' lv (.int v :: st)) : Ex G mt rm Q kn X I L pc lv stk :=
  ex_callV As hd hcl hcon ha hk hci hst hn hR hw hp (by rw [kn_eq hz]; exact kk)
theorem ex_callV_l {a ci : Nat} {v : Int64} {index n : Nat} {y : MethodName} {mt' : MT} {rm' : RM} {args : Nat → List Value} (As : List Value) (hd : decode mt.2.1 pc = .ok (.invokevirtual index, 3)) (hcl : CLV mt.1 index y mt' rm'.2.2 n) (hcon : Con G mt' y rm' args X I L (some (.long v)) X' I' L') (ha : args (gB G) = .ref (gB G + a) :: As) (hk : X.1 a = (1, ci)) (hci : ∃ T N, vwCl[ci]? = some (y.cls, T, N)) (hst : stk = As.reverse ++ .ref (gB G + a) :: st) (hn : As.length = n) (hR : ROOM rm rm' mt' kn) (hw : (st.map fun v => v.category).sum ≤ 8) (hz : rm'.1.2.2 = (0, 0)) (hp : pc + 3 = pc') (kk : Ex G mt rm Q kn X' I' L' pc' lv (.long v :: st)) : Ex G mt rm Q kn X I L pc lv stk :=
  ex_callV As hd hcl hcon ha hk hci hst hn hR hw hp (by rw [kn_eq hz]; exact kk)
theorem ex_callV_v {a ci : Nat} {index n : Nat} {y : MethodName} {mt' : MT} {rm' : RM} {args : Nat → List Value} (As : List Value) (hd : decode mt.2.1 pc = .ok (.invokevirtual index, 3)) (hcl : CLV mt.1 index y mt' rm'.2.2 n) (hcon : Con G mt' y rm' args X I L (none) X' I' L') (ha : args (gB G) = .ref (gB G + a) :: As) (hk : X.1 a = (1, ci)) (hci : ∃ T N, vwCl[ci]? = some (y.cls, T, N)) (hst : stk = As.reverse ++ .ref (gB G + a) :: st) (hn : As.length = n) (hR : ROOM rm rm' mt' kn) (hw : (st.map fun v => v.category).sum ≤ 8) (hz : rm'.1.2.2 = (0, 0)) (hp : pc + 3 = pc') (kk : Ex G mt rm Q kn X' I' L' pc' lv (st)) : Ex G mt rm Q kn X I L pc lv stk :=
  ex_callV As hd hcl hcon ha hk hci hst hn hR hw hp (by rw [kn_eq hz]; exact kk)
theorem ex_callV_r {a ci : Nat} {v : Nat} {index n : Nat} {y : MethodName} {mt' : MT} {rm' : RM} {args : Nat → List Value} (As : List Value) (hd : decode mt.2.1 pc = .ok (.invokevirtual index, 3)) (hcl : CLV mt.1 index y mt' rm'.2.2 n) (hcon : Con G mt' y rm' args X I L (some (.ref (gB G + v))) X' I' L') (ha : args (gB G) = .ref (gB G + a) :: As) (hk : X.1 a = (1, ci)) (hci : ∃ T N, vwCl[ci]? = some (y.cls, T, N)) (hst : stk = As.reverse ++ .ref (gB G + a) :: st) (hn : As.length = n) (hR : ROOM rm rm' mt' kn) (hw : (st.map fun v => v.category).sum ≤ 8) (hz : rm'.1.2.2 = (0, 0)) (hp : pc + 3 = pc') (kk : Ex G mt rm Q kn X' I' L' pc' lv (.ref (gB G + v) :: st)) : Ex G mt rm Q kn X I L pc lv stk :=
  ex_callV As hd hcl hcon ha hk hci hst hn hR hw hp (by rw [kn_eq hz]; exact kk)
theorem ex_callS_i {v : Int32} {index n : Nat} {y : MethodName} {mt' : MT} {rm' : RM} {args : Nat → List Value} (As : List Value) (hd : decode mt.2.1 pc = .ok (.invokestatic index, 3)) (hcl : CLS mt.1 index y mt' rm'.2.2 n) (hcon : Con G mt' y rm' args X I L (some (.int v)) X' I' L') (ha : args (gB G) = As) (hst : stk = As.reverse ++ st) (hn : As.length = n) (hR : ROOM rm rm' mt' kn) (hw : (st.map fun v => v.category).sum ≤ 8) (hz : rm'.1.2.2 = (0, 0)) (hp : pc + 3 = pc') (kk : Ex G mt rm Q kn X' I' L' pc' lv (.int v :: st)) : Ex G mt rm Q kn X I L pc lv stk :=
  ex_callS As hd hcl hcon ha hst hn hR hw hp (by rw [kn_eq hz]; exact kk)
theorem ex_callS_l {v : Int64} {index n : Nat} {y : MethodName} {mt' : MT} {rm' : RM} {args : Nat → List Value} (As : List Value) (hd : decode mt.2.1 pc = .ok (.invokestatic index, 3)) (hcl : CLS mt.1 index y mt' rm'.2.2 n) (hcon : Con G mt' y rm' args X I L (some (.long v)) X' I' L') (ha : args (gB G) = As) (hst : stk = As.reverse ++ st) (hn : As.length = n) (hR : ROOM rm rm' mt' kn) (hw : (st.map fun v => v.category).sum ≤ 8) (hz : rm'.1.2.2 = (0, 0)) (hp : pc + 3 = pc') (kk : Ex G mt rm Q kn X' I' L' pc' lv (.long v :: st)) : Ex G mt rm Q kn X I L pc lv stk :=
  ex_callS As hd hcl hcon ha hst hn hR hw hp (by rw [kn_eq hz]; exact kk)
theorem ex_callS_v {index n : Nat} {y : MethodName} {mt' : MT} {rm' : RM} {args : Nat → List Value} (As : List Value) (hd : decode mt.2.1 pc = .ok (.invokestatic index, 3)) (hcl : CLS mt.1 index y mt' rm'.2.2 n) (hcon : Con G mt' y rm' args X I L (none) X' I' L') (ha : args (gB G) = As) (hst : stk = As.reverse ++ st) (hn : As.length = n) (hR : ROOM rm rm' mt' kn) (hw : (st.map fun v => v.category).sum ≤ 8) (hz : rm'.1.2.2 = (0, 0)) (hp : pc + 3 = pc') (kk : Ex G mt rm Q kn X' I' L' pc' lv (st)) : Ex G mt rm Q kn X I L pc lv stk :=
  ex_callS As hd hcl hcon ha hst hn hR hw hp (by rw [kn_eq hz]; exact kk)
theorem ex_callS_r {v : Nat} {index n : Nat} {y : MethodName} {mt' : MT} {rm' : RM} {args : Nat → List Value} (As : List Value) (hd : decode mt.2.1 pc = .ok (.invokestatic index, 3)) (hcl : CLS mt.1 index y mt' rm'.2.2 n) (hcon : Con G mt' y rm' args X I L (some (.ref (gB G + v))) X' I' L') (ha : args (gB G) = As) (hst : stk = As.reverse ++ st) (hn : As.length = n) (hR : ROOM rm rm' mt' kn) (hw : (st.map fun v => v.category).sum ≤ 8) (hz : rm'.1.2.2 = (0, 0)) (hp : pc + 3 = pc') (kk : Ex G mt rm Q kn X' I' L' pc' lv (.ref (gB G + v) :: st)) : Ex G mt rm Q kn X I L pc lv stk :=
  ex_callS As hd hcl hcon ha hst hn hR hw hp (by rw [kn_eq hz]; exact kk)
theorem ex_callSN_i {v : Int32} {index n : Nat} {y : MethodName} {mt' : MT} {rm' : RM} {args : Nat → List Value} (As : List Value) (hd : decode mt.2.1 pc = .ok (.invokestatic index, 3)) (hcl : CLSN mt.1 index y mt' rm'.2.2 n) (hcon : Con G mt' y rm' args X I L (some (.int v)) X' I' L') (ha : args (gB G) = As) (hst : stk = As.reverse ++ st) (hn : As.length = n) (hR : ROOM rm rm' mt' kn) (hw : (st.map fun v => v.category).sum ≤ 8) (hz : rm'.1.2.2 = (0, 0)) (hp : pc + 3 = pc') (kk : Ex G mt rm Q kn X' I' L' pc' lv (.int v :: st)) : Ex G mt rm Q kn X I L pc lv stk :=
  ex_callSN As hd hcl hcon ha hst hn hR hw hp (by rw [kn_eq hz]; exact kk)
theorem ex_callSN_l {v : Int64} {index n : Nat} {y : MethodName} {mt' : MT} {rm' : RM} {args : Nat → List Value} (As : List Value) (hd : decode mt.2.1 pc = .ok (.invokestatic index, 3)) (hcl : CLSN mt.1 index y mt' rm'.2.2 n) (hcon : Con G mt' y rm' args X I L (some (.long v)) X' I' L') (ha : args (gB G) = As) (hst : stk = As.reverse ++ st) (hn : As.length = n) (hR : ROOM rm rm' mt' kn) (hw : (st.map fun v => v.category).sum ≤ 8) (hz : rm'.1.2.2 = (0, 0)) (hp : pc + 3 = pc') (kk : Ex G mt rm Q kn X' I' L' pc' lv (.long v :: st)) : Ex G mt rm Q kn X I L pc lv stk :=
  ex_callSN As hd hcl hcon ha hst hn hR hw hp (by rw [kn_eq hz]; exact kk)
theorem ex_callSN_v {index n : Nat} {y : MethodName} {mt' : MT} {rm' : RM} {args : Nat → List Value} (As : List Value) (hd : decode mt.2.1 pc = .ok (.invokestatic index, 3)) (hcl : CLSN mt.1 index y mt' rm'.2.2 n) (hcon : Con G mt' y rm' args X I L (none) X' I' L') (ha : args (gB G) = As) (hst : stk = As.reverse ++ st) (hn : As.length = n) (hR : ROOM rm rm' mt' kn) (hw : (st.map fun v => v.category).sum ≤ 8) (hz : rm'.1.2.2 = (0, 0)) (hp : pc + 3 = pc') (kk : Ex G mt rm Q kn X' I' L' pc' lv (st)) : Ex G mt rm Q kn X I L pc lv stk :=
  ex_callSN As hd hcl hcon ha hst hn hR hw hp (by rw [kn_eq hz]; exact kk)
theorem ex_callSN_r {v : Nat} {index n : Nat} {y : MethodName} {mt' : MT} {rm' : RM} {args : Nat → List Value} (As : List Value) (hd : decode mt.2.1 pc = .ok (.invokestatic index, 3)) (hcl : CLSN mt.1 index y mt' rm'.2.2 n) (hcon : Con G mt' y rm' args X I L (some (.ref (gB G + v))) X' I' L') (ha : args (gB G) = As) (hst : stk = As.reverse ++ st) (hn : As.length = n) (hR : ROOM rm rm' mt' kn) (hw : (st.map fun v => v.category).sum ≤ 8) (hz : rm'.1.2.2 = (0, 0)) (hp : pc + 3 = pc') (kk : Ex G mt rm Q kn X' I' L' pc' lv (.ref (gB G + v) :: st)) : Ex G mt rm Q kn X I L pc lv stk :=
  ex_callSN As hd hcl hcon ha hst hn hR hw hp (by rw [kn_eq hz]; exact kk)
theorem cmp_lt {x y : Int64} : lg_cmp x y < 0 ↔ x < y := by
  unfold lg_cmp
  by_cases h1 : y < x
  · rw [if_pos h1]; constructor
    · intro h; exact absurd h (by decide)
    · intro h; exact absurd (Int64.lt_trans h h1) (Int64.lt_irrefl)
  · rw [if_neg h1]
    by_cases h2 : x = y
    · rw [if_pos h2]; constructor
      · intro h; exact absurd h (by decide)
      · intro h; rw [h2] at h; exact absurd h (Int64.lt_irrefl)
    · rw [if_neg h2]; constructor
      · intro _
        rcases Int64.le_iff_lt_or_eq.mp (Int64.not_lt.mp h1) with h | h
        · exact h
        · exact absurd h h2
      · intro _; decide
theorem cmp_gt {x y : Int64} : 0 < lg_cmp x y ↔ y < x := by
  unfold lg_cmp
  by_cases h1 : y < x
  · rw [if_pos h1]; exact ⟨fun _ => h1, fun _ => by decide⟩
  · rw [if_neg h1]
    by_cases h2 : x = y
    · rw [if_pos h2]; exact ⟨fun h => absurd h (by decide), fun h => absurd h h1⟩
    · rw [if_neg h2]; exact ⟨fun h => absurd h (by decide), fun h => absurd h h1⟩
theorem cmp_eq {x y : Int64} : lg_cmp x y = 0 ↔ x = y := by
  unfold lg_cmp
  by_cases h1 : y < x
  · rw [if_pos h1]; exact ⟨fun h => absurd h (by decide), fun h => by rw [h] at h1; exact absurd h1 (Int64.lt_irrefl)⟩
  · rw [if_neg h1]
    by_cases h2 : x = y
    · rw [if_pos h2]; exact ⟨fun _ => h2, fun _ => rfl⟩
    · rw [if_neg h2]; exact ⟨fun h => absurd h (by decide), fun h => absurd h h2⟩
theorem ex_lifeq {x y : Int64} {off : Int} {tgt : Nat} (hd : decode mt.2.1 pc = .ok (.ifCond .eq off, 3)) (ht : (pc : Int) + off = (tgt : Int)) (hp : pc + 3 = pc') (kt : x = y → Ex G mt rm Q kn X I L tgt lv st) (kf : ¬ x = y → Ex G mt rm Q kn X I L pc' lv st) : Ex G mt rm Q kn X I L pc lv (.int (lg_cmp x y) :: st) :=
  ex_ifeq hd ht hp (fun h => kt (cmp_eq.mp h)) (fun h => kf (fun q => h (cmp_eq.mpr q)))
theorem ex_lifne {x y : Int64} {off : Int} {tgt : Nat} (hd : decode mt.2.1 pc = .ok (.ifCond .ne off, 3)) (ht : (pc : Int) + off = (tgt : Int)) (hp : pc + 3 = pc') (kt : x = y → Ex G mt rm Q kn X I L pc' lv st) (kf : ¬ x = y → Ex G mt rm Q kn X I L tgt lv st) : Ex G mt rm Q kn X I L pc lv (.int (lg_cmp x y) :: st) :=
  ex_ifne hd ht hp (fun h => kt (cmp_eq.mp h)) (fun h => kf (fun q => h (cmp_eq.mpr q)))
theorem ex_liflt {x y : Int64} {off : Int} {tgt : Nat} (hd : decode mt.2.1 pc = .ok (.ifCond .lt off, 3)) (ht : (pc : Int) + off = (tgt : Int)) (hp : pc + 3 = pc') (kt : x < y → Ex G mt rm Q kn X I L tgt lv st) (kf : ¬ x < y → Ex G mt rm Q kn X I L pc' lv st) : Ex G mt rm Q kn X I L pc lv (.int (lg_cmp x y) :: st) :=
  ex_iflt hd ht hp (fun h => kt (cmp_lt.mp h)) (fun h => kf (fun q => h (cmp_lt.mpr q)))
theorem ex_lifge {x y : Int64} {off : Int} {tgt : Nat} (hd : decode mt.2.1 pc = .ok (.ifCond .ge off, 3)) (ht : (pc : Int) + off = (tgt : Int)) (hp : pc + 3 = pc') (kt : x < y → Ex G mt rm Q kn X I L pc' lv st) (kf : ¬ x < y → Ex G mt rm Q kn X I L tgt lv st) : Ex G mt rm Q kn X I L pc lv (.int (lg_cmp x y) :: st) :=
  ex_ifge hd ht hp (fun h => kt (cmp_lt.mp h)) (fun h => kf (fun q => h (cmp_lt.mpr q)))
theorem ex_lifgt {x y : Int64} {off : Int} {tgt : Nat} (hd : decode mt.2.1 pc = .ok (.ifCond .gt off, 3)) (ht : (pc : Int) + off = (tgt : Int)) (hp : pc + 3 = pc') (kt : y < x → Ex G mt rm Q kn X I L tgt lv st) (kf : ¬ y < x → Ex G mt rm Q kn X I L pc' lv st) : Ex G mt rm Q kn X I L pc lv (.int (lg_cmp x y) :: st) :=
  ex_ifgt hd ht hp (fun h => kt (cmp_gt.mp h)) (fun h => kf (fun q => h (cmp_gt.mpr q)))
theorem ex_lifle {x y : Int64} {off : Int} {tgt : Nat} (hd : decode mt.2.1 pc = .ok (.ifCond .le off, 3)) (ht : (pc : Int) + off = (tgt : Int)) (hp : pc + 3 = pc') (kt : y < x → Ex G mt rm Q kn X I L pc' lv st) (kf : ¬ y < x → Ex G mt rm Q kn X I L tgt lv st) : Ex G mt rm Q kn X I L pc lv (.int (lg_cmp x y) :: st) :=
  ex_ifle hd ht hp (fun h => kt (cmp_gt.mp h)) (fun h => kf (fun q => h (cmp_gt.mpr q)))
theorem ex_iincc {i : Nat} {n : Int} {x c : Int32} (j : Nat) (hd : decode mt.2.1 pc = .ok (.iinc i n, 3)) (hj : lv[j]? = some (i, .int x)) (hc : Int32.ofInt n = c) (hn : i < mt.2.2) (hf : (i, Value.int (x + c)) :: lv.filter (fun q => !(q.1 == i) && !(q.1 + 1 == i && q.2.category == 2)) = lv') (hp : pc + 3 = pc') (kk : Ex G mt rm Q kn X I L pc' lv' st) : Ex G mt rm Q kn X I L pc lv st :=
  ex_iinc j hd hj (by rw [hc]) hn hf hp kk
theorem ex_widen {kn' : Nat × Nat} (h1 : kn.1 ≤ kn'.1) (h2 : kn.2 ≤ kn'.2) (kk : Ex G mt rm Q kn' X I L pc lv st) : Ex G mt rm Q kn X I L pc lv st := by
  obtain ⟨⟨p, l, e, R, s⟩, ⟨m, ar, below, meth, c⟩, ⟨D, dA, B, tS⟩⟩ := G
  intro hc H locs ls hH hS hl
  exact W.widen h1 h2 (kk hc H locs ls hH hS hl)
end EW
