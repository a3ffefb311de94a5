/-! ===== ALL STEPS: rows, counts, keys ===== -/
def nx (n : Nat) : List Nat → Option (List Nat)
  | [] => none
  | c :: l => match nx n l with
    | some l' => some (c :: l')
    | none => if c < n then some (List.replicate (l.length + 1) (c + 1)) else none
def rws (n : Nat) : Nat → List Nat
  | 0 => List.replicate n 0
  | j + 1 => (nx n (rws n j)).getD (rws n j)
def hh (n j i : Nat) : Nat := (rws n j).getD i 0
def sz (n : Nat) : Nat := [1, 2, 6, 20, 70, 252, 924].getD n 0
def okr (n : Nat) (l : List Nat) : Bool := (l.length == n) && (List.range n).all (fun i => decide (l.getD i 0 ≤ n) && decide (l.getD i 0 ≤ l.getD (i + 1) n))
def chk (n : Nat) : Nat → List Nat → Bool
  | 0, l => okr n l && (nx n l).isNone
  | m + 1, l => okr n l && (match nx n l with
    | some l' => chk n m l'
    | none => false)
theorem tblok : ∀ n, n < 7 → 1 ≤ n → chk n (sz n - 1) (List.replicate n 0) = true := by decide +kernel
theorem tab3n : ∀ n, n < 7 → tabI 3 n = nI (sz n) := by decide +kernel
theorem sz_le : ∀ n, n < 7 → sz n ≤ 924 ∧ 1 ≤ sz n := by decide +kernel
section KY
variable {n : Nat}
theorem chk_at : ∀ {m j : Nat}, chk n m (rws n j) = true → (∀ i, i ≤ m → okr n (rws n (j + i)) = true) ∧ (∀ i, i < m → nx n (rws n (j + i)) = some (rws n (j + i + 1))) ∧ nx n (rws n (j + m)) = none
  | 0, j, h => by
    rw [chk, Bool.and_eq_true] at h
    refine ⟨fun i hi => by rw [show i = 0 by omega]; exact h.1, fun i hi => by omega, ?_⟩
    have := h.2
    rw [Nat.add_zero]
    cases e : nx n (rws n j) with
    | none => rfl
    | some l => rw [e] at this; simp at this
  | m + 1, j, h => by
    rw [chk, Bool.and_eq_true] at h
    cases e : nx n (rws n j) with
    | none => rw [e] at h; simp at h
    | some l =>
      have el : rws n (j + 1) = l := by rw [rws, e]; rfl
      rw [e] at h
      simp only at h
      rw [← el] at h
      obtain ⟨a, b, c⟩ := chk_at h.2
      refine ⟨fun i hi => ?_, fun i hi => ?_, ?_⟩
      · by_cases z : i = 0
        · rw [z]; exact h.1
        · have := a (i - 1) (by omega)
          rwa [show j + 1 + (i - 1) = j + i by omega] at this
      · by_cases z : i = 0
        · rw [z]; show nx n (rws n j) = some (rws n (j + 1)); rw [el]; exact e
        · have := b (i - 1) (by omega)
          rwa [show j + 1 + (i - 1) = j + i by omega] at this
      · rwa [show j + 1 + m = j + (m + 1) by omega] at c
theorem row_ok (n1 : 1 ≤ n) (n6 : n ≤ 6) {j : Nat} (hj : j < sz n) : (rws n j).length = n ∧ (∀ i, i < n → hh n j i ≤ n) ∧ ∀ i, i + 1 < n → hh n j i ≤ hh n j (i + 1) := by
  have h := (chk_at (n := n) (j := 0) (tblok n (by omega) n1)).1 j (by omega)
  rw [Nat.zero_add] at h
  unfold okr at h
  rw [Bool.and_eq_true, List.all_eq_true] at h
  obtain ⟨h1, h2⟩ := h
  have h1' : (rws n j).length = n := by simpa using h1
  refine ⟨h1', fun i hi => ?_, fun i hi => ?_⟩
  · have := h2 i (List.mem_range.mpr hi)
    rw [Bool.and_eq_true] at this
    exact of_decide_eq_true this.1
  · have := h2 i (List.mem_range.mpr (by omega))
    rw [Bool.and_eq_true] at this
    have t := of_decide_eq_true this.2
    rw [List.getD_eq_getElem?_getD (i := i + 1), List.getElem?_eq_getElem (by omega)] at t
    unfold hh
    rw [List.getD_eq_getElem?_getD (i := i + 1), List.getElem?_eq_getElem (by omega)]
    exact t
theorem row_next (n1 : 1 ≤ n) (n6 : n ≤ 6) {j : Nat} (hj : j + 1 < sz n) : nx n (rws n j) = some (rws n (j + 1)) := by
  have h := (chk_at (n := n) (j := 0) (tblok n (by omega) n1)).2.1 j (by omega)
  rwa [Nat.zero_add] at h
theorem row_last (n1 : 1 ≤ n) (n6 : n ≤ 6) : nx n (rws n (sz n - 1)) = none := by
  have h := (chk_at (n := n) (j := 0) (tblok n (by omega) n1)).2.2
  rwa [Nat.zero_add] at h
/-- how the next row comes about -/
theorem nx_spec : ∀ {l : List Nat}, (nx n l = none ∧ ∀ i, i < l.length → n ≤ l.getD i 0) ∨ ∃ i l', i < l.length ∧ l.getD i 0 < n ∧ (∀ j, i < j → j < l.length → n ≤ l.getD j 0) ∧ nx n l = some l' ∧ l'.length = l.length ∧ ∀ j, j < l.length → l'.getD j 0 = if j < i then l.getD j 0 else l.getD i 0 + 1
  | [] => Or.inl ⟨rfl, fun i hi => absurd hi (by simp)⟩
  | c :: l => by
    rw [nx]
    rcases nx_spec (l := l) with ⟨e, h⟩ | ⟨i, l', i1, i2, i3, e, i4, i5⟩
    · rw [e]
      by_cases q : c < n
      · right
        refine ⟨0, List.replicate (l.length + 1) (c + 1), by simp, q, fun j h1 h2 => ?_, by simp only [if_pos q], by simp, fun j hj => ?_⟩
        · obtain ⟨j', rfl⟩ : ∃ j', j = j' + 1 := ⟨j - 1, by omega⟩
          exact h j' (by simp at h2; omega)
        · rw [if_neg (by omega), List.getD_eq_getElem?_getD, List.getElem?_replicate, if_pos (by simpa using hj)]
          rfl
      · left
        refine ⟨by simp only [if_neg q], fun i hi => ?_⟩
        cases i with
        | zero => show n ≤ c; omega
        | succ i => exact h i (by simp at hi; omega)
    · right
      refine ⟨i + 1, c :: l', by simp; omega, i2, fun j h1 h2 => ?_, by rw [e], by simp [i4], fun j hj => ?_⟩
      · obtain ⟨j', rfl⟩ : ∃ j', j = j' + 1 := ⟨j - 1, by omega⟩
        exact i3 j' (by omega) (by simp at h2; omega)
      · cases j with
        | zero => rw [if_pos (by omega)]; rfl
        | succ j =>
          have := i5 j (by simp at hj; omega)
          show l'.getD j 0 = _
          rw [this]
          by_cases z : j < i
          · rw [if_pos z, if_pos (by omega)]; rfl
          · rw [if_neg z, if_neg (by omega)]; rfl
/-- the COUNTS of a row of heights -/
def cN (h : Nat → Nat) : Nat → Nat → Nat
  | 0, k => if k = 0 then 1 else 0
  | i + 1, k => cN h i k + (if k = 0 then 0 else (h i + 1 - k) * cN h i (k - 1))
theorem cN_far {h : Nat → Nat} : ∀ {i k : Nat}, i < k → cN h i k = 0
  | 0, k, hk => by rw [cN, if_neg (by omega)]
  | i + 1, k, hk => by rw [cN, cN_far (show i < k by omega), if_neg (by omega), cN_far (show i < k - 1 by omega), Nat.mul_zero]
theorem cN_high {h : Nat → Nat} {m : Nat} (hm : ∀ i, i + 1 < m → h i ≤ h (i + 1)) : ∀ {i k : Nat}, i < m → h i < k → cN h (i + 1) k = 0
  | 0, k, _, hk => by
    rw [cN, cN, if_neg (by omega), if_neg (by omega), Nat.zero_add, show h 0 + 1 - k = 0 by omega, Nat.zero_mul]
  | i + 1, k, hi, hk => by
    have := hm i hi
    rw [cN, cN_high hm (by omega) (by omega), if_neg (by omega), show h (i + 1) + 1 - k = 0 by omega, Nat.zero_mul]
def gg (n : Nat) : Nat → Nat → Nat
  | 0, k => if k = 0 then 1 else 0
  | i + 1, k => gg n i k + (if k = 0 then 0 else (n + 1 - k) * gg n i (k - 1))
theorem cN_le {h : Nat → Nat} {m : Nat} (hm : ∀ i, i < m → h i ≤ n) : ∀ {i k : Nat}, i ≤ m → cN h i k ≤ gg n i k
  | 0, k, _ => Nat.le_refl _
  | i + 1, k, hi => by
    have h1 := cN_le hm (i := i) (k := k) (by omega)
    have h2 := cN_le hm (i := i) (k := k - 1) (by omega)
    have h3 := hm i (by omega)
    rw [cN, gg]
    by_cases q : k = 0
    · rw [if_pos q, if_pos q]; omega
    · rw [if_neg q, if_neg q]
      have := Nat.mul_le_mul (show h i + 1 - k ≤ n + 1 - k by omega) h2
      omega
/-- what a key can hold of COUNT k -/
def fw (k : Nat) : Nat := [2, 64, 512, 4096, 8192, 8192, 1024].getD k 1
theorem gg_fw : ∀ n, n < 7 → ∀ k, k < 7 → gg n n k < fw k := by decide +kernel
def K6 (c : Nat → Nat) : Nat := c 1 * 2 ^ 57 + c 2 * 2 ^ 48 + c 3 * 2 ^ 36 + c 4 * 2 ^ 23 + c 5 * 2 ^ 10 + c 6
def okK (c : Nat → Nat) : Prop := c 1 < 64 ∧ c 2 < 512 ∧ c 3 < 4096 ∧ c 4 < 8192 ∧ c 5 < 8192 ∧ c 6 < 1024
theorem K6_lt {c : Nat → Nat} (h : okK c) : K6 c < 2 ^ 63 := by
  obtain ⟨h1, h2, h3, h4, h5, h6⟩ := h
  unfold K6
  omega
theorem K6_inj {c d : Nat → Nat} (h : okK c) (h' : okK d) (e : K6 c = K6 d) : c 1 = d 1 ∧ c 2 = d 2 ∧ c 3 = d 3 ∧ c 4 = d 4 ∧ c 5 = d 5 ∧ c 6 = d 6 := by
  obtain ⟨h1, h2, h3, h4, h5, h6⟩ := h
  obtain ⟨g1, g2, g3, g4, g5, g6⟩ := h'
  unfold K6 at e
  omega
def shf (k : Nat) : Nat := [63, 57, 48, 36, 23, 10, 0].getD k 0
theorem shfT : ∀ k, k < 7 → tabI 1 k = nI (shf k) ∧ shf k < 64 := by decide +kernel
theorem fwT : ∀ k, k < 7 → 1 ≤ k → tabI 2 k = nI (fw k - 1) := by decide +kernel
theorem K6_at {c : Nat → Nat} (h : okK c) : ∀ k, 1 ≤ k → k < 7 → K6 c / 2 ^ shf k % fw k = c k := by
  obtain ⟨h1, h2, h3, h4, h5, h6⟩ := h
  intro k k1 k7
  have : k = 1 ∨ k = 2 ∨ k = 3 ∨ k = 4 ∨ k = 5 ∨ k = 6 := by omega
  unfold K6
  rcases this with rfl | rfl | rfl | rfl | rfl | rfl
  · show (c 1 * 2 ^ 57 + c 2 * 2 ^ 48 + c 3 * 2 ^ 36 + c 4 * 2 ^ 23 + c 5 * 2 ^ 10 + c 6) / 2 ^ 57 % 64 = c 1
    omega
  · show (c 1 * 2 ^ 57 + c 2 * 2 ^ 48 + c 3 * 2 ^ 36 + c 4 * 2 ^ 23 + c 5 * 2 ^ 10 + c 6) / 2 ^ 48 % 512 = c 2
    omega
  · show (c 1 * 2 ^ 57 + c 2 * 2 ^ 48 + c 3 * 2 ^ 36 + c 4 * 2 ^ 23 + c 5 * 2 ^ 10 + c 6) / 2 ^ 36 % 4096 = c 3
    omega
  · show (c 1 * 2 ^ 57 + c 2 * 2 ^ 48 + c 3 * 2 ^ 36 + c 4 * 2 ^ 23 + c 5 * 2 ^ 10 + c 6) / 2 ^ 23 % 8192 = c 4
    omega
  · show (c 1 * 2 ^ 57 + c 2 * 2 ^ 48 + c 3 * 2 ^ 36 + c 4 * 2 ^ 23 + c 5 * 2 ^ 10 + c 6) / 2 ^ 10 % 8192 = c 5
    omega
  · show (c 1 * 2 ^ 57 + c 2 * 2 ^ 48 + c 3 * 2 ^ 36 + c 4 * 2 ^ 23 + c 5 * 2 ^ 10 + c 6) / 2 ^ 0 % 1024 = c 6
    omega
/-- keys stand in the order of the COUNTS -/
theorem K6_lex {c d : Nat → Nat} (h : okK c) (h' : okK d) {k : Nat} (k1 : 1 ≤ k) (k7 : k < 7) (he : ∀ i, 1 ≤ i → i < k → c i = d i) (hl : c k < d k) : K6 c < K6 d := by
  obtain ⟨h1, h2, h3, h4, h5, h6⟩ := h
  obtain ⟨g1, g2, g3, g4, g5, g6⟩ := h'
  have : k = 1 ∨ k = 2 ∨ k = 3 ∨ k = 4 ∨ k = 5 ∨ k = 6 := by omega
  unfold K6
  rcases this with rfl | rfl | rfl | rfl | rfl | rfl
  · omega
  · have := he 1 (by omega) (by omega); omega
  · have := he 1 (by omega) (by omega); have := he 2 (by omega) (by omega); omega
  · have := he 1 (by omega) (by omega); have := he 2 (by omega) (by omega); have := he 3 (by omega) (by omega); omega
  · have := he 1 (by omega) (by omega); have := he 2 (by omega) (by omega); have := he 3 (by omega) (by omega); have := he 4 (by omega) (by omega); omega
  · have := he 1 (by omega) (by omega); have := he 2 (by omega) (by omega); have := he 3 (by omega) (by omega); have := he 4 (by omega) (by omega); have := he 5 (by omega) (by omega); omega
theorem okK_of {c : Nat → Nat} (h : ∀ k, k < 7 → c k < fw k) : okK c := ⟨h 1 (by omega), h 2 (by omega), h 3 (by omega), h 4 (by omega), h 5 (by omega), h 6 (by omega)⟩
end KY
theorem qL_lt {a b : Nat} (ha : a < 2 ^ 63) (hb : b < 2 ^ 63) : qL a < qL b ↔ a < b := by
  rw [Int64.lt_iff_toInt_lt]
  unfold qL
  rw [Int64.toInt_ofNat_of_lt ha, Int64.toInt_ofNat_of_lt hb]
  omega
theorem qL_or (a b : Nat) : qL a ||| qL b = qL (a ||| b) := by
  apply Int64.toBitVec_inj.mp
  show (Int64.ofNat a ||| Int64.ofNat b).toBitVec = (Int64.ofNat (a ||| b)).toBitVec
  rw [Int64.toBitVec_or, Int64.toBitVec_ofNat', Int64.toBitVec_ofNat', Int64.toBitVec_ofNat']
  apply BitVec.eq_of_toNat_eq
  simp [BitVec.toNat_or, BitVec.toNat_ofNat, Nat.or_mod_two_pow]
theorem shlq (c s : Nat) (hs : s < 64) (y : Int32) (hy : (y.toInt64 &&& 63).toBitVec = BitVec.ofNat 64 s) : jlshl (qL c) y = qL (c * 2 ^ s) := by
  apply Int64.toBitVec_inj.mp
  unfold jlshl
  rw [Int64.toBitVec_shiftLeft, hy]
  have e : (BitVec.ofNat 64 s).smod 64 = BitVec.ofNat 64 s := by
    have : ∀ s, s < 64 → (BitVec.ofNat 64 s).smod 64 = BitVec.ofNat 64 s := by decide +kernel
    exact this s hs
  rw [e]
  unfold qL
  rw [Int64.toBitVec_ofNat', Int64.toBitVec_ofNat']
  apply BitVec.eq_of_toNat_eq
  show (BitVec.ofNat 64 c <<< (BitVec.ofNat 64 s).toNat).toNat = _
  rw [BitVec.toNat_shiftLeft, BitVec.toNat_ofNat, BitVec.toNat_ofNat, BitVec.toNat_ofNat, Nat.mod_eq_of_lt (show s < 2 ^ 64 by omega), Nat.shiftLeft_eq, Nat.mod_mul_mod]
theorem ushq (c s : Nat) (hc : c < 2 ^ 63) (hs : s < 64) (y : Int32) (hy : (y.toInt64.toUInt64 &&& Int64.toUInt64 63).toNat = s) : jlushr (qL c) y = qL (c / 2 ^ s) := by
  unfold jlushr
  have e : ∀ x, x < 2^63 → (Int64.ofNat x).toUInt64.toNat = x := by
    intro x hx
    show (Int64.ofNat x).toBitVec.toNat = x
    rw [Int64.toBitVec_ofNat', BitVec.toNat_ofNat, Nat.mod_eq_of_lt (by omega)]
  have h : (qL c).toUInt64 >>> (y.toInt64.toUInt64 &&& Int64.toUInt64 63) = (qL (c / 2 ^ s)).toUInt64 := by
    apply UInt64.toNat_inj.mp
    rw [UInt64.toNat_shiftRight, hy, Nat.mod_eq_of_lt hs]
    unfold qL
    rw [e c hc, e (c / 2 ^ s) (Nat.lt_of_le_of_lt (Nat.div_le_self _ _) hc), Nat.shiftRight_eq_div_pow]
  rw [h]
  rfl
theorem qL_32 (x : Nat) : Int64.toInt32 (qL x) = nI x := by
  show Int64.toInt32 (Int64.ofNat x) = Int32.ofNat x
  simp
theorem nI_and (a b : Nat) : nI a &&& nI b = nI (a &&& b) := by
  show Int32.ofNat a &&& Int32.ofNat b = Int32.ofNat (a &&& b)
  apply Int32.toBitVec_inj.mp
  rw [Int32.toBitVec_and, Int32.toBitVec_ofNat', Int32.toBitVec_ofNat', Int32.toBitVec_ofNat']
  apply BitVec.eq_of_toNat_eq
  simp [BitVec.toNat_and, BitVec.toNat_ofNat]
theorem shfB : ∀ k, k < 7 → ((tabI 1 k).toInt64 &&& 63).toBitVec = BitVec.ofNat 64 (shf k) ∧ ((tabI 1 k).toInt64.toUInt64 &&& Int64.toUInt64 63).toNat = shf k := by decide +kernel
theorem fwP : ∀ k, k < 7 → 1 ≤ k → fw k = 2 ^ (fw k).log2 := by decide +kernel
theorem or_add {a b i : Nat} (h : b < 2 ^ i) : (a * 2 ^ i) ||| b = a * 2 ^ i + b := by
  rw [← Nat.shiftLeft_eq, Nat.shiftLeft_add_eq_or_of_lt h]
def kp (c : Nat → Nat) : Nat → Nat
  | 0 => 0
  | k + 1 => kp c k + c (k + 1) * 2 ^ shf (k + 1)
theorem kp6 (c : Nat → Nat) : kp c 6 = K6 c := by
  show 0 + c 1 * 2 ^ 57 + c 2 * 2 ^ 48 + c 3 * 2 ^ 36 + c 4 * 2 ^ 23 + c 5 * 2 ^ 10 + c 6 * 2 ^ 0 = _
  unfold K6
  omega
theorem kp_or {c : Nat → Nat} (h : okK c) : ∀ k, k < 6 → kp c k ||| c (k + 1) * 2 ^ shf (k + 1) = kp c (k + 1) := by
  obtain ⟨h1, h2, h3, h4, h5, h6⟩ := h
  intro k hk
  have : k = 0 ∨ k = 1 ∨ k = 2 ∨ k = 3 ∨ k = 4 ∨ k = 5 := by omega
  rcases this with rfl | rfl | rfl | rfl | rfl | rfl
  · show 0 ||| c 1 * 2 ^ 57 = 0 + c 1 * 2 ^ 57
    rw [Nat.zero_or, Nat.zero_add]
  · have e : kp c 1 = c 1 * 2 ^ 57 := by show 0 + c 1 * 2 ^ 57 = _; omega
    show kp c 1 ||| c 2 * 2 ^ 48 = kp c 1 + c 2 * 2 ^ 48
    rw [e, or_add (by omega)]
  · have e : kp c 2 = (c 1 * 2 ^ 9 + c 2) * 2 ^ 48 := by show 0 + c 1 * 2 ^ 57 + c 2 * 2 ^ 48 = _; omega
    show kp c 2 ||| c 3 * 2 ^ 36 = kp c 2 + c 3 * 2 ^ 36
    rw [e, or_add (by omega)]
  · have e : kp c 3 = (c 1 * 2 ^ 21 + c 2 * 2 ^ 12 + c 3) * 2 ^ 36 := by show 0 + c 1 * 2 ^ 57 + c 2 * 2 ^ 48 + c 3 * 2 ^ 36 = _; omega
    show kp c 3 ||| c 4 * 2 ^ 23 = kp c 3 + c 4 * 2 ^ 23
    rw [e, or_add (by omega)]
  · have e : kp c 4 = (c 1 * 2 ^ 34 + c 2 * 2 ^ 25 + c 3 * 2 ^ 13 + c 4) * 2 ^ 23 := by show 0 + c 1 * 2 ^ 57 + c 2 * 2 ^ 48 + c 3 * 2 ^ 36 + c 4 * 2 ^ 23 = _; omega
    show kp c 4 ||| c 5 * 2 ^ 10 = kp c 4 + c 5 * 2 ^ 10
    rw [e, or_add (by omega)]
  · have e : kp c 5 = (c 1 * 2 ^ 47 + c 2 * 2 ^ 38 + c 3 * 2 ^ 26 + c 4 * 2 ^ 13 + c 5) * 2 ^ 10 := by show 0 + c 1 * 2 ^ 57 + c 2 * 2 ^ 48 + c 3 * 2 ^ 36 + c 4 * 2 ^ 23 + c 5 * 2 ^ 10 = _; omega
    show kp c 5 ||| c 6 * 2 ^ 0 = kp c 5 + c 6 * 2 ^ 0
    rw [e, or_add (by omega)]
theorem keyS {N a : Nat} {I : MI} {c : Nat → Nat} (h : okK c) (hc : ∀ k, 1 ≤ k → k < 7 → I a k = nI (c k) ∧ c k < 2 ^ 31) (hN : 20 ≤ N) : f_X10_keyOf N a 7 I = some (qL (K6 c)) := by
  have key := loop_inv (f := fun s : Int64 × Int32 => f_X10_keyOf_b4 N a 7 s.1 s.2 I) (fun k st => st.1 = qL (kp c k) ∧ st.2 = nI (k + 1)) (fun r => r = qL (K6 c)) 6 ?_ ?_ N 0 (0, 1) (Nat.zero_le _) (by omega) ⟨qL_0, nl1⟩
  · obtain ⟨r, e, rfl⟩ := key
    unfold f_X10_keyOf f_X10_keyOf_l4
    exact bnd1_some e
  · rintro k ⟨x, y⟩ hk ⟨e1, e2⟩
    simp only at e1 e2
    subst e1; subst e2
    obtain ⟨h1, h2⟩ := hc (k + 1) (by omega) (by omega)
    refine ⟨(qL (kp c (k + 1)), nI (k + 1 + 1)), ?_, rfl, rfl⟩
    show f_X10_keyOf_b4 N a 7 (qL (kp c k)) (nI (k + 1)) I = _
    unfold f_X10_keyOf_b4
    rw [nl6, if_neg (nI_le0 (by omega) (by omega)), if_pos (inb_nI (by omega) (by decide)), if_pos (inb_nI (by omega) (by decide)), nI_clamp (by omega), h1, to64 h2, shlq _ (shf (k + 1)) (shfT _ (by omega)).2 _ (shfB _ (by omega)).1, qL_or, kp_or h k hk, nI_1]
    rfl
  · rintro ⟨x, y⟩ ⟨e1, e2⟩
    simp only at e1 e2
    subst e1; subst e2
    refine ⟨qL (K6 c), ?_, rfl⟩
    show f_X10_keyOf_b4 N a 7 (qL (kp c 6)) (nI (6 + 1)) I = _
    unfold f_X10_keyOf_b4
    rw [if_pos (by decide), kp6]
theorem inKey {c : Nat → Nat} {k : Nat} {I : MI} (h : okK c) (hk : k < 7) : f_X2_countInKey (qL (K6 c)) (nI k) I = some (nI (if k = 0 then 1 else c k)) := by
  unfold f_X2_countInKey
  by_cases q : k = 0
  · subst q
    rw [if_pos nl0.symm, if_pos rfl]; rfl
  · rw [if_neg (by rw [nl0, nI_eq (by omega) (by omega)]; exact q), if_neg q, if_pos (inb_nI hk (by decide)), if_pos (inb_nI hk (by decide)), nI_clamp (by omega), ushq _ (shf k) (K6_lt h) (shfT k hk).2 _ (shfB k hk).2, qL_32, fwT k hk (by omega), nI_and]
    have e := K6_at h k (by omega) hk
    rw [fwP k hk (by omega)] at e
    rw [fwP k hk (by omega), Nat.and_two_pow_sub_one_eq_mod, e]
