/-! ===== the class's ladder ===== -/
theorem ofNatI (n : Nat) : Int32.ofNat n = nI n := rfl
def dgs (h : Nat → Nat) : Nat → Nat
  | 0 => 0
  | i + 1 => dgs h i * 10 + h i
theorem dgs_lt {h : Nat → Nat} {n : Nat} (hh : ∀ i, i < n → h i ≤ 9) : ∀ {m : Nat}, m ≤ n → dgs h m < 10 ^ m
  | 0, _ => by rw [dgs]; decide
  | m + 1, hm => by
    have := dgs_lt hh (m := m) (by omega)
    have := hh m (by omega)
    rw [dgs, Nat.pow_succ]; omega
theorem dgs_at {h : Nat → Nat} {n : Nat} (hh : ∀ i, i < n → h i ≤ 9) : ∀ {m i : Nat}, m ≤ n → i < m → dg (dgs h m) (m - 1 - i) = h i
  | 0, i, _, hi => by omega
  | m + 1, i, hm, hi => by
    have hm' := hh m (by omega)
    unfold dg
    by_cases q : i = m
    · subst q
      rw [show i + 1 - 1 - i = 0 by omega, Nat.pow_zero, Nat.div_one, dgs]; omega
    · have ih := dgs_at hh (m := m) (i := i) (by omega) (by omega)
      unfold dg at ih
      rw [show m + 1 - 1 - i = (m - 1 - i) + 1 by omega, Nat.pow_succ, Nat.mul_comm, ← Nat.div_div_eq_div_mul, dgs, show (dgs h m * 10 + h m) / 10 = dgs h m by omega, ih]
section LD
variable {N n a2 a3 : Nat} {I : MI} {h : Nat → Nat}
theorem fillS (n1 : 1 ≤ n) (n6 : n ≤ 6) (hne : a2 ≠ a3) (hI : ∀ i, i < n → I a2 i = nI (h i)) (hle : ∀ i, i < n → h i ≤ n) (hup : ∀ i, i + 1 < n → h i ≤ h (i + 1)) (hN : 20 ≤ N) : ∃ J, f_X2_fillCounts N a2 n a3 7 I = some J ∧ (∀ k, k < 7 → J a3 k = nI (cN h n k)) ∧ fr (fun b j => b = a3) I J := by
  have z0 : Int32.toNatClampNeg 0 = 0 := by decide
  have inner : ∀ i J, i < n → (∀ j, j < n → J a2 j = nI (h j)) → (∀ k, k < 7 → J a3 k = nI (cN h i k)) → ∃ J', f_X2_fillCounts_l21 N a2 n a3 7 (nI i) (nI i + 1) J = some J' ∧ (∀ k, k < 7 → J' a3 k = nI (cN h (i + 1) k)) ∧ fr (fun b j => b = a3) J J' := fun i J hi hr hc => by
    rw [nI_1]
    refine loop_inv (f := fun s : Int32 × MI => f_X2_fillCounts_b21 N a2 n a3 7 (nI i) s.1 s.2) (fun d st => st.1 = nI (i + 1 - d) ∧ (∀ k, k < 7 → st.2 a3 k = nI (if k ≤ i + 1 - d then cN h i k else cN h (i + 1) k)) ∧ fr (fun b j => b = a3) J st.2) _ (i + 1) ?_ ?_ N 0 (nI (i + 1), J) (Nat.zero_le _) (by omega) ⟨rfl, fun k hk => ?_, fr.rfl⟩
    · rintro d ⟨x, J1⟩ hd ⟨e1, w1, f1⟩
      simp only at e1 w1 f1
      subst e1
      obtain ⟨k, hk⟩ : ∃ k, k = i + 1 - d := ⟨_, rfl⟩
      rw [← hk] at w1 ⊢
      have wk := w1 k (by omega)
      have wk1 := w1 (k - 1) (by omega)
      rw [if_pos (Nat.le_refl _)] at wk
      rw [if_pos (by omega)] at wk1
      have hri : J1 a2 i = nI (h i) := by rw [f1 _ _ (by omega)]; exact hr i hi
      have val : nI (cN h i k) + (nI (h i) - nI k + 1) * nI (cN h i (k - 1)) = nI (cN h (i + 1) k) := by
        rw [cN, if_neg (by omega)]
        by_cases q : k ≤ h i + 1
        · have e : nI (h i) - nI k + 1 = nI (h i + 1 - k) := by rw [← nI_sub q, ← nI_1]; grind
          rw [e, nI_mul, nI_add]
        · have z : cN h i (k - 1) = 0 := by
            cases i with
            | zero => exact cN_far (by omega)
            | succ i =>
              have := hup i hi
              exact cN_high hup (by omega) (by omega)
          rw [z, Nat.mul_zero, Nat.add_zero, ← nl0]; grind
      refine ⟨(nI (i + 1 - (d + 1)), upI J1 a3 k (nI (cN h (i + 1) k))), ?_, rfl, fun k' hk' => ?_, f1.trans (fr.up rfl)⟩
      · show f_X2_fillCounts_b21 N a2 n a3 7 (nI i) (nI k) J1 = _
        unfold f_X2_fillCounts_b21
        rw [nl1, if_neg (nI_le0 (by omega) (by omega)), if_pos (inb_nI (by omega) (by decide)), if_pos (inb_nI (by omega) (by omega)), ← nl1, dn2 (by omega), if_pos (inb_nI (by omega) (by decide)), if_pos (inb_nI (by omega) (by decide)), nI_clamp (by omega), nI_clamp (by omega), nI_clamp (by omega), wk, wk1, hri, val, dn3 (by omega), show k - 1 = i + 1 - (d + 1) by omega]
        rfl
      · show upI J1 a3 k (nI (cN h (i + 1) k)) a3 k' = _
        rw [upI_at]
        by_cases z : k' = k
        · rw [if_pos z, if_neg (by omega), z]
        · rw [if_neg z, w1 k' hk']
          have : k' ≤ k ↔ k' ≤ i + 1 - (d + 1) := by omega
          simp only [this]
    · rintro ⟨x, J1⟩ ⟨e1, w1, f1⟩
      simp only at e1 w1 f1
      subst e1
      refine ⟨J1, ?_, fun k hk => ?_, f1⟩
      · show f_X2_fillCounts_b21 N a2 n a3 7 (nI i) (nI (i + 1 - (i + 1))) J1 = _
        unfold f_X2_fillCounts_b21
        rw [Nat.sub_self, if_pos (by decide)]
      · rw [w1 k hk]
        by_cases z : k = 0
        · rw [if_pos (by omega), z, cN, if_pos rfl, Nat.add_zero]
        · rw [if_neg (by omega)]
    · show J a3 k = _
      rw [hc k hk]
      by_cases z : k ≤ i + 1
      · rw [if_pos (by omega)]
      · rw [if_neg (by omega), cN_far (show i < k by omega), cN_far (show i + 1 < k by omega)]
  generalize hI1 : upI (fillI I a3 7 0) a3 0 1 = I1
  have b1 : ∀ k, k < 7 → I1 a3 k = nI (cN h 0 k) := fun k hk => by
    rw [← hI1, upI_at, cN]
    by_cases q : k = 0
    · rw [if_pos q, if_pos q]; rfl
    · rw [if_neg q, if_neg q]; unfold fillI; rw [if_pos ⟨rfl, hk⟩]; rfl
  have b2 : fr (fun b j => b = a3) I I1 := fun b j hb => by
    rw [← hI1, upI_ne _ _ (Or.inl hb)]; unfold fillI; rw [if_neg (fun w => hb w.1)]
  obtain ⟨J, c1, c2, c3⟩ : ∃ J, f_X2_fillCounts_l11 N a2 n a3 7 0 I1 = some J ∧ (∀ k, k < 7 → J a3 k = nI (cN h n k)) ∧ fr (fun b j => b = a3) I J := by
    refine loop_inv (f := fun s : Int32 × MI => f_X2_fillCounts_b11 N a2 n a3 7 s.1 s.2) (fun i st => st.1 = nI i ∧ (∀ k, k < 7 → st.2 a3 k = nI (cN h i k)) ∧ fr (fun b j => b = a3) I st.2) _ n ?_ ?_ N 0 (0, I1) (Nat.zero_le _) (by omega) ⟨nl0, b1, b2⟩
    · rintro i ⟨x, J⟩ hi ⟨e1, w1, f1⟩
      simp only at e1 w1 f1
      subst e1
      obtain ⟨J', g1, g2, g3⟩ := inner i J hi (fun j hj => by rw [f1 _ _ (by omega)]; exact hI j hj) w1
      refine ⟨(nI (i + 1), J'), ?_, rfl, g2, f1.trans g3⟩
      show f_X2_fillCounts_b11 N a2 n a3 7 (nI i) J = _
      unfold f_X2_fillCounts_b11
      rw [ofNatI, if_pos ((nI_ltI (by omega) (by omega)).mpr hi), bnd1_some g1, nI_1]
    · rintro ⟨x, J⟩ ⟨e1, w1, f1⟩
      simp only at e1 w1 f1
      subst e1
      refine ⟨J, ?_, w1, f1⟩
      show f_X2_fillCounts_b11 N a2 n a3 7 (nI n) J = _
      unfold f_X2_fillCounts_b11
      rw [ofNatI, if_neg (nI_le0 (by omega) (Nat.le_refl _))]
  refine ⟨J, ?_, c2, c3⟩
  unfold f_X2_fillCounts
  rw [bnd1_some (fill_I (by omega) (by decide)), if_pos (by decide), z0]
  simp only [letv]
  rw [hI1, bnd1_some c1]
theorem digsS (n6 : n ≤ 6) (hI : ∀ i, i < n → I a2 i = nI (h i)) (hN : 20 ≤ N) : f_X2_digitsOf N a2 n I = some (nI (dgs h n)) := by
  have key := loop_inv (f := fun s : Int32 × Int32 => f_X2_digitsOf_b4 N a2 n s.1 s.2 I) (fun i st => st.1 = nI (dgs h i) ∧ st.2 = nI i) (fun r => r = nI (dgs h n)) n ?_ ?_ N 0 (0, 0) (Nat.zero_le _) (by omega) ⟨nl0, nl0⟩
  · obtain ⟨r, e, rfl⟩ := key
    unfold f_X2_digitsOf f_X2_digitsOf_l4
    exact bnd1_some e
  · rintro i ⟨x, y⟩ hi ⟨e1, e2⟩
    simp only at e1 e2
    subst e1; subst e2
    refine ⟨(nI (dgs h (i + 1)), nI (i + 1)), ?_, rfl, rfl⟩
    show f_X2_digitsOf_b4 N a2 n (nI (dgs h i)) (nI i) I = _
    unfold f_X2_digitsOf_b4
    rw [ofNatI, if_pos ((nI_ltI (by omega) (by omega)).mpr hi), if_pos (inb_nI hi (by omega)), nI_clamp (by omega), hI i hi, nl10, nI_mul, nI_add, nI_1]
    rfl
  · rintro ⟨x, y⟩ ⟨e1, e2⟩
    simp only at e1 e2
    subst e1; subst e2
    refine ⟨_, ?_, rfl⟩
    show f_X2_digitsOf_b4 N a2 n (nI (dgs h n)) (nI n) I = _
    unfold f_X2_digitsOf_b4
    rw [ofNatI, if_neg (nI_le0 (by omega) (Nat.le_refl _))]
theorem goS {l : List Nat} (n1 : 1 ≤ n) (n6 : n ≤ 6) (hl : l.length = n) (hle : ∀ i, i < n → l.getD i 0 ≤ n) (hI : ∀ i, i < n → I a2 i = nI (l.getD i 0)) (hN : 20 ≤ N) : ∃ J, f_X2_goOn N a2 n I = some J ∧ (∀ i, i < n → J a2 i = nI (((nx n l).getD l).getD i 0)) ∧ fr (fun b j => b = a2) I J := by
  have find : ∀ (i : Nat), (∀ j, i ≤ j → j < n → n ≤ l.getD j 0) → i ≤ n → (i = 0 ∨ l.getD (i - 1) 0 < n) → f_X2_goOn_l5 N a2 n (nI n - 1) I = some (nI i - 1) := fun i h1 h2 h3 => by
    have key := loop_inv (f := fun s : Int32 => f_X2_goOn_b5 N a2 n s I) (fun d s => s = nI (n - d) - 1) (fun r => r = nI i - 1) (n - i) ?_ ?_ N 0 (nI n - 1) (Nat.zero_le _) (by omega) rfl
    · obtain ⟨r, e, rfl⟩ := key
      exact e
    · rintro d s hd rfl
      refine ⟨nI (n - (d + 1)) - 1, ?_, rfl⟩
      show f_X2_goOn_b5 N a2 n (nI (n - d) - 1) I = _
      unfold f_X2_goOn_b5
      have := h1 (n - d - 1) (by omega) (by omega)
      have hl' := hle (n - d - 1) (by omega)
      rw [dn1 (show 1 ≤ n - d by omega), dn2 (show 1 ≤ n - d by omega), if_neg (nI_pos (by omega)), if_pos (inb_nI (by omega) (by omega)), nI_clamp (by omega), hI _ (by omega), ofNatI, if_neg (nI_le0 (by omega) this), show n - d - 1 = n - (d + 1) by omega]
    · rintro s rfl
      refine ⟨nI i - 1, ?_, rfl⟩
      show f_X2_goOn_b5 N a2 n (nI (n - (n - i)) - 1) I = _
      rw [show n - (n - i) = i by omega]
      unfold f_X2_goOn_b5
      rcases h3 with h3 | h3
      · rw [h3, if_pos (by decide)]
      · by_cases z : i = 0
        · rw [z, if_pos (by decide)]
        · rw [dn2 (by omega), if_neg (nI_pos (by omega)), if_pos (inb_nI (by omega) (by omega)), nI_clamp (by omega), hI _ (by omega), ofNatI, if_pos ((nI_ltI (by omega) (by omega)).mpr h3)]
  have put : ∀ (v i : Nat), i ≤ n → ∃ J, f_X2_goOn_l44 N a2 n (nI v) (nI i) I = some J ∧ (∀ j, j < n → J a2 j = if j < i then I a2 j else nI v) ∧ fr (fun b j => b = a2) I J := fun v i hi => by
    refine loop_inv (f := fun s : Int32 × MI => f_X2_goOn_b44 N a2 n (nI v) s.1 s.2) (fun d st => st.1 = nI (i + d) ∧ (∀ j, j < n → st.2 a2 j = if j < i ∨ i + d ≤ j then I a2 j else nI v) ∧ fr (fun b j => b = a2) I st.2) _ (n - i) ?_ ?_ N 0 (nI i, I) (Nat.zero_le _) (by omega) ⟨rfl, fun j hj => by rw [if_pos (by omega)], fr.rfl⟩
    · rintro d ⟨x, J⟩ hd ⟨e1, w1, f1⟩
      simp only at e1 w1 f1
      subst e1
      refine ⟨(nI (i + (d + 1)), upI J a2 (i + d) (nI v)), ?_, rfl, fun j hj => ?_, f1.trans (fr.up rfl)⟩
      · show f_X2_goOn_b44 N a2 n (nI v) (nI (i + d)) J = _
        unfold f_X2_goOn_b44
        rw [ofNatI, if_pos ((nI_ltI (by omega) (by omega)).mpr (by omega)), if_pos (inb_nI (by omega) (by omega)), nI_clamp (by omega), nI_1]
        rfl
      · show upI J a2 (i + d) (nI v) a2 j = _
        rw [upI_at]
        by_cases z : j = i + d
        · rw [if_pos z, if_neg (by omega)]
        · rw [if_neg z, w1 j hj]
          have : (j < i ∨ i + d ≤ j) ↔ (j < i ∨ i + (d + 1) ≤ j) := by omega
          simp only [this]
    · rintro ⟨x, J⟩ ⟨e1, w1, f1⟩
      simp only at e1 w1 f1
      subst e1
      refine ⟨J, ?_, fun j hj => ?_, f1⟩
      · show f_X2_goOn_b44 N a2 n (nI v) (nI (i + (n - i))) J = _
        unfold f_X2_goOn_b44
        rw [ofNatI, if_neg (nI_le0 (by omega) (by omega))]
      · rw [w1 j hj]
        have : (j < i ∨ i + (n - i) ≤ j) ↔ j < i := by omega
        simp only [this]
  unfold f_X2_goOn f_X2_goOn_j23
  rcases nx_spec (n := n) (l := l) with ⟨e, h⟩ | ⟨i, l', i1, i2, i3, e, i4, i5⟩
  · obtain ⟨J, p1, p2, p3⟩ := put n 0 (by omega)
    have e0 : nI 0 - 1 < 0 := by decide
    rw [ofNatI, bnd1_some (find 0 (fun j _ hj => h j (by omega)) (by omega) (Or.inl rfl)), if_pos e0, if_pos e0]
    simp only [letv]
    rw [nl0, bnd1_some p1]
    refine ⟨J, rfl, fun j hj => ?_, p3⟩
    have h1 := h j (by omega)
    have h2 := hle j hj
    rw [p2 j hj, if_neg (by omega), e]
    show nI n = nI (l.getD j 0)
    rw [show l.getD j 0 = n by omega]
  · obtain ⟨J, p1, p2, p3⟩ := put (l.getD i 0 + 1) i (by omega)
    have e1 : nI (i + 1) - 1 = nI i := by rw [dn2 (by omega), Nat.add_sub_cancel]
    have fi := find (i + 1) (fun j h1 h2 => i3 j (by omega) (by omega)) (by omega) (Or.inr (by rw [Nat.add_sub_cancel]; exact i2))
    rw [e1] at fi
    rw [ofNatI, bnd1_some fi, if_neg (nI_pos (by omega)), if_pos (inb_nI (by omega) (by omega)), nI_clamp (by omega), hI i (by omega), nI_1]
    simp only [letv]
    rw [if_neg (nI_pos (by omega)), bnd1_some p1]
    refine ⟨J, rfl, fun j hj => ?_, p3⟩
    rw [p2 j hj, e]
    show _ = nI (l'.getD j 0)
    rw [i5 j (by omega)]
    by_cases z : j < i
    · rw [if_pos z, if_pos z]; exact hI j hj
    · rw [if_neg z, if_neg z]
end LD
