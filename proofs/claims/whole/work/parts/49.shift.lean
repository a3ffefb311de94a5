/-! ===== tapes: shift ===== -/
theorem part64 {n p m : Nat} (hn : n < 2 ^ 31) (hp : p < 2 ^ 31) (hm : m < 2 ^ 31) : Int32.toInt64 (nI n) < Int32.toInt64 (nI p) + Int32.toInt64 (nI m) ↔ n < p + m := by
  rw [Int64.lt_iff_toInt_lt, Int64.toInt_add, Int32.toInt_toInt64, Int32.toInt_toInt64, Int32.toInt_toInt64, nI_toInt hn, nI_toInt hp, nI_toInt hm]
  rw [Int.bmod_eq_of_le (by omega) (by omega)]
  omega
section TS3
variable {PL : MX → MI → ML → Prop} {PA : MI → Prop} {N : Nat} {X : MX} {I I' : MI} {L L' : ML}
theorem shiftM {a b p q m : Nat} {v3 v4 : Int32} {L : ML} (ha : a < 6) (hb : b < 6) (hp : p + m ≤ 60) (hq : q + m ≤ 60) (hN : 1000 ≤ N) : ∃ K, (bnd1 (f_X11_shift_l110 N (nI a) (nI p) v3 v4 (nI m) 0 L) fun L25 => f_X11_shift_l147 N (nI b) (nI q) (nI m) 0 L25) = some K ∧ (∃ Q, f_X11_shift_l110 N (nI a) (nI p) v3 v4 (nI m) 0 L = some Q) ∧ (∀ i, i < m → K 115 (60 * b + (q + i)) = L 115 (60 * a + (p + i))) ∧ frL (fun c j => c = 137 ∨ (c = 115 ∧ 60 * b + q ≤ j ∧ j < 60 * b + q + m)) L K := by
  have key := loop_inv (f := fun s => f_X11_shift_b110 N (nI a) (nI p) v3 v4 (nI m) s.1 s.2) (fun k st => st.1 = nI k ∧ (∀ i, i < k → st.2 137 i = L 115 (60 * a + (p + i))) ∧ frL (fun c j => c = 137) L st.2) (fun K => (∀ i, i < m → K 137 i = L 115 (60 * a + (p + i))) ∧ frL (fun c j => c = 137) L K) m ?_ ?_ N 0 (0, L) (Nat.zero_le _) (by omega) ⟨nl0, fun i hi => absurd hi (by omega), frL.rfl⟩
  · obtain ⟨Q, e, w1, w2⟩ := key
    have key2 := loop_inv (f := fun s => f_X11_shift_b147 N (nI b) (nI q) (nI m) s.1 s.2) (fun k st => st.1 = nI k ∧ (∀ i, i < k → st.2 115 (60 * b + (q + i)) = Q 137 i) ∧ frL (fun c j => c = 115 ∧ 60 * b + q ≤ j ∧ j < 60 * b + q + m) Q st.2) (fun K => (∀ i, i < m → K 115 (60 * b + (q + i)) = Q 137 i) ∧ frL (fun c j => c = 115 ∧ 60 * b + q ≤ j ∧ j < 60 * b + q + m) Q K) m ?_ ?_ N 0 (0, Q) (Nat.zero_le _) (by omega) ⟨nl0, fun i hi => absurd hi (by omega), frL.rfl⟩
    · obtain ⟨K, e', y1, y2⟩ := key2
      refine ⟨K, ?_, ⟨Q, e⟩, fun i hi => (y1 i hi).trans (w1 i hi), (w2.mono (fun c j h => Or.inl h)).trans (y2.mono (fun c j h => Or.inr h))⟩
      unfold f_X11_shift_l110 f_X11_shift_l147
      rw [bnd1_some e, e']
    · rintro k ⟨c, K⟩ hk ⟨e1, w3, f1⟩
      simp only at e1 w3 f1
      subst e1
      have e5 : 60 * nI b + nI q + nI k = nI (60 * b + (q + k)) := by rw [m60, nI_add]; congr 1; omega
      refine ⟨(nI (k + 1), upL K 115 (60 * b + (q + k)) (Q 137 k)), ?_, rfl, fun i hi => ?_, f1.trans (frL.up ⟨rfl, by omega, by omega⟩)⟩
      · show f_X11_shift_b147 N (nI b) (nI q) (nI m) (nI k) K = _
        unfold f_X11_shift_b147
        rw [if_pos ((nI_ltI (by omega) (by omega)).mpr hk), if_pos (inb_nI (by omega) (by decide)), e5, if_pos (inb_nI (by omega) (by decide)), nI_clamp (by omega), nI_clamp (by omega), f1 137 k (by omega), nI_1]; rfl
      · show upL K 115 _ _ 115 (60 * b + (q + i)) = _
        rw [upL_at]
        by_cases z : i = k
        · rw [if_pos (by omega), z]
        · rw [if_neg (by omega)]; exact w3 i (by omega)
    · rintro ⟨c, K⟩ ⟨e1, w3, f1⟩
      simp only at e1 w3 f1
      subst e1
      refine ⟨K, ?_, w3, f1⟩
      show f_X11_shift_b147 N (nI b) (nI q) (nI m) (nI m) K = _
      unfold f_X11_shift_b147
      rw [if_neg (nI_le0 (by omega) (Nat.le_refl _))]
  · rintro k ⟨c, K⟩ hk ⟨e1, w3, f1⟩
    simp only at e1 w3 f1
    subst e1
    have e5 : 60 * nI a + nI p + nI k = nI (60 * a + (p + k)) := by rw [m60, nI_add]; congr 1; omega
    refine ⟨(nI (k + 1), upL K 137 k (L 115 (60 * a + (p + k)))), ?_, rfl, fun i hi => ?_, f1.trans (frL.up rfl)⟩
    · show f_X11_shift_b110 N (nI a) (nI p) v3 v4 (nI m) (nI k) K = _
      unfold f_X11_shift_b110
      rw [if_pos ((nI_ltI (by omega) (by omega)).mpr hk), e5, if_pos (inb_nI (by omega) (by decide)), if_pos (inb_nI (by omega) (by decide)), nI_clamp (by omega), nI_clamp (by omega), f1 115 _ (by omega), nI_1]; rfl
    · show upL K 137 _ _ 137 i = _
      rw [upL_at]
      by_cases z : i = k
      · rw [if_pos z, z]
      · rw [if_neg z]; exact w3 i (by omega)
  · rintro ⟨c, K⟩ ⟨e1, w3, f1⟩
    simp only at e1 w3 f1
    subst e1
    refine ⟨K, ?_, w3, f1⟩
    show f_X11_shift_b110 N (nI a) (nI p) v3 v4 (nI m) (nI m) K = _
    unfold f_X11_shift_b110
    rw [if_neg (nI_le0 (by omega) (Nat.le_refl _))]
end TS3
