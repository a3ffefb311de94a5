/-! ===== THE IMAGE: the reference's side ===== -/
theorem im6 {N : Nat} {I : MI} (hN : 1000 ≤ N) : ∃ J, f_X11_image_l7 N 0 I = some J ∧ (∀ i, i < 6 → J 116 i = I 100 i) ∧ (∀ i, i < 6 → J 119 i = I 103 i) ∧ fr (fun b j => b = 116 ∨ b = 119) I J := by
  refine loop_inv (f := fun st : Int32 × MI => f_X11_image_b7 N st.1 st.2) (fun k st => st.1 = nI k ∧ (∀ i, i < k → st.2 116 i = I 100 i) ∧ (∀ i, i < k → st.2 119 i = I 103 i) ∧ fr (fun b j => b = 116 ∨ b = 119) I st.2) _ 6 ?_ ?_ N 0 (0, I) (Nat.zero_le _) (by omega) ⟨nl0, fun i hi => absurd hi (by omega), fun i hi => absurd hi (by omega), fr.rfl⟩
  · rintro k ⟨c, J⟩ hk ⟨e1, w1, w2, f1⟩
    simp only at e1 w1 w2 f1
    subst e1
    have ik : inb (nI k) 6 = true := inb_nI hk (by decide)
    have lt : nI k < (6 : Int32) := by rw [nl6]; exact (nI_ltI (by omega) (by omega)).mpr hk
    refine ⟨(nI (k + 1), upI (upI J 116 k (I 100 k)) 119 k (I 103 k)), ?_, rfl, fun i hi => ?_, fun i hi => ?_, f1.trans ((fr.up (S := fun b j => b = 116 ∨ b = 119) (Or.inl rfl)).trans (fr.up (S := fun b j => b = 116 ∨ b = 119) (Or.inr rfl)))⟩
    · show f_X11_image_b7 N (nI k) J = _
      unfold f_X11_image_b7
      rw [if_pos lt, if_pos ik, if_pos ik, nI_clamp (by omega), f1 100 k (by omega)]
      simp only [letv]
      rw [if_pos ik, if_pos ik, upI_ne 103 k (Or.inl (by omega)), f1 103 k (by omega), nI_1]
    · show upI (upI J 116 k (I 100 k)) 119 k (I 103 k) 116 i = _
      rw [upI_ne _ _ (Or.inl (by omega)), upI_at]
      by_cases q : i = k
      · rw [if_pos q, q]
      · rw [if_neg q]; exact w1 i (by omega)
    · show upI (upI J 116 k (I 100 k)) 119 k (I 103 k) 119 i = _
      rw [upI_at]
      by_cases q : i = k
      · rw [if_pos q, q]
      · rw [if_neg q, upI_ne _ _ (Or.inl (by omega))]; exact w2 i (by omega)
  · rintro ⟨c, J⟩ ⟨e1, w1, w2, f1⟩
    simp only at e1 w1 w2 f1
    subst e1
    refine ⟨J, ?_, w1, w2, f1⟩
    show f_X11_image_b7 N (nI 6) J = _
    unfold f_X11_image_b7
    rw [if_neg (by decide)]
theorem im72 {N : Nat} {I : MI} (hN : 1000 ≤ N) : ∃ J, f_X11_image_l45 N 0 I = some J ∧ (∀ i, i < 72 → J 117 i = I 101 i) ∧ fr (fun b j => b = 117) I J := by
  refine loop_inv (f := fun st : Int32 × MI => f_X11_image_b45 N st.1 st.2) (fun k st => st.1 = nI k ∧ (∀ i, i < k → st.2 117 i = I 101 i) ∧ fr (fun b j => b = 117) I st.2) _ 72 ?_ ?_ N 0 (0, I) (Nat.zero_le _) (by omega) ⟨nl0, fun i hi => absurd hi (by omega), fr.rfl⟩
  · rintro k ⟨c, J⟩ hk ⟨e1, w1, f1⟩
    simp only at e1 w1 f1
    subst e1
    have ik : inb (nI k) 72 = true := inb_nI hk (by decide)
    have lt : nI k < (72 : Int32) := by rw [nl72]; exact (nI_ltI (by omega) (by omega)).mpr hk
    refine ⟨(nI (k + 1), upI J 117 k (I 101 k)), ?_, rfl, fun i hi => ?_, f1.trans (fr.up rfl)⟩
    · show f_X11_image_b45 N (nI k) J = _
      unfold f_X11_image_b45
      rw [if_pos lt, if_pos ik, if_pos ik, nI_clamp (by omega), f1 101 k (by omega), nI_1]
      rfl
    · show upI J 117 k _ 117 i = _
      rw [upI_at]
      by_cases q : i = k
      · rw [if_pos q, q]
      · rw [if_neg q]; exact w1 i (by omega)
  · rintro ⟨c, J⟩ ⟨e1, w1, f1⟩
    simp only at e1 w1 f1
    subst e1
    refine ⟨J, ?_, w1, f1⟩
    show f_X11_image_b45 N (nI 72) J = _
    unfold f_X11_image_b45
    rw [if_neg (by decide)]
theorem im169 {N : Nat} {I : ML} (hN : 1000 ≤ N) : ∃ J, f_X11_image_l71 N 0 I = some J ∧ (∀ i, i < 169 → J 118 i = I 102 i) ∧ frL (fun b j => b = 118) I J := by
  refine loop_inv (f := fun st : Int32 × ML => f_X11_image_b71 N st.1 st.2) (fun k st => st.1 = nI k ∧ (∀ i, i < k → st.2 118 i = I 102 i) ∧ frL (fun b j => b = 118) I st.2) _ 169 ?_ ?_ N 0 (0, I) (Nat.zero_le _) (by omega) ⟨nl0, fun i hi => absurd hi (by omega), frL.rfl⟩
  · rintro k ⟨c, J⟩ hk ⟨e1, w1, f1⟩
    simp only at e1 w1 f1
    subst e1
    have ik : inb (nI k) 169 = true := inb_nI hk (by decide)
    have lt : nI k < (169 : Int32) := by rw [nl169]; exact (nI_ltI (by omega) (by omega)).mpr hk
    refine ⟨(nI (k + 1), upL J 118 k (I 102 k)), ?_, rfl, fun i hi => ?_, f1.trans (frL.up rfl)⟩
    · show f_X11_image_b71 N (nI k) J = _
      unfold f_X11_image_b71
      rw [if_pos lt, if_pos ik, if_pos ik, nI_clamp (by omega), f1 102 k (by omega), nI_1]
      rfl
    · show upL J 118 k _ 118 i = _
      rw [upL_at]
      by_cases q : i = k
      · rw [if_pos q, q]
      · rw [if_neg q]; exact w1 i (by omega)
  · rintro ⟨c, J⟩ ⟨e1, w1, f1⟩
    simp only at e1 w1 f1
    subst e1
    refine ⟨J, ?_, w1, f1⟩
    show f_X11_image_b71 N (nI 169) J = _
    unfold f_X11_image_b71
    rw [if_neg (by decide)]
theorem im36 {N : Nat} {I : MI} (hN : 1000 ≤ N) : ∃ J, f_X11_image_l98 N 0 I = some J ∧ (∀ i, i < 36 → J 120 i = I 104 i) ∧ (∀ i, i < 36 → J 121 i = I 105 i) ∧ fr (fun b j => b = 120 ∨ b = 121) I J := by
  refine loop_inv (f := fun st : Int32 × MI => f_X11_image_b98 N st.1 st.2) (fun k st => st.1 = nI k ∧ (∀ i, i < k → st.2 120 i = I 104 i) ∧ (∀ i, i < k → st.2 121 i = I 105 i) ∧ fr (fun b j => b = 120 ∨ b = 121) I st.2) _ 36 ?_ ?_ N 0 (0, I) (Nat.zero_le _) (by omega) ⟨nl0, fun i hi => absurd hi (by omega), fun i hi => absurd hi (by omega), fr.rfl⟩
  · rintro k ⟨c, J⟩ hk ⟨e1, w1, w2, f1⟩
    simp only at e1 w1 w2 f1
    subst e1
    have ik : inb (nI k) 36 = true := inb_nI hk (by decide)
    have lt : nI k < (36 : Int32) := by rw [nl36]; exact (nI_ltI (by omega) (by omega)).mpr hk
    refine ⟨(nI (k + 1), upI (upI J 120 k (I 104 k)) 121 k (I 105 k)), ?_, rfl, fun i hi => ?_, fun i hi => ?_, f1.trans ((fr.up (S := fun b j => b = 120 ∨ b = 121) (Or.inl rfl)).trans (fr.up (S := fun b j => b = 120 ∨ b = 121) (Or.inr rfl)))⟩
    · show f_X11_image_b98 N (nI k) J = _
      unfold f_X11_image_b98
      rw [if_pos lt, if_pos ik, if_pos ik, nI_clamp (by omega), f1 104 k (by omega)]
      simp only [letv]
      rw [if_pos ik, if_pos ik, upI_ne 105 k (Or.inl (by omega)), f1 105 k (by omega), nI_1]
    · show upI (upI J 120 k (I 104 k)) 121 k (I 105 k) 120 i = _
      rw [upI_ne _ _ (Or.inl (by omega)), upI_at]
      by_cases q : i = k
      · rw [if_pos q, q]
      · rw [if_neg q]; exact w1 i (by omega)
    · show upI (upI J 120 k (I 104 k)) 121 k (I 105 k) 121 i = _
      rw [upI_at]
      by_cases q : i = k
      · rw [if_pos q, q]
      · rw [if_neg q, upI_ne _ _ (Or.inl (by omega))]; exact w2 i (by omega)
  · rintro ⟨c, J⟩ ⟨e1, w1, w2, f1⟩
    simp only at e1 w1 w2 f1
    subst e1
    refine ⟨J, ?_, w1, w2, f1⟩
    show f_X11_image_b98 N (nI 36) J = _
    unfold f_X11_image_b98
    rw [if_neg (by decide)]
theorem im4 {N : Nat} {I : MI} (hN : 1000 ≤ N) : ∃ J, f_X11_image_l144 N 0 I = some J ∧ (∀ i, i < 4 → J 122 i = I 106 i) ∧ (∀ i, i < 4 → J 123 i = I 107 i) ∧ fr (fun b j => b = 122 ∨ b = 123) I J := by
  refine loop_inv (f := fun st : Int32 × MI => f_X11_image_b144 N st.1 st.2) (fun k st => st.1 = nI k ∧ (∀ i, i < k → st.2 122 i = I 106 i) ∧ (∀ i, i < k → st.2 123 i = I 107 i) ∧ fr (fun b j => b = 122 ∨ b = 123) I st.2) _ 4 ?_ ?_ N 0 (0, I) (Nat.zero_le _) (by omega) ⟨nl0, fun i hi => absurd hi (by omega), fun i hi => absurd hi (by omega), fr.rfl⟩
  · rintro k ⟨c, J⟩ hk ⟨e1, w1, w2, f1⟩
    simp only at e1 w1 w2 f1
    subst e1
    have ik : inb (nI k) 4 = true := inb_nI hk (by decide)
    have lt : nI k < (4 : Int32) := by rw [nl4]; exact (nI_ltI (by omega) (by omega)).mpr hk
    refine ⟨(nI (k + 1), upI (upI J 122 k (I 106 k)) 123 k (I 107 k)), ?_, rfl, fun i hi => ?_, fun i hi => ?_, f1.trans ((fr.up (S := fun b j => b = 122 ∨ b = 123) (Or.inl rfl)).trans (fr.up (S := fun b j => b = 122 ∨ b = 123) (Or.inr rfl)))⟩
    · show f_X11_image_b144 N (nI k) J = _
      unfold f_X11_image_b144
      rw [if_pos lt, if_pos ik, if_pos ik, nI_clamp (by omega), f1 106 k (by omega)]
      simp only [letv]
      rw [if_pos ik, if_pos ik, upI_ne 107 k (Or.inl (by omega)), f1 107 k (by omega), nI_1]
    · show upI (upI J 122 k (I 106 k)) 123 k (I 107 k) 122 i = _
      rw [upI_ne _ _ (Or.inl (by omega)), upI_at]
      by_cases q : i = k
      · rw [if_pos q, q]
      · rw [if_neg q]; exact w1 i (by omega)
    · show upI (upI J 122 k (I 106 k)) 123 k (I 107 k) 123 i = _
      rw [upI_at]
      by_cases q : i = k
      · rw [if_pos q, q]
      · rw [if_neg q, upI_ne _ _ (Or.inl (by omega))]; exact w2 i (by omega)
  · rintro ⟨c, J⟩ ⟨e1, w1, w2, f1⟩
    simp only at e1 w1 w2 f1
    subst e1
    refine ⟨J, ?_, w1, w2, f1⟩
    show f_X11_image_b144 N (nI 4) J = _
    unfold f_X11_image_b144
    rw [if_neg (by decide)]
theorem rs6 {N : Nat} {I : MI} (hN : 1000 ≤ N) : ∃ J, f_X11_restore_l12 N 0 I = some J ∧ (∀ i, i < 6 → J 100 i = I 116 i) ∧ (∀ i, i < 6 → J 103 i = I 119 i) ∧ fr (fun b j => b = 100 ∨ b = 103) I J := by
  refine loop_inv (f := fun st : Int32 × MI => f_X11_restore_b12 N st.1 st.2) (fun k st => st.1 = nI k ∧ (∀ i, i < k → st.2 100 i = I 116 i) ∧ (∀ i, i < k → st.2 103 i = I 119 i) ∧ fr (fun b j => b = 100 ∨ b = 103) I st.2) _ 6 ?_ ?_ N 0 (0, I) (Nat.zero_le _) (by omega) ⟨nl0, fun i hi => absurd hi (by omega), fun i hi => absurd hi (by omega), fr.rfl⟩
  · rintro k ⟨c, J⟩ hk ⟨e1, w1, w2, f1⟩
    simp only at e1 w1 w2 f1
    subst e1
    have ik : inb (nI k) 6 = true := inb_nI hk (by decide)
    have lt : nI k < (6 : Int32) := by rw [nl6]; exact (nI_ltI (by omega) (by omega)).mpr hk
    refine ⟨(nI (k + 1), upI (upI J 100 k (I 116 k)) 103 k (I 119 k)), ?_, rfl, fun i hi => ?_, fun i hi => ?_, f1.trans ((fr.up (S := fun b j => b = 100 ∨ b = 103) (Or.inl rfl)).trans (fr.up (S := fun b j => b = 100 ∨ b = 103) (Or.inr rfl)))⟩
    · show f_X11_restore_b12 N (nI k) J = _
      unfold f_X11_restore_b12
      rw [if_pos lt, if_pos ik, if_pos ik, nI_clamp (by omega), f1 116 k (by omega)]
      simp only [letv]
      rw [if_pos ik, if_pos ik, upI_ne 119 k (Or.inl (by omega)), f1 119 k (by omega), nI_1]
    · show upI (upI J 100 k (I 116 k)) 103 k (I 119 k) 100 i = _
      rw [upI_ne _ _ (Or.inl (by omega)), upI_at]
      by_cases q : i = k
      · rw [if_pos q, q]
      · rw [if_neg q]; exact w1 i (by omega)
    · show upI (upI J 100 k (I 116 k)) 103 k (I 119 k) 103 i = _
      rw [upI_at]
      by_cases q : i = k
      · rw [if_pos q, q]
      · rw [if_neg q, upI_ne _ _ (Or.inl (by omega))]; exact w2 i (by omega)
  · rintro ⟨c, J⟩ ⟨e1, w1, w2, f1⟩
    simp only at e1 w1 w2 f1
    subst e1
    refine ⟨J, ?_, w1, w2, f1⟩
    show f_X11_restore_b12 N (nI 6) J = _
    unfold f_X11_restore_b12
    rw [if_neg (by decide)]
theorem rs72 {N : Nat} {I : MI} (hN : 1000 ≤ N) : ∃ J, f_X11_restore_l50 N 0 I = some J ∧ (∀ i, i < 72 → J 101 i = I 117 i) ∧ fr (fun b j => b = 101) I J := by
  refine loop_inv (f := fun st : Int32 × MI => f_X11_restore_b50 N st.1 st.2) (fun k st => st.1 = nI k ∧ (∀ i, i < k → st.2 101 i = I 117 i) ∧ fr (fun b j => b = 101) I st.2) _ 72 ?_ ?_ N 0 (0, I) (Nat.zero_le _) (by omega) ⟨nl0, fun i hi => absurd hi (by omega), fr.rfl⟩
  · rintro k ⟨c, J⟩ hk ⟨e1, w1, f1⟩
    simp only at e1 w1 f1
    subst e1
    have ik : inb (nI k) 72 = true := inb_nI hk (by decide)
    have lt : nI k < (72 : Int32) := by rw [nl72]; exact (nI_ltI (by omega) (by omega)).mpr hk
    refine ⟨(nI (k + 1), upI J 101 k (I 117 k)), ?_, rfl, fun i hi => ?_, f1.trans (fr.up rfl)⟩
    · show f_X11_restore_b50 N (nI k) J = _
      unfold f_X11_restore_b50
      rw [if_pos lt, if_pos ik, if_pos ik, nI_clamp (by omega), f1 117 k (by omega), nI_1]
      rfl
    · show upI J 101 k _ 101 i = _
      rw [upI_at]
      by_cases q : i = k
      · rw [if_pos q, q]
      · rw [if_neg q]; exact w1 i (by omega)
  · rintro ⟨c, J⟩ ⟨e1, w1, f1⟩
    simp only at e1 w1 f1
    subst e1
    refine ⟨J, ?_, w1, f1⟩
    show f_X11_restore_b50 N (nI 72) J = _
    unfold f_X11_restore_b50
    rw [if_neg (by decide)]
theorem rs169 {N : Nat} {I : ML} (hN : 1000 ≤ N) : ∃ J, f_X11_restore_l76 N 0 I = some J ∧ (∀ i, i < 169 → J 102 i = I 118 i) ∧ frL (fun b j => b = 102) I J := by
  refine loop_inv (f := fun st : Int32 × ML => f_X11_restore_b76 N st.1 st.2) (fun k st => st.1 = nI k ∧ (∀ i, i < k → st.2 102 i = I 118 i) ∧ frL (fun b j => b = 102) I st.2) _ 169 ?_ ?_ N 0 (0, I) (Nat.zero_le _) (by omega) ⟨nl0, fun i hi => absurd hi (by omega), frL.rfl⟩
  · rintro k ⟨c, J⟩ hk ⟨e1, w1, f1⟩
    simp only at e1 w1 f1
    subst e1
    have ik : inb (nI k) 169 = true := inb_nI hk (by decide)
    have lt : nI k < (169 : Int32) := by rw [nl169]; exact (nI_ltI (by omega) (by omega)).mpr hk
    refine ⟨(nI (k + 1), upL J 102 k (I 118 k)), ?_, rfl, fun i hi => ?_, f1.trans (frL.up rfl)⟩
    · show f_X11_restore_b76 N (nI k) J = _
      unfold f_X11_restore_b76
      rw [if_pos lt, if_pos ik, if_pos ik, nI_clamp (by omega), f1 118 k (by omega), nI_1]
      rfl
    · show upL J 102 k _ 102 i = _
      rw [upL_at]
      by_cases q : i = k
      · rw [if_pos q, q]
      · rw [if_neg q]; exact w1 i (by omega)
  · rintro ⟨c, J⟩ ⟨e1, w1, f1⟩
    simp only at e1 w1 f1
    subst e1
    refine ⟨J, ?_, w1, f1⟩
    show f_X11_restore_b76 N (nI 169) J = _
    unfold f_X11_restore_b76
    rw [if_neg (by decide)]
theorem rs36 {N : Nat} {I : MI} (hN : 1000 ≤ N) : ∃ J, f_X11_restore_l103 N 0 I = some J ∧ (∀ i, i < 36 → J 104 i = I 120 i) ∧ (∀ i, i < 36 → J 105 i = I 121 i) ∧ fr (fun b j => b = 104 ∨ b = 105) I J := by
  refine loop_inv (f := fun st : Int32 × MI => f_X11_restore_b103 N st.1 st.2) (fun k st => st.1 = nI k ∧ (∀ i, i < k → st.2 104 i = I 120 i) ∧ (∀ i, i < k → st.2 105 i = I 121 i) ∧ fr (fun b j => b = 104 ∨ b = 105) I st.2) _ 36 ?_ ?_ N 0 (0, I) (Nat.zero_le _) (by omega) ⟨nl0, fun i hi => absurd hi (by omega), fun i hi => absurd hi (by omega), fr.rfl⟩
  · rintro k ⟨c, J⟩ hk ⟨e1, w1, w2, f1⟩
    simp only at e1 w1 w2 f1
    subst e1
    have ik : inb (nI k) 36 = true := inb_nI hk (by decide)
    have lt : nI k < (36 : Int32) := by rw [nl36]; exact (nI_ltI (by omega) (by omega)).mpr hk
    refine ⟨(nI (k + 1), upI (upI J 104 k (I 120 k)) 105 k (I 121 k)), ?_, rfl, fun i hi => ?_, fun i hi => ?_, f1.trans ((fr.up (S := fun b j => b = 104 ∨ b = 105) (Or.inl rfl)).trans (fr.up (S := fun b j => b = 104 ∨ b = 105) (Or.inr rfl)))⟩
    · show f_X11_restore_b103 N (nI k) J = _
      unfold f_X11_restore_b103
      rw [if_pos lt, if_pos ik, if_pos ik, nI_clamp (by omega), f1 120 k (by omega)]
      simp only [letv]
      rw [if_pos ik, if_pos ik, upI_ne 121 k (Or.inl (by omega)), f1 121 k (by omega), nI_1]
    · show upI (upI J 104 k (I 120 k)) 105 k (I 121 k) 104 i = _
      rw [upI_ne _ _ (Or.inl (by omega)), upI_at]
      by_cases q : i = k
      · rw [if_pos q, q]
      · rw [if_neg q]; exact w1 i (by omega)
    · show upI (upI J 104 k (I 120 k)) 105 k (I 121 k) 105 i = _
      rw [upI_at]
      by_cases q : i = k
      · rw [if_pos q, q]
      · rw [if_neg q, upI_ne _ _ (Or.inl (by omega))]; exact w2 i (by omega)
  · rintro ⟨c, J⟩ ⟨e1, w1, w2, f1⟩
    simp only at e1 w1 w2 f1
    subst e1
    refine ⟨J, ?_, w1, w2, f1⟩
    show f_X11_restore_b103 N (nI 36) J = _
    unfold f_X11_restore_b103
    rw [if_neg (by decide)]
theorem rs4 {N : Nat} {I : MI} (hN : 1000 ≤ N) : ∃ J, f_X11_restore_l149 N 0 I = some J ∧ (∀ i, i < 4 → J 106 i = I 122 i) ∧ (∀ i, i < 4 → J 107 i = I 123 i) ∧ fr (fun b j => b = 106 ∨ b = 107) I J := by
  refine loop_inv (f := fun st : Int32 × MI => f_X11_restore_b149 N st.1 st.2) (fun k st => st.1 = nI k ∧ (∀ i, i < k → st.2 106 i = I 122 i) ∧ (∀ i, i < k → st.2 107 i = I 123 i) ∧ fr (fun b j => b = 106 ∨ b = 107) I st.2) _ 4 ?_ ?_ N 0 (0, I) (Nat.zero_le _) (by omega) ⟨nl0, fun i hi => absurd hi (by omega), fun i hi => absurd hi (by omega), fr.rfl⟩
  · rintro k ⟨c, J⟩ hk ⟨e1, w1, w2, f1⟩
    simp only at e1 w1 w2 f1
    subst e1
    have ik : inb (nI k) 4 = true := inb_nI hk (by decide)
    have lt : nI k < (4 : Int32) := by rw [nl4]; exact (nI_ltI (by omega) (by omega)).mpr hk
    refine ⟨(nI (k + 1), upI (upI J 106 k (I 122 k)) 107 k (I 123 k)), ?_, rfl, fun i hi => ?_, fun i hi => ?_, f1.trans ((fr.up (S := fun b j => b = 106 ∨ b = 107) (Or.inl rfl)).trans (fr.up (S := fun b j => b = 106 ∨ b = 107) (Or.inr rfl)))⟩
    · show f_X11_restore_b149 N (nI k) J = _
      unfold f_X11_restore_b149
      rw [if_pos lt, if_pos ik, if_pos ik, nI_clamp (by omega), f1 122 k (by omega)]
      simp only [letv]
      rw [if_pos ik, if_pos ik, upI_ne 123 k (Or.inl (by omega)), f1 123 k (by omega), nI_1]
    · show upI (upI J 106 k (I 122 k)) 107 k (I 123 k) 106 i = _
      rw [upI_ne _ _ (Or.inl (by omega)), upI_at]
      by_cases q : i = k
      · rw [if_pos q, q]
      · rw [if_neg q]; exact w1 i (by omega)
    · show upI (upI J 106 k (I 122 k)) 107 k (I 123 k) 107 i = _
      rw [upI_at]
      by_cases q : i = k
      · rw [if_pos q, q]
      · rw [if_neg q, upI_ne _ _ (Or.inl (by omega))]; exact w2 i (by omega)
  · rintro ⟨c, J⟩ ⟨e1, w1, w2, f1⟩
    simp only at e1 w1 w2 f1
    subst e1
    refine ⟨J, ?_, w1, w2, f1⟩
    show f_X11_restore_b149 N (nI 4) J = _
    unfold f_X11_restore_b149
    rw [if_neg (by decide)]
