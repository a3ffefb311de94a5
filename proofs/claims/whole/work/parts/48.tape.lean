/-! ===== tapes: tape ===== -/
section TS2
variable {PL : MX → MI → ML → Prop} {PA : MI → Prop} {N : Nat} {X : MX} {I I' : MI} {L L' : ML}
theorem tzero {t : Nat} {L : ML} (ht : t < 6) (hN : 1000 ≤ N) : ∃ K, f_X11_tape_l72 N (nI t) 0 L = some K ∧ (∀ i, i < 60 → K 115 (60 * t + i) = 0) ∧ frL (fun b j => b = 115 ∧ 60 * t ≤ j ∧ j < 60 * t + 60) L K := by
  refine loop_inv (f := fun s => f_X11_tape_b72 N (nI t) s.1 s.2) (fun k st => st.1 = nI k ∧ (∀ i, i < k → st.2 115 (60 * t + i) = 0) ∧ frL (fun b j => b = 115 ∧ 60 * t ≤ j ∧ j < 60 * t + 60) L st.2) _ 60 ?_ ?_ N 0 (0, L) (Nat.zero_le _) (by omega) ⟨nl0, fun i hi => absurd hi (by omega), frL.rfl⟩
  · rintro j ⟨c, K⟩ hj ⟨e1, w1, f1⟩
    simp only at e1 w1 f1
    subst e1
    refine ⟨(nI (j + 1), upL K 115 (60 * t + j) 0), ?_, rfl, ?_, f1.trans (frL.up ⟨rfl, by omega, by omega⟩)⟩
    · show f_X11_tape_b72 N (nI t) (nI j) K = _
      unfold f_X11_tape_b72
      have l6 : nI j < (60 : Int32) := by rw [nl60]; exact (nI_ltI (by omega) (by omega)).mpr hj
      rw [if_pos l6, m60, if_pos (inb_nI (by omega) (by decide)), nI_clamp (by omega)]
      simp only [letv]
      rw [nI_1]
    · intro i hi
      show upL K 115 (60 * t + j) 0 115 (60 * t + i) = 0
      rw [upL_at]
      by_cases q : i = j
      · rw [if_pos (by omega)]
      · rw [if_neg (by omega)]; exact w1 i (by omega)
  · rintro ⟨c, K⟩ ⟨e1, w1, f1⟩
    simp only at e1 w1 f1
    subst e1
    refine ⟨K, ?_, w1, f1⟩
    show f_X11_tape_b72 N (nI t) (nI 60) K = _
    unfold f_X11_tape_b72
    rw [if_neg (by decide)]
/-- a TAPE is laid anew: of sort v with n things -/
theorem tape_go (hPL : frPL PL) (hPA : frPA PA) (hN : 1000 ≤ N) (hI : Inv0 PL PA X I L) {t n : Nat} (ht : t < 6) (hn : n ≤ 60) {v : Int32} (hv : (v = -1 ∧ n = 0) ∨ ∃ s, s ≤ 4 ∧ v = nI s) : ∃ I1 L1 I2 L2, f_X7_become N (79 + 2 * t) v (nI n) I L = some (I1, L1) ∧ I2 = upI (upI I1 113 t v) 114 t (nI n) ∧ f_X11_tape_l72 N (nI t) 0 L1 = some L2 ∧ Inv0 PL PA X I2 L2 := by
  obtain ⟨L1, a1, a2, a3⟩ := fill_L (N := N) (a := 80 + 2 * t) (n := 60) (v := 0) (L := L) (by omega) (by decide)
  obtain ⟨L2, b1, b2, b3⟩ := tzero (N := N) (L := L1) ht hN
  have u1 : ∀ b j, (b ≠ 113 ∧ b ≠ 114) → upI (upI (upI (upI I (79 + 2 * t) 0 v) (79 + 2 * t) 1 (nI n)) 113 t v) 114 t (nI n) b j = upI (upI I (79 + 2 * t) 0 v) (79 + 2 * t) 1 (nI n) b j := fun b j h => by rw [upI_ne _ _ (Or.inl h.2), upI_ne _ _ (Or.inl h.1)]
  have e113 : upI (upI (upI (upI I (79 + 2 * t) 0 v) (79 + 2 * t) 1 (nI n)) 113 t v) 114 t (nI n) 113 t = v := by rw [upI_ne _ _ (Or.inl (by omega)), upI_eq]
  refine ⟨upI (upI I (79 + 2 * t) 0 v) (79 + 2 * t) 1 (nI n), L1, _, L2, ?_, rfl, b1, inv_tape hPL hPA hI ht ((fr.up (S := sR t) (by unfold sR; omega)).trans ((fr.up (S := sR t) (by unfold sR; omega)).trans ((fr.up (S := sR t) (by unfold sR; omega)).trans (fr.up (S := sR t) (by unfold sR; omega))))) ((a3.mono (S' := fun b j => scrL b j ∨ sRL t b j) (fun b j h => by unfold sRL; omega)).trans (b3.mono (fun b j h => by unfold sRL; omega))) ⟨n, hn, ?_, upI_eq _ _ _ _, ?_, ?_, fun i hi => ?_⟩⟩
  · unfold f_X7_become
    simp only [letv]
    rw [show 79 + 2 * t + 1 = 80 + 2 * t by omega, bnd1_some a1]
  · rw [u1 _ _ (by omega), upI_eq]
  · rw [e113, u1 _ _ (by omega), upI_ne _ _ (Or.inr (by omega)), upI_eq]
  · rw [e113]; exact hv
  · rw [b2 i (by omega), b3 _ _ (by omega), a2 i (by omega)]
theorem s_tape (hPL : frPL PL) (hPA : frPA PA) (hN : 1000 ≤ N) : S_tape N (Inv0 PL PA) := by
  intro X I L x1 x2 x3 hI
  rcases six_cases x1 with ⟨t, ht, rfl, e1, e2⟩ | ⟨e1, e2⟩
  · have it : inb (nI t) 6 = true := inb_nI ht (by decide)
    have ct : Int32.toNatClampNeg (nI t) = t := nI_clamp (by omega)
    have hin : f_X11_in (Int32.toInt64 x2) (-1) 4 = some (if (-1 : Int) ≤ x2.toInt ∧ x2.toInt ≤ 4 then 1 else 0) := in_of (by decide) (by decide)
    have t1 : x2 < -1 ↔ x2.toInt < -1 := by rw [Int32.lt_iff_toInt_lt]; rfl
    have t2 : 4 < x2 ↔ 4 < x2.toInt := by rw [Int32.lt_iff_toInt_lt]; rfl
    have t3 : x2 < 0 ↔ x2.toInt < 0 := by rw [Int32.lt_iff_toInt_lt]; rfl
    by_cases hr : (-1 : Int) ≤ x2.toInt ∧ x2.toInt ≤ 4
    · rw [if_pos hr] at hin
      have r1 : ¬ x2 < -1 := fun z => by rw [t1] at z; omega
      have r2 : ¬ 4 < x2 := fun z => by rw [t2] at z; omega
      by_cases hm : x2 = -1
      · obtain ⟨I1, L1, I2, L2, g1, g2, g3, g4⟩ := tape_go (N := N) hPL hPA hN hI ht (n := 0) (by omega) (Or.inl ⟨hm, rfl⟩)
        have neg : x2 < 0 := by rw [hm]; decide
        refine ⟨1, I1, L1, I2, L2, ?_, ?_, g4⟩
        · unfold f_X10_tape
          rw [hm] at g1
          rw [bnd1_some e1, if_neg (by decide), if_neg r1, if_neg r2, if_pos hm, if_pos it, ct, nl0, bnd2_some g1]
        · unfold f_X11_tape
          rw [bnd1_some e2, if_neg (by decide), bnd1_some hin, if_neg (by decide), if_pos neg]
          unfold f_X11_tape_j36
          rw [if_pos neg]
          unfold f_X11_tape_j47
          rw [if_pos it, ct]
          simp only [letv]
          rw [if_pos neg, if_pos it, bnd1_some g3, g2]
          rfl
      · have nn : ¬ x2 < 0 := by
          rw [t3]
          have n1 : x2.toInt ≠ -1 := fun h => hm (Int32.toInt_inj.mp (h.trans (by decide)))
          omega
        obtain ⟨s, hs, rfl⟩ := nI_of nn
        rw [nI_toInt hs] at hr
        by_cases h6 : 60 < x3
        · refine ⟨-2, I, L, I, L, ?_, ?_, hI⟩
          · unfold f_X10_tape
            rw [bnd1_some e1, if_neg (by decide), if_neg r1, if_neg r2, if_neg hm, if_pos h6]
          · unfold f_X11_tape
            rw [bnd1_some e2, if_neg (by decide), bnd1_some hin, if_neg (by decide), if_neg nn, if_pos h6]
        · by_cases h0 : x3 < 0
          · refine ⟨-14, I, L, I, L, ?_, ?_, hI⟩
            · unfold f_X10_tape
              rw [bnd1_some e1, if_neg (by decide), if_neg r1, if_neg r2, if_neg hm, if_neg h6, if_pos h0]
            · unfold f_X11_tape
              rw [bnd1_some e2, if_neg (by decide), bnd1_some hin, if_neg (by decide), if_neg nn, if_neg h6]
              unfold f_X11_tape_j36
              rw [if_neg nn, if_pos h0]
          · obtain ⟨n, hn, rfl⟩ := nI_of h0
            have hn6 : n ≤ 60 := by
              rw [nl60, nI_ltI (by omega) hn] at h6; omega
            obtain ⟨I1, L1, I2, L2, g1, g2, g3, g4⟩ := tape_go (N := N) hPL hPA hN hI ht (n := n) hn6 (Or.inr ⟨s, by omega, rfl⟩)
            refine ⟨1, I1, L1, I2, L2, ?_, ?_, g4⟩
            · unfold f_X10_tape
              rw [bnd1_some e1, if_neg (by decide), if_neg r1, if_neg r2, if_neg hm, if_neg h6, if_neg h0, if_pos it, ct, bnd2_some g1]
            · unfold f_X11_tape
              rw [bnd1_some e2, if_neg (by decide), bnd1_some hin, if_neg (by decide), if_neg nn, if_neg h6]
              unfold f_X11_tape_j36
              rw [if_neg nn, if_neg h0]
              unfold f_X11_tape_j47
              rw [if_pos it, ct]
              simp only [letv]
              rw [if_neg nn, if_pos it, bnd1_some g3, g2]
    · rw [if_neg hr] at hin
      refine ⟨-2, I, L, I, L, ?_, ?_, hI⟩
      · unfold f_X10_tape
        rw [bnd1_some e1, if_neg (by decide)]
        by_cases q : x2 < -1
        · rw [if_pos q]
        · rw [if_neg q, if_pos (t2.mpr (by rw [t1] at q; omega))]
      · unfold f_X11_tape
        rw [bnd1_some e2, if_neg (by decide), bnd1_some hin, if_pos rfl]
  · refine ⟨-1, I, L, I, L, ?_, ?_, hI⟩
    · unfold f_X10_tape; rw [bnd1_some e1, if_pos rfl]
    · unfold f_X11_tape; rw [bnd1_some e2, if_pos rfl]
end TS2
