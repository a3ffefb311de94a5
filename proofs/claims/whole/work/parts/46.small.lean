/-! ===== see, feed, paper, peek ===== -/
theorem nl127 : (127 : Int32) = nI 127 := by decide +kernel
theorem nl9999 : (9999 : Int32) = nI 9999 := by decide +kernel
section SM
variable {PL : MX → MI → ML → Prop} {PA : MI → Prop} {N : Nat} {X : MX} {I I' : MI} {L : ML}
def sN (b j : Nat) : Prop := (b = 1 ∧ j = 6) ∨ (b = 99 ∧ j = 6) ∨ b = 8 ∨ b = 106 ∨ b = 9 ∨ b = 107
theorem inv_seen (hPL : frPL PL) (hPA : frPA PA) (hI : Inv0 PL PA X I L) (m2 : fr sN I I') (hN' : pN I') : Inv0 PL PA X I' L := by
  obtain ⟨h10, h11, hG, hW, hWi, hS, hSi, hB, hBi, hT, hTi, hN, hNi, hC, hX, hP, hR, hL, hA⟩ := hI
  have h' : frL (fun _ _ => False) L L := frL.rfl
  refine ⟨h10, h11, pG_fr m2 (fun b j s => ?_) hG, pW_fr m2 (fun b j s => ?_) hW, pWi_fr m2 (fun b j s => ?_) hWi, hS, pSi_fr m2 (fun b j s => ?_) h' (fun b j s => s.elim) hSi, pB_fr m2 (fun b j s => ?_) hB, pBi_fr m2 (fun b j s => ?_) hBi, pT_fr m2 (fun b j s => ?_) hT, pTi_fr m2 (fun b j s => ?_) hTi, hN', pNi_fr m2 (fun b j s => ?_) hNi, pC_fr m2 (fun b j s => ?_) hC, pX_fr m2 (fun b j s => ?_) hX, pP_fr m2 (fun b j s => ?_) hP, pR_fr m2 (fun b j s => ?_) h' (fun b j s => s.elim) hR, hPL X I I' L L (fun b j q => m2 b j ?_) (fun b j q => rfl) hL, hPA I I' (fun b j q => m2 b j ?_) hA⟩
  all_goals first
    | (unfold sN at s; unfold depG; omega) | (unfold sN at s; unfold depW; omega) | (unfold sN at s; unfold depWi; omega) | (unfold sN at s; unfold depI; omega) | (unfold sN at s; unfold depB; omega)
    | (unfold sN at s; unfold depBi; omega) | (unfold sN at s; unfold depT; omega) | (unfold sN at s; unfold depTi; omega) | (unfold sN at s; unfold depNi; omega) | (unfold sN at s; unfold depC; omega)
    | (unfold sN at s; unfold depX; omega) | (unfold sN at s; unfold depP; omega) | (unfold sN at s; unfold depR; omega)
    | (unfold sN; omega) | (unfold depA at q; unfold sN; omega)
def sX (b j : Nat) : Prop := (b = 72 ∧ j = 1) ∨ (b = 99 ∧ j = 13) ∨ b = 73 ∨ b = 111
theorem inv_text (hPL : frPL PL) (hPA : frPA PA) (hI : Inv0 PL PA X I L) (m2 : fr sX I I') (hX' : pX I') : Inv0 PL PA X I' L := by
  obtain ⟨h10, h11, hG, hW, hWi, hS, hSi, hB, hBi, hT, hTi, hN, hNi, hC, hX, hP, hR, hL, hA⟩ := hI
  have h' : frL (fun _ _ => False) L L := frL.rfl
  refine ⟨h10, h11, pG_fr m2 (fun b j s => ?_) hG, pW_fr m2 (fun b j s => ?_) hW, pWi_fr m2 (fun b j s => ?_) hWi, hS, pSi_fr m2 (fun b j s => ?_) h' (fun b j s => s.elim) hSi, pB_fr m2 (fun b j s => ?_) hB, pBi_fr m2 (fun b j s => ?_) hBi, pT_fr m2 (fun b j s => ?_) hT, pTi_fr m2 (fun b j s => ?_) hTi, pN_fr m2 (fun b j s => ?_) hN, pNi_fr m2 (fun b j s => ?_) hNi, pC_fr m2 (fun b j s => ?_) hC, hX', pP_fr m2 (fun b j s => ?_) hP, pR_fr m2 (fun b j s => ?_) h' (fun b j s => s.elim) hR, hPL X I I' L L (fun b j q => m2 b j ?_) (fun b j q => rfl) hL, hPA I I' (fun b j q => m2 b j ?_) hA⟩
  all_goals first
    | (unfold sX at s; unfold depG; omega) | (unfold sX at s; unfold depW; omega) | (unfold sX at s; unfold depWi; omega) | (unfold sX at s; unfold depI; omega) | (unfold sX at s; unfold depB; omega)
    | (unfold sX at s; unfold depBi; omega) | (unfold sX at s; unfold depT; omega) | (unfold sX at s; unfold depTi; omega) | (unfold sX at s; unfold depN; omega) | (unfold sX at s; unfold depNi; omega) | (unfold sX at s; unfold depC; omega)
    | (unfold sX at s; unfold depP; omega) | (unfold sX at s; unfold depR; omega)
    | (unfold sX; omega) | (unfold depA at q; unfold sX; omega)
theorem Inv0.n (hI : Inv0 PL PA X I L) : pN I := hI.2.2.2.2.2.2.2.2.2.2.2.1
theorem Inv0.x (hI : Inv0 PL PA X I L) : pX I := hI.2.2.2.2.2.2.2.2.2.2.2.2.2.2.1
theorem Inv0.p (hI : Inv0 PL PA X I L) : pP I := hI.2.2.2.2.2.2.2.2.2.2.2.2.2.2.2.1
theorem Inv0.r (hI : Inv0 PL PA X I L) : pR I L := hI.2.2.2.2.2.2.2.2.2.2.2.2.2.2.2.2.1
theorem s_feed (hPL : frPL PL) (hPA : frPA PA) : S_feed N (Inv0 PL PA) := by
  intro X I L x1 hI
  rcases rng_cases x1 127 (by decide) (hi := 127) (by decide) with ⟨c, hc, rfl, e1⟩ | ⟨h1, e1⟩
  · obtain ⟨n, hn, q1, q2, q3⟩ := hI.x
    have l0 : ¬ nI c < 0 := nI_pos (by omega)
    have l1 : ¬ (127 : Int32) < nI c := by rw [nl127]; exact nI_le0 (by omega) hc
    by_cases q : n < 80
    · have lt : nI n < (80 : Int32) := by rw [nl80]; exact (nI_ltI (by omega) (by omega)).mpr q
      have i1 : inb (nI n) 80 = true := inb_nI q (by decide)
      have cn : Int32.toNatClampNeg (nI n) = n := nI_clamp (by omega)
      have hp : f_X8_push (nI c) I = some (1, upI (upI I 73 n (nI c)) 72 1 (nI (n + 1))) := by
        unfold f_X8_push
        rw [q1, if_pos lt, if_pos i1, cn]
        simp only [letv]
        rw [upI_ne _ _ (Or.inl (by omega)), q1, nI_1]
      refine ⟨nI (n + 1), upI (upI I 73 n (nI c)) 72 1 (nI (n + 1)), upI (upI (upI (upI I 73 n (nI c)) 72 1 (nI (n + 1))) 111 n (nI c)) 99 13 (nI (n + 1)), ?_, ?_, inv_text hPL hPA hI ((fr.up (S := sX) (by unfold sX; omega)).trans ((fr.up (S := sX) (by unfold sX; omega)).trans ((fr.up (S := sX) (by unfold sX; omega)).trans (fr.up (S := sX) (by unfold sX; omega))))) ⟨n + 1, by omega, ?_, upI_eq _ _ _ _, fun i hi => ?_⟩⟩
      · unfold f_X10_feed
        rw [if_neg l0, if_neg l1, bnd2_some hp, if_neg (by decide), upI_eq]
      · unfold f_X11_feed
        have e13 : upI (upI I 73 n (nI c)) 72 1 (nI (n + 1)) 99 13 = nI n := by rw [upI_ne _ _ (Or.inl (by omega)), upI_ne _ _ (Or.inl (by omega))]; exact q2
        rw [bnd1_some e1, if_neg (by decide), e13, if_neg (by rw [nl80, nI_eq (by omega) (by omega)]; omega), if_pos i1, cn]
        simp only [letv]
        have e14 : upI (upI (upI I 73 n (nI c)) 72 1 (nI (n + 1))) 111 n (nI c) 99 13 = nI n := by rw [upI_ne _ _ (Or.inl (by omega))]; exact e13
        rw [e14, nI_1, upI_eq]
      · rw [upI_ne _ _ (Or.inl (by omega)), upI_ne _ _ (Or.inl (by omega)), upI_eq]
      · by_cases z : i = n
        · refine ⟨c, hc, ?_, ?_⟩
          · rw [z, upI_ne _ _ (Or.inl (by omega)), upI_ne _ _ (Or.inl (by omega)), upI_ne _ _ (Or.inl (by omega)), upI_eq]
          · rw [z, upI_ne _ _ (Or.inl (by omega)), upI_eq]
        · obtain ⟨d, d1, d2, d3⟩ := q3 i (by omega)
          refine ⟨d, d1, ?_, ?_⟩
          · rw [upI_ne _ _ (Or.inl (by omega)), upI_ne _ _ (Or.inl (by omega)), upI_ne _ _ (Or.inl (by omega)), upI_ne _ _ (Or.inr z)]; exact d2
          · rw [upI_ne _ _ (Or.inl (by omega)), upI_ne _ _ (Or.inr z), upI_ne _ _ (Or.inl (by omega)), upI_ne _ _ (Or.inl (by omega))]; exact d3
    · have : n = 80 := by omega
      subst this
      refine ⟨-4, I, I, ?_, ?_, hI⟩
      · unfold f_X10_feed
        have hp : f_X8_push (nI c) I = some (0, I) := by
          unfold f_X8_push
          rw [q1, if_neg (by decide)]
        rw [if_neg l0, if_neg l1, bnd2_some hp, if_pos rfl]
      · unfold f_X11_feed
        rw [bnd1_some e1, if_neg (by decide), q2, if_pos nl80.symm]
  · refine ⟨-2, I, I, ?_, ?_, hI⟩
    · unfold f_X10_feed
      by_cases q : x1 < 0
      · rw [if_pos q]
      · rw [if_neg q, nl127, if_pos (h1.resolve_left q)]
    · unfold f_X11_feed
      rw [bnd1_some e1, if_pos rfl]
/-- an argument held against a number of things -/
theorem below_in {n : Nat} (v : Int32) (hn : n < 2 ^ 31) : (∃ i, i < n ∧ v = nI i ∧ f_X11_in (Int32.toInt64 v) 0 (Int32.toInt64 (nI n - 1)) = some 1) ∨ ((v < 0 ∨ ¬ v < nI n) ∧ f_X11_in (Int32.toInt64 v) 0 (Int32.toInt64 (nI n - 1)) = some 0) := by
  have h0 : v < 0 ↔ v.toInt < 0 := by rw [Int32.lt_iff_toInt_lt]; rfl
  have h1 : v < nI n ↔ v.toInt < n := by rw [Int32.lt_iff_toInt_lt, nI_toInt hn]
  have e : (Int32.toInt64 (nI n - 1)).toInt = (n : Int) - 1 := by
    rw [Int32.toInt_toInt64]
    by_cases q : n = 0
    · subst q; decide
    · rw [nl1, nI_sub (by omega), nI_toInt (by omega)]; omega
  have hin := in_of (v := v) (lo := 0) (hi := Int32.toInt64 (nI n - 1)) (a := 0) (by decide) e
  by_cases q : 0 ≤ v.toInt ∧ v.toInt < n
  · left
    obtain ⟨i, hi, rfl⟩ := nI_of (x := v) (by rw [h0]; omega)
    rw [nI_toInt hi] at q
    refine ⟨i, by omega, rfl, ?_⟩
    rw [hin, nI_toInt hi, if_pos (by omega)]
  · right
    refine ⟨by rw [h0, h1]; omega, ?_⟩
    rw [hin, if_neg (by omega)]
theorem s_paper : S_paper N (Inv0 PL PA) := by
  intro X I L x1 hI
  obtain ⟨n, hn, q1, q2, q3⟩ := hI.p
  rcases below_in (n := n) x1 (by omega) with ⟨i, hi, rfl, e⟩ | ⟨h, e⟩
  · refine ⟨I 77 i, ?_, ?_, hI⟩
    · unfold f_X10_paper
      rw [if_neg (nI_pos (by omega)), q1, if_pos ((nI_ltI (by omega) (by omega)).mpr hi), if_pos (inb_nI (by omega) (by decide)), nI_clamp (by omega)]
    · unfold f_X11_paper
      rw [q2, bnd1_some e, if_neg (by decide), if_pos (inb_nI (by omega) (by decide)), nI_clamp (by omega), q3 i hi]
  · refine ⟨-1, ?_, ?_, hI⟩
    · unfold f_X10_paper
      rw [q1]
      by_cases q : x1 < 0
      · rw [if_pos q]
      · rw [if_neg q, if_neg (h.resolve_left q)]
    · unfold f_X11_paper
      rw [q2, bnd1_some e, if_pos rfl]
theorem s_peek : S_peek N (Inv0 PL PA) := by
  intro X I L x1 x2 hI
  rcases six_cases x1 with ⟨t, ht, rfl, e1, e2⟩ | ⟨e1, e2⟩
  · have it : inb (nI t) 6 = true := inb_nI ht (by decide)
    have ct : Int32.toNatClampNeg (nI t) = t := nI_clamp (by omega)
    obtain ⟨n, hn, q1, q2, q3, q4, q5⟩ := hI.r t ht
    rcases q4 with ⟨z1, z2⟩ | ⟨s, hs, z1⟩
    · subst z2
      refine ⟨-9223372036854775808, ?_, ?_, hI⟩
      · unfold f_X10_peek
        rw [bnd1_some e1, if_neg (by decide), if_pos it, ct, q1]
        by_cases q : x2 < 0
        · rw [if_pos q]
        · rw [if_neg q, if_neg (by rw [← nl0]; exact q)]
      · unfold f_X11_peek
        rw [bnd1_some e2, if_neg (by decide), if_pos it, ct, z1, if_pos (by decide)]
    · have ns : ¬ nI s < 0 := nI_pos (by omega)
      rcases below_in (n := n) x2 (by omega) with ⟨i, hi, rfl, e⟩ | ⟨h, e⟩
      · have e60 : 60 * nI t + nI i = nI (60 * t + i) := by rw [nl60, nI_mul, nI_add]
        refine ⟨L (80 + 2 * t) i, ?_, ?_, hI⟩
        · unfold f_X10_peek
          rw [bnd1_some e1, if_neg (by decide), if_pos it, ct, q1, if_neg (nI_pos (by omega)), if_pos ((nI_ltI (by omega) (by omega)).mpr hi), if_pos (inb_nI (by omega) (by decide)), nI_clamp (by omega), show 79 + 2 * t + 1 = 80 + 2 * t by omega]
        · unfold f_X11_peek
          rw [bnd1_some e2, if_neg (by decide), if_pos it, ct, z1, if_neg ns, if_pos it, q2, bnd1_some e, if_neg (by decide), e60, if_pos (inb_nI (by omega) (by decide)), nI_clamp (by omega), q5 i hi]
      · refine ⟨-9223372036854775808, ?_, ?_, hI⟩
        · unfold f_X10_peek
          rw [bnd1_some e1, if_neg (by decide), if_pos it, ct, q1]
          by_cases q : x2 < 0
          · rw [if_pos q]
          · rw [if_neg q, if_neg (h.resolve_left q)]
        · unfold f_X11_peek
          rw [bnd1_some e2, if_neg (by decide), if_pos it, ct, z1, if_neg ns, if_pos it, q2, bnd1_some e, if_pos rfl]
  · refine ⟨-9223372036854775808, ?_, ?_, hI⟩
    · unfold f_X10_peek; rw [bnd1_some e1, if_pos rfl]
    · unfold f_X11_peek; rw [bnd1_some e2, if_pos rfl]
theorem s_see (hPL : frPL PL) (hPA : frPA PA) : S_see N (Inv0 PL PA) := by
  intro X I L x1 x2 hI
  by_cases hm : x1 = -1
  · subst hm
    refine ⟨0, upI I 1 6 0, upI (upI I 1 6 0) 99 6 0, ?_, ?_, inv_seen hPL hPA hI ((fr.up (S := sN) (by unfold sN; omega)).trans (fr.up (S := sN) (by unfold sN; omega))) ⟨0, by omega, ?_, ?_, fun s hs => absurd hs (by omega)⟩⟩
    · unfold f_X10_see
      rw [if_neg (by decide), if_neg (by decide), if_pos rfl]; rfl
    · unfold f_X11_see
      rw [if_pos rfl]; rfl
    · rw [upI_ne _ _ (Or.inl (by omega)), upI_eq]; exact nl0
    · rw [upI_eq]; exact nl0
  · rcases rng_cases x1 6 (by decide) (hi := 6) (by decide) with ⟨q, hq, rfl, e1⟩ | ⟨h1, e1⟩
    · have a1 : ¬ nI q < -1 := by
        rw [Int32.lt_iff_toInt_lt, nI_toInt (by omega)]
        have : (-1 : Int32).toInt = -1 := by decide
        omega
      have a2 : ¬ (6 : Int32) < nI q := by rw [nl6]; exact nI_le0 (by omega) hq
      rcases rng_cases x2 9999 (by decide) (hi := 9999) (by decide) with ⟨c, hc, rfl, e2⟩ | ⟨h2, e2⟩
      · have b1 : ¬ nI c < 0 := nI_pos (by omega)
        have b2 : ¬ (9999 : Int32) < nI c := by rw [nl9999]; exact nI_le0 (by omega) hc
        obtain ⟨k, hk, q1, q2, q3⟩ := hI.n
        by_cases z : k < 4
        · have ik : inb (nI k) 4 = true := inb_nI z (by decide)
          have ck : Int32.toNatClampNeg (nI k) = k := nI_clamp (by omega)
          have l4 : nI k < (4 : Int32) := by rw [nl4]; exact (nI_ltI (by omega) (by omega)).mpr z
          generalize hJ : upI (upI (upI I 8 k (nI q)) 9 k (nI c)) 1 6 (nI (k + 1)) = J
          have fJ : ∀ a x, (a ≠ 8 ∨ x ≠ k) → (a ≠ 9 ∨ x ≠ k) → (a ≠ 1 ∨ x ≠ 6) → J a x = I a x := fun a x h1 h2 h3 => by rw [← hJ, upI_ne _ _ h3, upI_ne _ _ h2, upI_ne _ _ h1]
          have J8 : J 8 k = nI q := by rw [← hJ, upI_ne _ _ (Or.inl (by omega)), upI_ne _ _ (Or.inl (by omega)), upI_eq]
          have J9 : J 9 k = nI c := by rw [← hJ, upI_ne _ _ (Or.inl (by omega)), upI_eq]
          have J1 : J 1 6 = nI (k + 1) := by rw [← hJ, upI_eq]
          have g1 : upI I 8 k (nI q) 1 6 = nI k := by rw [upI_ne _ _ (Or.inl (by omega))]; exact q1
          have g2 : upI (upI I 8 k (nI q)) 9 k (nI c) 1 6 = nI k := by rw [upI_ne _ _ (Or.inl (by omega))]; exact g1
          have j99 : J 99 6 = nI k := by rw [fJ _ _ (by omega) (by omega) (by omega)]; exact q2
          have g3 : upI J 106 k (nI q) 99 6 = nI k := by rw [upI_ne _ _ (Or.inl (by omega))]; exact j99
          have g4 : upI (upI J 106 k (nI q)) 107 k (nI c) 99 6 = nI k := by rw [upI_ne _ _ (Or.inl (by omega))]; exact g3
          have fK : fr sN I J := fun a x h => fJ a x (by unfold sN at h; omega) (by unfold sN at h; omega) (by unfold sN at h; omega)
          refine ⟨nI (k + 1), J, upI (upI (upI J 106 k (nI q)) 107 k (nI c)) 99 6 (nI (k + 1)), ?_, ?_, inv_seen hPL hPA hI (fK.trans ((fr.up (S := sN) (by unfold sN; omega)).trans ((fr.up (S := sN) (by unfold sN; omega)).trans (fr.up (S := sN) (by unfold sN; omega))))) ⟨k + 1, by omega, ?_, upI_eq _ _ _ _, fun s hs => ?_⟩⟩
          · unfold f_X10_see
            rw [if_neg a1, if_neg a2, if_neg hm, if_neg b1, if_neg b2, q1, if_pos l4, if_pos ik, ck]
            simp only [letv]
            rw [g1, if_pos ik, ck, g2, nI_1, upI_eq, hJ]
          · unfold f_X11_see
            rw [if_neg hm, bnd1_some e1, if_neg (by decide), bnd1_some e2, if_neg (by decide), j99, if_neg (by rw [nl4, nI_eq (by omega) (by omega)]; omega), if_pos ik, ck]
            simp only [letv]
            rw [g3, if_pos ik, ck, g4, nI_1, upI_eq]
          · rw [upI_ne _ _ (Or.inl (by omega)), upI_ne _ _ (Or.inl (by omega)), upI_ne _ _ (Or.inl (by omega))]; exact J1
          · by_cases y : s = k
            · subst y
              refine ⟨q, c, hq, hc, ?_, ?_, ?_, ?_⟩
              · rw [upI_ne _ _ (Or.inl (by omega)), upI_ne _ _ (Or.inl (by omega)), upI_ne _ _ (Or.inl (by omega))]; exact J8
              · rw [upI_ne _ _ (Or.inl (by omega)), upI_ne _ _ (Or.inl (by omega)), upI_eq]
              · rw [upI_ne _ _ (Or.inl (by omega)), upI_ne _ _ (Or.inl (by omega)), upI_ne _ _ (Or.inl (by omega))]; exact J9
              · rw [upI_ne _ _ (Or.inl (by omega)), upI_eq]
            · obtain ⟨q', c', r1, r2, r3, r4, r5, r6⟩ := q3 s (by omega)
              refine ⟨q', c', r1, r2, ?_, ?_, ?_, ?_⟩ <;> rw [upI_ne _ _ (by omega), upI_ne _ _ (by omega), upI_ne _ _ (by omega), fJ _ _ (by omega) (by omega) (by omega)] <;> assumption
        · have : k = 4 := by omega
          subst this
          refine ⟨-4, I, I, ?_, ?_, hI⟩
          · unfold f_X10_see
            rw [if_neg a1, if_neg a2, if_neg hm, if_neg b1, if_neg b2, q1, if_neg (by decide)]
          · unfold f_X11_see
            rw [if_neg hm, bnd1_some e1, if_neg (by decide), bnd1_some e2, if_neg (by decide), q2, if_pos nl4.symm]
      · refine ⟨-2, I, I, ?_, ?_, hI⟩
        · unfold f_X10_see
          rw [if_neg a1, if_neg a2, if_neg hm]
          by_cases y : x2 < 0
          · rw [if_pos y]
          · rw [if_neg y, nl9999, if_pos (h2.resolve_left y)]
        · unfold f_X11_see
          rw [if_neg hm, bnd1_some e1, if_neg (by decide), bnd1_some e2, if_pos rfl]
    · refine ⟨-1, I, I, ?_, ?_, hI⟩
      · unfold f_X10_see
        by_cases y : x1 < -1
        · rw [if_pos y]
        · rw [if_neg y, if_pos]
          rcases h1 with h1 | h1
          · exfalso
            rw [Int32.lt_iff_toInt_lt] at h1 y
            have n1 : x1.toInt ≠ -1 := fun h => hm (Int32.toInt_inj.mp (h.trans (by decide)))
            have a1 : (-1 : Int32).toInt = -1 := by decide
            have a0 : (0 : Int32).toInt = 0 := by decide
            omega
          · rw [nl6]; exact h1
      · unfold f_X11_see
        rw [if_neg hm, bnd1_some e1, if_pos rfl]
end SM
