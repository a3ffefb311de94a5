/-! ===== image and restore, both sides ===== -/
theorem imM {N : Nat} {I : MI} {L : ML} (hN : 1000 ≤ N) : ∃ J K, (∀ r, f_X11_allLetters N J = some r → f_X11_image N I L = some (r, J, K)) ∧ J 99 20 = 1 ∧ J 99 27 = I 99 6 ∧ (∀ i, i < 6 → J 116 i = I 100 i) ∧ (∀ i, i < 6 → J 119 i = I 103 i) ∧ (∀ i, i < 72 → J 117 i = I 101 i) ∧ (∀ i, i < 169 → K 118 i = L 102 i) ∧ (∀ i, i < 36 → J 120 i = I 104 i) ∧ (∀ i, i < 36 → J 121 i = I 105 i) ∧ (∀ i, i < 4 → J 122 i = I 106 i) ∧ (∀ i, i < 4 → J 123 i = I 107 i) ∧ fr (fun b j => b = 116 ∨ b = 117 ∨ (119 ≤ b ∧ b ≤ 123) ∨ (b = 99 ∧ (j = 20 ∨ j = 27))) I J ∧ frL (fun b j => b = 118) L K := by
  obtain ⟨I9, a1, a2, a3, a4⟩ := im6 (N := N) (I := upI I 99 20 1) hN
  obtain ⟨I15, b1, b2, b3⟩ := im72 (N := N) (I := I9) hN
  obtain ⟨L21, c1, c2, c3⟩ := im169 (N := N) (I := L) hN
  obtain ⟨I30, d1, d2, d3, d4⟩ := im36 (N := N) (I := I15) hN
  obtain ⟨I40, e1, e2, e3, e4⟩ := im4 (N := N) (I := upI I30 99 27 (I30 99 6)) hN
  have q15 : ∀ b j, (b ≠ 117 ∧ b ≠ 116 ∧ b ≠ 119 ∧ (b ≠ 99 ∨ j ≠ 20)) → I15 b j = I b j := fun b j h => by
    rw [b3 _ _ (by omega), a4 _ _ (by omega), upI_ne _ _ (by omega)]
  have q30 : ∀ b j, (b ≠ 120 ∧ b ≠ 121 ∧ b ≠ 117 ∧ b ≠ 116 ∧ b ≠ 119 ∧ (b ≠ 99 ∨ j ≠ 20)) → I30 b j = I b j := fun b j h => by
    rw [d4 _ _ (by omega), q15 _ _ (by omega)]
  refine ⟨I40, L21, fun r hr => ?_, ?_, ?_, ?_, ?_, ?_, c2, ?_, ?_, ?_, ?_, ?_, c3⟩
  · unfold f_X11_image
    simp only [letv]
    rw [bnd1_some a1, bnd1_some b1, bnd1_some c1, bnd1_some d1, bnd1_some e1, bnd1_some hr]
  · rw [e4 _ _ (by omega), upI_ne _ _ (by omega), d4 _ _ (by omega), b3 _ _ (by omega), a4 _ _ (by omega), upI_eq]
  · rw [e4 _ _ (by omega), upI_eq, q30 _ _ (by omega)]
  · intro i hi
    rw [e4 _ _ (by omega), upI_ne _ _ (by omega), d4 _ _ (by omega), b3 _ _ (by omega), a2 i hi, upI_ne _ _ (by omega)]
  · intro i hi
    rw [e4 _ _ (by omega), upI_ne _ _ (by omega), d4 _ _ (by omega), b3 _ _ (by omega), a3 i hi, upI_ne _ _ (by omega)]
  · intro i hi
    rw [e4 _ _ (by omega), upI_ne _ _ (by omega), d4 _ _ (by omega), b2 i hi, a4 _ _ (by omega), upI_ne _ _ (by omega)]
  · intro i hi
    rw [e4 _ _ (by omega), upI_ne _ _ (by omega), d2 i hi, q15 _ _ (by omega)]
  · intro i hi
    rw [e4 _ _ (by omega), upI_ne _ _ (by omega), d3 i hi, q15 _ _ (by omega)]
  · intro i hi
    rw [e2 i hi, upI_ne _ _ (by omega), q30 _ _ (by omega)]
  · intro i hi
    rw [e3 i hi, upI_ne _ _ (by omega), q30 _ _ (by omega)]
  · intro b j h
    rw [e4 _ _ (by omega), upI_ne _ _ (by omega), q30 _ _ (by omega)]
theorem rsM {N : Nat} {I : MI} {L : ML} (h0 : I 99 20 = 1) (hN : 1000 ≤ N) : ∃ J K, (∀ r, f_X11_allLetters N J = some r → f_X11_restore N I L = some (r, J, K)) ∧ J 99 9 = 0 ∧ J 99 6 = I 99 27 ∧ (∀ i, i < 6 → J 100 i = I 116 i) ∧ (∀ i, i < 6 → J 103 i = I 119 i) ∧ (∀ i, i < 72 → J 101 i = I 117 i) ∧ (∀ i, i < 169 → K 102 i = L 118 i) ∧ (∀ i, i < 36 → J 104 i = I 120 i) ∧ (∀ i, i < 36 → J 105 i = I 121 i) ∧ (∀ i, i < 4 → J 106 i = I 122 i) ∧ (∀ i, i < 4 → J 107 i = I 123 i) ∧ fr (fun b j => b = 100 ∨ b = 101 ∨ (103 ≤ b ∧ b ≤ 107) ∨ (b = 99 ∧ (j = 9 ∨ j = 6))) I J ∧ frL (fun b j => b = 102) L K := by
  obtain ⟨I9, a1, a2, a3, a4⟩ := rs6 (N := N) (I := I) hN
  obtain ⟨I15, b1, b2, b3⟩ := rs72 (N := N) (I := I9) hN
  obtain ⟨L21, c1, c2, c3⟩ := rs169 (N := N) (I := L) hN
  obtain ⟨I30, d1, d2, d3, d4⟩ := rs36 (N := N) (I := I15) hN
  obtain ⟨I40, e1, e2, e3, e4⟩ := rs4 (N := N) (I := upI I30 99 6 (I30 99 27)) hN
  have q15 : ∀ b j, (b ≠ 101 ∧ b ≠ 100 ∧ b ≠ 103) → I15 b j = I b j := fun b j h => by
    rw [b3 _ _ (by omega), a4 _ _ (by omega)]
  have q30 : ∀ b j, (b ≠ 104 ∧ b ≠ 105 ∧ b ≠ 101 ∧ b ≠ 100 ∧ b ≠ 103) → I30 b j = I b j := fun b j h => by
    rw [d4 _ _ (by omega), q15 _ _ (by omega)]
  refine ⟨upI I40 99 9 0, L21, fun r hr => ?_, upI_eq _ _ _ _, ?_, ?_, ?_, ?_, c2, ?_, ?_, ?_, ?_, ?_, c3⟩
  · unfold f_X11_restore
    rw [if_neg (by rw [h0]; decide)]
    simp only [letv]
    rw [bnd1_some a1, bnd1_some b1, bnd1_some c1, bnd1_some d1, bnd1_some e1, bnd1_some hr]
  · rw [upI_ne _ _ (by omega), e4 _ _ (by omega), upI_eq, q30 _ _ (by omega)]
  · intro i hi
    rw [upI_ne _ _ (by omega), e4 _ _ (by omega), upI_ne _ _ (by omega), d4 _ _ (by omega), b3 _ _ (by omega), a2 i hi]
  · intro i hi
    rw [upI_ne _ _ (by omega), e4 _ _ (by omega), upI_ne _ _ (by omega), d4 _ _ (by omega), b3 _ _ (by omega), a3 i hi]
  · intro i hi
    rw [upI_ne _ _ (by omega), e4 _ _ (by omega), upI_ne _ _ (by omega), d4 _ _ (by omega), b2 i hi, a4 _ _ (by omega)]
  · intro i hi
    rw [upI_ne _ _ (by omega), e4 _ _ (by omega), upI_ne _ _ (by omega), d2 i hi, q15 _ _ (by omega)]
  · intro i hi
    rw [upI_ne _ _ (by omega), e4 _ _ (by omega), upI_ne _ _ (by omega), d3 i hi, q15 _ _ (by omega)]
  · intro i hi
    rw [upI_ne _ _ (by omega), e2 i hi, upI_ne _ _ (by omega), q30 _ _ (by omega)]
  · intro i hi
    rw [upI_ne _ _ (by omega), e3 i hi, upI_ne _ _ (by omega), q30 _ _ (by omega)]
  · intro b j h
    rw [upI_ne _ _ (by omega), e4 _ _ (by omega), upI_ne _ _ (by omega), q30 _ _ (by omega)]
section IM
variable {PL : MX → MI → ML → Prop} {PA : MI → Prop} {N : Nat}
def sI (b j : Nat) : Prop := (40 ≤ b ∧ b < 67) ∨ (b = 34 ∧ j = 6) ∨ (b = 0 ∧ j = 2) ∨ b = 116 ∨ b = 117 ∨ (119 ≤ b ∧ b ≤ 123) ∨ (b = 99 ∧ (j = 20 ∨ j = 27))
def sIL (b j : Nat) : Prop := b = 37 ∨ b = 118
theorem s_image (hPL : frPL PL) (hPA : frPA PA) (hN : 1000 ≤ N) : S_image N (Inv0 PL PA) := by
  intro X I L hI
  obtain ⟨J0, K0, l1, l2, l3, l4, l5, l6, l7, l8, l9, l10⟩ := likeS (N := N) (a0 := 34) (a1 := 1) (I := I) (L := L) (by omega) (fun w hw => by
    obtain ⟨l, hl, _, hc, _⟩ := hI.w hw
    exact ⟨l, hl, by rw [show 1 + 9 + 4 * w = 10 + 4 * w by omega]; exact hc⟩) (by omega)
  obtain ⟨J, K, m1, m2, m3, m4, m5, m6, m7, m8, m9, m10, m11, m12, m13⟩ := imM (N := N) (I := upI J0 0 2 1) (L := K0) hN
  have g0 : ∀ b j, (¬ ((40 ≤ b ∧ b < 67) ∨ (b = 34 ∧ j = 6) ∨ (b = 0 ∧ j = 2))) → upI J0 0 2 1 b j = I b j := fun b j h => by
    rw [upI_ne _ _ (by omega), l9 _ _ (by omega)]
  have g1 : fr sI I J := fun b j h => by
    unfold sI at h
    rw [m12 _ _ (by omega), g0 _ _ (by omega)]
  have g2 : ∀ b j, 40 ≤ b → b < 67 → J b j = J0 b j := fun b j h h' => by
    rw [m12 _ _ (by omega), upI_ne _ _ (by omega)]
  have gL : frL sIL L K := fun b j h => by
    unfold sIL at h
    rw [m13 _ _ (by omega), l10 _ _ (by omega)]
  obtain ⟨r, r1, r2⟩ := letters_both (N := N) (I1 := upI J0 0 2 1) (I2 := J) (fun w hw => by
    obtain ⟨l, hl, _, hc, hm⟩ := hI.w hw
    rw [g0 _ _ (by omega), hc.1, g1 _ _ (by unfold sI; omega), hm.1]) (by omega)
  refine ⟨r, upI J0 0 2 1, K0, J, K, ?_, m1 r r2, ?_⟩
  · unfold f_X10_image
    rw [bnd2_some l1]
    simp only [letv]
    rw [bnd1_some r1]
  have e02 : J 0 2 = 1 := by rw [m12 _ _ (by omega), upI_eq]
  have hWi' : pWi J := fun _ w hw => by
    obtain ⟨l, hl, hb, hc, hm⟩ := hI.w hw
    have k := l2 w l hw hl (by rw [show 1 + 9 + 4 * w = 10 + 4 * w by omega]; exact hc)
    rw [show 34 + 9 + 4 * w = 43 + 4 * w by omega] at k
    refine ⟨l, hl, hb, ⟨by rw [g2 _ _ (by omega) (by omega)]; exact k.1, fun i x hx => by rw [g2 _ _ (by omega) (by omega)]; exact k.2 i x hx⟩, ⟨by rw [m4 w hw, g0 _ _ (by omega)]; exact hm.1, fun i x hx => ?_⟩⟩
    have hi := (List.getElem?_eq_some_iff.mp hx).1
    rw [m6 _ (by omega), g0 _ _ (by omega)]
    exact hm.2 i x hx
  have hSi' : pSi J K := fun _ p hp => by
    have k := hI.s p hp
    have e1 : K 37 p = L 4 p := by rw [m13 _ _ (by omega)]; exact l8 p hp
    have e2 : K 118 p = L 102 p := by rw [m7 p hp, l10 _ _ (by omega)]
    rw [e1, e2]; exact k
  have hBi' : pBi J := fun _ b hb => by
    obtain ⟨n, r, n1, n6, hr, hc, hm⟩ := hI.bs b hb
    have k := l3 b hb
    rw [show 34 + 11 + 4 * b = 45 + 4 * b by omega, show 1 + 11 + 4 * b = 12 + 4 * b by omega] at k
    refine ⟨n, r, n1, n6, hr, ⟨by rw [g2 _ _ (by omega) (by omega), k.1]; exact hc.1, fun i hi => by rw [g2 _ _ (by omega) (by omega), k.2 i (by omega)]; exact hc.2 i hi⟩, ⟨by rw [m5 b hb, g0 _ _ (by omega)]; exact hm.1, fun i hi => by rw [m8 _ (by omega), g0 _ _ (by omega)]; exact hm.2 i hi⟩⟩
  have hTi' : pTi J := fun _ p hp => by
    obtain ⟨k, hk, k1, k2⟩ := hI.t p hp
    exact ⟨k, hk, by rw [g2 _ _ (by omega) (by omega), l4 p hp]; exact k1, by rw [m9 p hp, g0 _ _ (by omega)]; exact k2⟩
  have hNi' : pNi J := fun _ => by
    obtain ⟨k, hk, k1, k2, k3⟩ := hI.n
    refine ⟨k, hk, by rw [m12 _ _ (by omega), upI_ne _ _ (by omega), l7]; exact k1, by rw [m3, g0 _ _ (by omega)]; exact k2, fun s hs => ?_⟩
    obtain ⟨q, c, q1, q2, q3, q4, q5, q6⟩ := k3 s hs
    exact ⟨q, c, q1, q2, by rw [g2 _ _ (by omega) (by omega), l5 s (by omega)]; exact q3, by rw [m10 s (by omega), g0 _ _ (by omega)]; exact q4, by rw [g2 _ _ (by omega) (by omega), l6 s (by omega)]; exact q5, by rw [m11 s (by omega), g0 _ _ (by omega)]; exact q6⟩
  obtain ⟨h10, h11, hG, hW, hWi, hS, hSi, hB, hBi, hT, hTi, hNn, hNi, hC, hX, hP, hR, hL, hA⟩ := hI
  refine ⟨h10, h11, ⟨Or.inr e02, by rw [m2, e02]⟩, pW_fr g1 (fun b j s => ?_) hW, hWi', pS_fr gL (fun b j s => ?_) hS, hSi', pB_fr g1 (fun b j s => ?_) hB, hBi', pT_fr g1 (fun b j s => ?_) hT, hTi', pN_fr g1 (fun b j s => ?_) hNn, hNi', pC_fr g1 (fun b j s => ?_) hC, pX_fr g1 (fun b j s => ?_) hX, pP_fr g1 (fun b j s => ?_) hP, pR_fr g1 (fun b j s => ?_) gL (fun b j s => ?_) hR, hPL X I J L K (fun b j q => g1 b j ?_) (fun b j q => gL b j ?_) hL, hPA I J (fun b j q => g1 b j ?_) hA⟩
  all_goals first
    | (unfold sI at s; unfold depW; omega) | (unfold sIL at s; omega)
    | (unfold sI at s; unfold depB; omega) | (unfold sI at s; unfold depT; omega) | (unfold sI at s; unfold depN; omega)
    | (unfold sI at s; unfold depC; omega) | (unfold sI at s; unfold depX; omega) | (unfold sI at s; unfold depP; omega) | (unfold sI at s; unfold depR; omega) | (unfold sIL at s; unfold depRL; omega)
    | (unfold sI; omega) | (unfold sIL; omega) | (unfold depA at q; unfold sI; omega)
def sRs (b j : Nat) : Prop := (7 ≤ b ∧ b < 34) ∨ (b = 1 ∧ j = 6) ∨ (b = 67 ∧ j = 4) ∨ b = 100 ∨ b = 101 ∨ (103 ≤ b ∧ b ≤ 107) ∨ (b = 99 ∧ (j = 9 ∨ j = 6))
def sRsL (b j : Nat) : Prop := b = 4 ∨ b = 102
theorem s_restore (hPL : frPL PL) (hPA : frPA PA) (hN : 1000 ≤ N) : S_restore N (Inv0 PL PA) := by
  intro X I L hI
  obtain ⟨g1, g2⟩ := hI.2.2.1
  rcases g1 with g1 | g1
  · refine ⟨-3, I, L, I, L, ?_, ?_, hI⟩
    · unfold f_X10_restore; rw [if_pos g1]
    · unfold f_X11_restore; rw [if_pos (g2.trans g1)]
  have hI0 := hI
  obtain ⟨h10, h11, hG, hW, hWi, hS, hSi, hB, hBi, hT, hTi, hNn, hNi, hC, hX, hP, hR, hL, hA⟩ := hI
  replace hWi := hWi g1
  replace hSi := hSi g1
  replace hBi := hBi g1
  replace hTi := hTi g1
  replace hNi := hNi g1
  obtain ⟨J0, K0, l1, l2, l3, l4, l5, l6, l7, l8, l9, l10⟩ := likeS (N := N) (a0 := 1) (a1 := 34) (I := I) (L := L) (by omega) (fun w hw => by
    obtain ⟨l, hl, _, hc, _⟩ := hWi w hw
    exact ⟨l, hl, by rw [show 34 + 9 + 4 * w = 43 + 4 * w by omega]; exact hc⟩) (by omega)
  have g0 : ∀ b j, (¬ ((7 ≤ b ∧ b < 34) ∨ (b = 1 ∧ j = 6) ∨ (b = 67 ∧ j = 4))) → upI J0 67 4 0 b j = I b j := fun b j h => by
    rw [upI_ne _ _ (by omega), l9 _ _ (by omega)]
  obtain ⟨J, K, m1, m2, m3, m4, m5, m6, m7, m8, m9, m10, m11, m12, m13⟩ := rsM (N := N) (I := upI J0 67 4 0) (L := K0) (by rw [g0 _ _ (by omega), g2, g1]) hN
  have f1 : fr sRs I J := fun b j h => by
    unfold sRs at h
    rw [m12 _ _ (by omega), g0 _ _ (by omega)]
  have f2 : ∀ b j, 7 ≤ b → b < 34 → J b j = J0 b j := fun b j h h' => by
    rw [m12 _ _ (by omega), upI_ne _ _ (by omega)]
  have gL : frL sRsL L K := fun b j h => by
    unfold sRsL at h
    rw [m13 _ _ (by omega), l10 _ _ (by omega)]
  obtain ⟨r, r1, r2⟩ := letters_both (N := N) (I1 := upI J0 67 4 0) (I2 := J) (fun w hw => by
    obtain ⟨l, hl, _, hc, hm⟩ := hWi w hw
    have k := l2 w l hw hl (by rw [show 34 + 9 + 4 * w = 43 + 4 * w by omega]; exact hc)
    rw [show 1 + 9 + 4 * w = 10 + 4 * w by omega] at k
    rw [upI_ne _ _ (by omega), k.1, m4 w hw, g0 _ _ (by omega), hm.1]) (by omega)
  refine ⟨r, upI J0 67 4 0, K0, J, K, ?_, m1 r r2, ?_⟩
  · unfold f_X10_restore
    rw [if_neg (by rw [g1]; decide), bnd2_some l1]
    unfold f_X1_forget
    simp only [letv]
    rw [bnd1_some rfl, bnd1_some r1]
  have hW' : pW J := fun w hw => by
    obtain ⟨l, hl, hb, hc, hm⟩ := hWi w hw
    have k := l2 w l hw hl (by rw [show 34 + 9 + 4 * w = 43 + 4 * w by omega]; exact hc)
    rw [show 1 + 9 + 4 * w = 10 + 4 * w by omega] at k
    refine ⟨l, hl, hb, ⟨by rw [f2 _ _ (by omega) (by omega)]; exact k.1, fun i x hx => by rw [f2 _ _ (by omega) (by omega)]; exact k.2 i x hx⟩, ⟨by rw [m4 w hw, g0 _ _ (by omega)]; exact hm.1, fun i x hx => ?_⟩⟩
    have hi := (List.getElem?_eq_some_iff.mp hx).1
    rw [m6 _ (by omega), g0 _ _ (by omega)]
    exact hm.2 i x hx
  have hS' : pS K := fun p hp => by
    have k := hSi p hp
    have e1 : K 4 p = L 37 p := by rw [m13 _ _ (by omega)]; exact l8 p hp
    have e2 : K 102 p = L 118 p := by rw [m7 p hp, l10 _ _ (by omega)]
    rw [e1, e2]; exact k
  have hB' : pB J := fun b hb => by
    obtain ⟨n, r, n1, n6, hr, hc, hm⟩ := hBi b hb
    have k := l3 b hb
    rw [show 34 + 11 + 4 * b = 45 + 4 * b by omega, show 1 + 11 + 4 * b = 12 + 4 * b by omega] at k
    refine ⟨n, r, n1, n6, hr, ⟨by rw [f2 _ _ (by omega) (by omega), k.1]; exact hc.1, fun i hi => by rw [f2 _ _ (by omega) (by omega), k.2 i (by omega)]; exact hc.2 i hi⟩, ⟨by rw [m5 b hb, g0 _ _ (by omega)]; exact hm.1, fun i hi => by rw [m8 _ (by omega), g0 _ _ (by omega)]; exact hm.2 i hi⟩⟩
  have hT' : pT J := fun p hp => by
    obtain ⟨k, hk, k1, k2⟩ := hTi p hp
    exact ⟨k, hk, by rw [f2 _ _ (by omega) (by omega), l4 p hp]; exact k1, by rw [m9 p hp, g0 _ _ (by omega)]; exact k2⟩
  have hN' : pN J := by
    obtain ⟨k, hk, k1, k2, k3⟩ := hNi
    refine ⟨k, hk, by rw [m12 _ _ (by omega), upI_ne _ _ (by omega), l7]; exact k1, by rw [m3, g0 _ _ (by omega)]; exact k2, fun s hs => ?_⟩
    obtain ⟨q, c, q1, q2, q3, q4, q5, q6⟩ := k3 s hs
    exact ⟨q, c, q1, q2, by rw [f2 _ _ (by omega) (by omega), l5 s (by omega)]; exact q3, by rw [m10 s (by omega), g0 _ _ (by omega)]; exact q4, by rw [f2 _ _ (by omega) (by omega), l6 s (by omega)]; exact q5, by rw [m11 s (by omega), g0 _ _ (by omega)]; exact q6⟩
  have hC' : pC J := pC_zero hB' (by rw [m12 _ _ (by omega), upI_eq]) m2
  obtain ⟨_, _, _, _, hWi, _, hSi, _, hBi, _, hTi, _, hNi, _⟩ := hI0
  refine ⟨h10, h11, pG_fr f1 (fun b j s => ?_) hG, hW', pWi_fr f1 (fun b j s => ?_) hWi, hS', pSi_fr f1 (fun b j s => ?_) gL (fun b j s => ?_) hSi, hB', pBi_fr f1 (fun b j s => ?_) hBi, hT', pTi_fr f1 (fun b j s => ?_) hTi, hN', pNi_fr f1 (fun b j s => ?_) hNi, hC', pX_fr f1 (fun b j s => ?_) hX, pP_fr f1 (fun b j s => ?_) hP, pR_fr f1 (fun b j s => ?_) gL (fun b j s => ?_) hR, hPL X I J L K (fun b j q => f1 b j ?_) (fun b j q => gL b j ?_) hL, hPA I J (fun b j q => f1 b j ?_) hA⟩
  all_goals first
    | (unfold sRs at s; unfold depG; omega) | (unfold sRs at s; unfold depWi; omega) | (unfold sRsL at s; omega) | (unfold sRs at s; unfold depI; omega)
    | (unfold sRs at s; unfold depBi; omega) | (unfold sRs at s; unfold depTi; omega) | (unfold sRs at s; unfold depNi; omega)
    | (unfold sRs at s; unfold depX; omega) | (unfold sRs at s; unfold depP; omega) | (unfold sRs at s; unfold depR; omega) | (unfold sRsL at s; unfold depRL; omega)
    | (unfold sRs; omega) | (unfold sRsL; omega) | (unfold depA at q; unfold sRs; omega)
end IM
