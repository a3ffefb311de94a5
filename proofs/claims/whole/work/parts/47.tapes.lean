/-! ===== tapes: item ===== -/
def RP (I : MI) (L : ML) (t : Nat) : Prop := ∃ n, n ≤ 60 ∧ I (79 + 2 * t) 1 = nI n ∧ I 114 t = nI n ∧ I (79 + 2 * t) 0 = I 113 t ∧ ((I 113 t = -1 ∧ n = 0) ∨ ∃ s, s ≤ 4 ∧ I 113 t = nI s) ∧ ∀ i, i < n → L (80 + 2 * t) i = L 115 (60 * t + i)
def sR (t b j : Nat) : Prop := b = 79 + 2 * t ∨ (b = 113 ∧ j = t) ∨ (b = 114 ∧ j = t)
def sRL (t b j : Nat) : Prop := b = 80 + 2 * t ∨ (b = 115 ∧ 60 * t ≤ j ∧ j < 60 * t + 60)
section TS
variable {PL : MX → MI → ML → Prop} {PA : MI → Prop} {N : Nat} {X : MX} {I I' : MI} {L L' : ML}
theorem inv_tape (hPL : frPL PL) (hPA : frPA PA) (hI : Inv0 PL PA X I L) {t : Nat} (ht : t < 6) (m2 : fr (sR t) I I') (l2 : frL (fun b j => scrL b j ∨ sRL t b j) L L') (hnew : RP I' L' t) : Inv0 PL PA X I' L' := by
  obtain ⟨M, l1, l3⟩ := l2.split
  obtain ⟨h10, h11, hG, hW, hWi, hS, hSi, hB, hBi, hT, hTi, hN, hNi, hC, hX, hP, hR, hL, hA⟩ := inv_scr hPL hPA hI fr.rfl l1
  have hR' : pR I' L' := by
    intro v hv
    by_cases e : v = t
    · subst e; exact hnew
    · obtain ⟨n, hn, q1, q2, q3, q4, q5⟩ := hR v hv
      have e1 : I' 113 v = I 113 v := m2 _ _ (by unfold sR; omega)
      refine ⟨n, hn, (m2 _ _ (by unfold sR; omega)).trans q1, (m2 _ _ (by unfold sR; omega)).trans q2, ?_, ?_, fun i hi => ?_⟩
      · rw [e1, m2 _ _ (by unfold sR; omega)]; exact q3
      · rw [e1]; exact q4
      · rw [l3 _ _ (by unfold sRL; omega), l3 _ _ (by unfold sRL; omega)]; exact q5 i hi
  refine ⟨h10, h11, pG_fr m2 (fun b j s => ?_) hG, pW_fr m2 (fun b j s => ?_) hW, pWi_fr m2 (fun b j s => ?_) hWi, pS_fr l3 (fun b j s => ?_) hS, pSi_fr m2 (fun b j s => ?_) l3 (fun b j s => ?_) hSi, pB_fr m2 (fun b j s => ?_) hB, pBi_fr m2 (fun b j s => ?_) hBi, pT_fr m2 (fun b j s => ?_) hT, pTi_fr m2 (fun b j s => ?_) hTi, pN_fr m2 (fun b j s => ?_) hN, pNi_fr m2 (fun b j s => ?_) hNi, pC_fr m2 (fun b j s => ?_) hC, pX_fr m2 (fun b j s => ?_) hX, pP_fr m2 (fun b j s => ?_) hP, hR', hPL X I I' M L' (fun b j q => m2 b j ?_) (fun b j q => l3 b j ?_) hL, hPA I I' (fun b j q => m2 b j ?_) hA⟩
  all_goals first
    | (unfold sR at s; unfold depG; omega) | (unfold sR at s; unfold depW; omega) | (unfold sR at s; unfold depWi; omega) | (unfold sR at s; unfold depI; omega) | (unfold sR at s; unfold depB; omega)
    | (unfold sR at s; unfold depBi; omega) | (unfold sR at s; unfold depT; omega) | (unfold sR at s; unfold depTi; omega) | (unfold sR at s; unfold depN; omega) | (unfold sR at s; unfold depNi; omega) | (unfold sR at s; unfold depC; omega)
    | (unfold sR at s; unfold depX; omega) | (unfold sR at s; unfold depP; omega) | (unfold sRL at s; omega)
    | (unfold sR; omega) | (unfold sRL; omega) | (unfold depA at q; unfold sR; omega)
theorem m60 {t i : Nat} : 60 * nI t + nI i = nI (60 * t + i) := by rw [nl60, nI_mul, nI_add]
theorem s_item (hPL : frPL PL) (hPA : frPA PA) : S_item N (Inv0 PL PA) := by
  intro X I L x1 x2 x3 hI
  rcases six_cases x1 with ⟨t, ht, rfl, e1, e2⟩ | ⟨e1, e2⟩
  · have it : inb (nI t) 6 = true := inb_nI ht (by decide)
    have ct : Int32.toNatClampNeg (nI t) = t := nI_clamp (by omega)
    obtain ⟨n, hn, q1, q2, q3, q4, q5⟩ := hI.r t ht
    rcases q4 with ⟨z1, z2⟩ | ⟨s, hs, z1⟩
    · refine ⟨-11, L, L, ?_, ?_, hI⟩
      · unfold f_X10_item
        rw [bnd1_some e1, if_neg (by decide), if_pos it, ct, q3, z1, if_pos rfl]
      · unfold f_X11_item
        rw [bnd1_some e2, if_neg (by decide), if_pos it, ct, z1, if_pos (by decide)]
    · have ns : ¬ nI s < 0 := nI_pos (by omega)
      have n1 : ¬ nI s = -1 := by
        intro h
        have := congrArg Int32.toInt h
        rw [nI_toInt (by omega)] at this
        have h2 : (-1 : Int32).toInt = -1 := by decide
        omega
      rcases below_in (n := n) x2 (by omega) with ⟨i, hi, rfl, e⟩ | ⟨h, e⟩
      · have i60 : inb (nI (60 * t + i)) 360 = true := inb_nI (by omega) (by decide)
        have c60 : Int32.toNatClampNeg (nI (60 * t + i)) = 60 * t + i := nI_clamp (by omega)
        have hv : ∃ y, f_X7_asItem (79 + 2 * t) x3 I = some y ∧ ∀ L1 : ML, f_X11_item (nI t) (nI i) x3 I L1 = some (1, upL L1 115 (60 * t + i) y) := by
          have hu : ∀ L1 : ML, f_X11_item (nI t) (nI i) x3 I L1 = (if nI s = 0 then some (1, upL L1 115 (60 * t + i) (Int32.toInt64 (Int8.toInt32 (Int32.toInt8 (Int64.toInt32 x3))))) else (if nI s = 1 then some (1, upL L1 115 (60 * t + i) (Int32.toInt64 (Int16.toInt32 (Int32.toInt16 (Int64.toInt32 x3))))) else (if nI s = 2 then some (1, upL L1 115 (60 * t + i) (Int32.toInt64 (Int64.toInt32 x3))) else (if nI s = 3 then some (1, upL L1 115 (60 * t + i) x3) else (if x3 = 0 then some (1, upL L1 115 (60 * t + i) 0) else some (1, upL L1 115 (60 * t + i) 1)))))) := by
            intro L1
            unfold f_X11_item
            rw [bnd1_some e2, if_neg (by decide), if_pos it, ct, z1, if_neg ns, if_pos it, q2, bnd1_some e, if_neg (by decide), if_pos it, m60, c60]
            simp only [letv, if_pos i60]
          have hs5 : s = 0 ∨ s = 1 ∨ s = 2 ∨ s = 3 ∨ s = 4 := by omega
          unfold f_X7_asItem
          rw [q3, z1]
          rcases hs5 with rfl | rfl | rfl | rfl | rfl
          · exact ⟨_, if_pos (by decide), fun L1 => (hu L1).trans (if_pos (by decide))⟩
          · refine ⟨_, by rw [if_neg (by decide), if_pos (by decide)], fun L1 => ?_⟩
            rw [hu, if_neg (by decide), if_pos (by decide)]
          · refine ⟨_, by rw [if_neg (by decide), if_neg (by decide), if_pos (by decide)], fun L1 => ?_⟩
            rw [hu, if_neg (by decide), if_neg (by decide), if_pos (by decide)]
          · refine ⟨_, by rw [if_neg (by decide), if_neg (by decide), if_neg (by decide), if_pos (by decide)], fun L1 => ?_⟩
            rw [hu, if_neg (by decide), if_neg (by decide), if_neg (by decide), if_pos (by decide)]
          · by_cases y : x3 = 0
            · refine ⟨0, by rw [if_neg (by decide), if_neg (by decide), if_neg (by decide), if_neg (by decide), if_pos (by decide), if_pos y], fun L1 => ?_⟩
              rw [hu, if_neg (by decide), if_neg (by decide), if_neg (by decide), if_neg (by decide), if_pos y]
            · refine ⟨1, by rw [if_neg (by decide), if_neg (by decide), if_neg (by decide), if_neg (by decide), if_pos (by decide), if_neg y], fun L1 => ?_⟩
              rw [hu, if_neg (by decide), if_neg (by decide), if_neg (by decide), if_neg (by decide), if_neg y]
        obtain ⟨y, y1, y2⟩ := hv
        refine ⟨1, upL L (80 + 2 * t) i y, upL (upL L (80 + 2 * t) i y) 115 (60 * t + i) y, ?_, y2 _, inv_tape hPL hPA hI ht fr.rfl ((frL.up (S := fun b j => scrL b j ∨ sRL t b j) (by unfold sRL; omega)).trans (frL.up (S := fun b j => scrL b j ∨ sRL t b j) (by unfold sRL; omega))) ⟨n, hn, q1, q2, q3, Or.inr ⟨s, hs, z1⟩, fun k hk => ?_⟩⟩
        · unfold f_X10_item
          rw [bnd1_some e1, if_neg (by decide), if_pos it, ct, q3, z1, if_neg n1, if_neg (nI_pos (by omega)), q1, if_pos ((nI_ltI (by omega) (by omega)).mpr hi), bnd1_some y1, if_pos (inb_nI (by omega) (by decide)), nI_clamp (by omega), show 79 + 2 * t + 1 = 80 + 2 * t by omega]; rfl
        · rw [upL_ne _ _ (Or.inl (by omega)), upL_at, upL_at]
          by_cases z : k = i
          · rw [if_pos z, if_pos (by omega)]
          · rw [if_neg z, if_neg (by omega), upL_ne _ _ (Or.inl (by omega))]; exact q5 k hk
      · refine ⟨-13, L, L, ?_, ?_, hI⟩
        · unfold f_X10_item
          rw [bnd1_some e1, if_neg (by decide), if_pos it, ct, q3, z1, if_neg n1, q1]
          by_cases q : x2 < 0
          · rw [if_pos q]
          · rw [if_neg q, if_neg (h.resolve_left q)]
        · unfold f_X11_item
          rw [bnd1_some e2, if_neg (by decide), if_pos it, ct, z1, if_neg ns, if_pos it, q2, bnd1_some e, if_pos rfl]
  · refine ⟨-1, L, L, ?_, ?_, hI⟩
    · unfold f_X10_item; rw [bnd1_some e1, if_pos rfl]
    · unfold f_X11_item; rw [bnd1_some e2, if_pos rfl]
end TS
