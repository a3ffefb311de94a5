/-! ===== the invariant; what a method must show of it ===== -/
def Inv0 (PL : MX → MI → ML → Prop) (PA : MI → Prop) (X : MX) (I : MI) (L : ML) : Prop :=
  shX10 X ∧ shX11 X ∧ pG I ∧ pW I ∧ pWi I ∧ pS L ∧ pSi I L ∧ pB I ∧ pBi I ∧ pT I ∧ pTi I ∧ pN I ∧ pNi I ∧ pC I ∧ pX I ∧ pP I ∧ pR I L ∧ PL X I L ∧ PA I
def frPL (PL : MX → MI → ML → Prop) : Prop := ∀ X I I' L L', (∀ b j, 138 ≤ b → I' b j = I b j) → (∀ b j, 138 ≤ b → L' b j = L b j) → PL X I L → PL X I' L'
def depA (b j : Nat) : Prop := (b = 99 ∧ (j = 38 ∨ j = 39)) ∨ b = 132 ∨ b = 133
def frPA (PA : MI → Prop) : Prop := ∀ I I', (∀ b j, depA b j → I' b j = I b j) → PA I → PA I'
/-- rows that are used anew by each call -/
def scr (b j : Nat) : Prop := b = 74 ∨ b = 75 ∨ (92 ≤ b ∧ b ≤ 96) ∨ (127 ≤ b ∧ b ≤ 131) ∨ (134 ≤ b ∧ b ≤ 136) ∨ (b = 99 ∧ 43 ≤ j ∧ j ≤ 47)
def scrL (b j : Nat) : Prop := b = 5 ∨ b = 38 ∨ b = 98 ∨ (124 ≤ b ∧ b ≤ 126) ∨ b = 137
section ST
variable {PL : MX → MI → ML → Prop} {PA : MI → Prop} {X : MX} {I I' : MI} {L L' : ML}
theorem inv_scr (hPL : frPL PL) (hPA : frPA PA) (hI : Inv0 PL PA X I L) (h : fr scr I I') (h' : frL scrL L L') : Inv0 PL PA X I' L' := by
  obtain ⟨h10, h11, hG, hW, hWi, hS, hSi, hB, hBi, hT, hTi, hN, hNi, hC, hX, hP, hR, hL, hA⟩ := hI
  refine ⟨h10, h11, pG_fr h (fun b j s => ?_) hG, pW_fr h (fun b j s => ?_) hW, pWi_fr h (fun b j s => ?_) hWi, pS_fr h' (fun b j s => ?_) hS, pSi_fr h (fun b j s => ?_) h' (fun b j s => ?_) hSi, pB_fr h (fun b j s => ?_) hB, pBi_fr h (fun b j s => ?_) hBi, pT_fr h (fun b j s => ?_) hT, pTi_fr h (fun b j s => ?_) hTi, pN_fr h (fun b j s => ?_) hN, pNi_fr h (fun b j s => ?_) hNi, pC_fr h (fun b j s => ?_) hC, pX_fr h (fun b j s => ?_) hX, pP_fr h (fun b j s => ?_) hP, pR_fr h (fun b j s => ?_) h' (fun b j s => ?_) hR, hPL X I I' L L' (fun b j q => h b j ?_) (fun b j q => h' b j ?_) hL, hPA I I' (fun b j q => h b j ?_) hA⟩
  all_goals first
    | (unfold scr at s; unfold depG; omega) | (unfold scr at s; unfold depW; omega) | (unfold scr at s; unfold depWi; omega) | (unfold scrL at s; omega) | (unfold scr at s; unfold depI; omega)
    | (unfold scr at s; unfold depB; omega) | (unfold scr at s; unfold depBi; omega) | (unfold scr at s; unfold depT; omega) | (unfold scr at s; unfold depTi; omega) | (unfold scr at s; unfold depN; omega) | (unfold scr at s; unfold depNi; omega)
    | (unfold scr at s; unfold depC; omega) | (unfold scr at s; unfold depX; omega) | (unfold scr at s; unfold depP; omega) | (unfold scr at s; unfold depR; omega) | (unfold scrL at s; unfold depRL; omega)
    | (unfold scr; omega) | (unfold scrL; omega) | (unfold depA at q; unfold scr; omega)
def sW (w b j : Nat) : Prop := b = 10 + 4 * w ∨ b = 11 + 4 * w ∨ (b = 100 ∧ j = w) ∨ (b = 101 ∧ 12 * w ≤ j ∧ j < 12 * w + 12)
/-- a WORD has become another one -/
theorem inv_word (hPL : frPL PL) (hPA : frPA PA) (hI : Inv0 PL PA X I L) {w : Nat} (hw : w < 6) (h : fr (sW w) I I') (hnew : WP I' (10 + 4 * w) 100 101 w) : Inv0 PL PA X I' L := by
  obtain ⟨h10, h11, hG, hW, hWi, hS, hSi, hB, hBi, hT, hTi, hN, hNi, hC, hX, hP, hR, hL, hA⟩ := hI
  have hW' : pW I' := by
    intro v hv
    by_cases e : v = w
    · subst e; exact hnew
    · refine WP_eq (h _ _ ?_) (fun i => h _ _ ?_) (h _ _ ?_) (fun i _ => h _ _ ?_) (hW v hv) <;> (unfold sW; omega)
  have h' : frL (fun _ _ => False) L L := frL.rfl
  refine ⟨h10, h11, pG_fr h (fun b j s => ?_) hG, hW', pWi_fr h (fun b j s => ?_) hWi, hS, pSi_fr h (fun b j s => ?_) h' (fun b j s => s.elim) hSi, pB_fr h (fun b j s => ?_) hB, pBi_fr h (fun b j s => ?_) hBi, pT_fr h (fun b j s => ?_) hT, pTi_fr h (fun b j s => ?_) hTi, pN_fr h (fun b j s => ?_) hN, pNi_fr h (fun b j s => ?_) hNi, pC_fr h (fun b j s => ?_) hC, pX_fr h (fun b j s => ?_) hX, pP_fr h (fun b j s => ?_) hP, pR_fr h (fun b j s => ?_) h' (fun b j s => s.elim) hR, hPL X I I' L L (fun b j q => h b j ?_) (fun b j q => rfl) hL, hPA I I' (fun b j q => h b j ?_) hA⟩
  all_goals first
    | (unfold sW at s; unfold depG; omega) | (unfold sW at s; unfold depWi; omega) | (unfold sW at s; unfold depI; omega)
    | (unfold sW at s; unfold depB; omega) | (unfold sW at s; unfold depBi; omega) | (unfold sW at s; unfold depT; omega) | (unfold sW at s; unfold depTi; omega) | (unfold sW at s; unfold depN; omega) | (unfold sW at s; unfold depNi; omega)
    | (unfold sW at s; unfold depC; omega) | (unfold sW at s; unfold depX; omega) | (unfold sW at s; unfold depP; omega) | (unfold sW at s; unfold depR; omega)
    | (unfold sW; omega) | (unfold depA at q; unfold sW; omega)
theorem Inv0.w (hI : Inv0 PL PA X I L) {w : Nat} (hw : w < 6) : WP I (10 + 4 * w) 100 101 w := hI.2.2.2.1 w hw
end ST
