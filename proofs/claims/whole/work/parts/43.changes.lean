/-! ===== what can be undone ===== -/
def sC (b j : Nat) : Prop := (12 ≤ b ∧ b < 34 ∧ b % 4 = 1) ∨ b = 104 ∨ b = 105 ∨ b = 7 ∨ (b = 67 ∧ j = 4) ∨ (68 ≤ b ∧ b ≤ 71) ∨ (108 ≤ b ∧ b ≤ 110) ∨ (b = 99 ∧ j = 9)
section CS
variable {PL : MX → MI → ML → Prop} {PA : MI → Prop} {N : Nat} {X : MX} {I I' : MI} {L : ML}
theorem inv_change (hPL : frPL PL) (hPA : frPA PA) (hI : Inv0 PL PA X I L) (m2 : fr sC I I') (hB' : pB I') (hT' : pT I') (hC' : pC I') : Inv0 PL PA X I' L := by
  obtain ⟨h10, h11, hG, hW, hWi, hS, hSi, hB, hBi, hT, hTi, hN, hNi, hC, hX, hP, hR, hL, hA⟩ := hI
  have h' : frL (fun _ _ => False) L L := frL.rfl
  refine ⟨h10, h11, pG_fr m2 (fun b j s => ?_) hG, pW_fr m2 (fun b j s => ?_) hW, pWi_fr m2 (fun b j s => ?_) hWi, hS, pSi_fr m2 (fun b j s => ?_) h' (fun b j s => s.elim) hSi, hB', pBi_fr m2 (fun b j s => ?_) hBi, hT', pTi_fr m2 (fun b j s => ?_) hTi, pN_fr m2 (fun b j s => ?_) hN, pNi_fr m2 (fun b j s => ?_) hNi, hC', pX_fr m2 (fun b j s => ?_) hX, pP_fr m2 (fun b j s => ?_) hP, pR_fr m2 (fun b j s => ?_) h' (fun b j s => s.elim) hR, hPL X I I' L L (fun b j q => m2 b j ?_) (fun b j q => rfl) hL, hPA I I' (fun b j q => m2 b j ?_) hA⟩
  all_goals first
    | (unfold sC at s; unfold depG; omega) | (unfold sC at s; unfold depW; omega) | (unfold sC at s; unfold depWi; omega) | (unfold sC at s; unfold depI; omega)
    | (unfold sC at s; unfold depBi; omega) | (unfold sC at s; unfold depTi; omega) | (unfold sC at s; unfold depN; omega) | (unfold sC at s; unfold depNi; omega)
    | (unfold sC at s; unfold depX; omega) | (unfold sC at s; unfold depP; omega) | (unfold sC at s; unfold depR; omega)
    | (unfold sC; omega) | (unfold depA at q; unfold sC; omega)
theorem Inv0.c (hI : Inv0 PL PA X I L) : pC I := hI.2.2.2.2.2.2.2.2.2.2.2.2.2.1
theorem Inv0.t (hI : Inv0 PL PA X I L) : TP I 7 105 := hI.2.2.2.2.2.2.2.2.2.1
theorem Inv0.bs (hI : Inv0 PL PA X I L) : pB I := hI.2.2.2.2.2.2.2.1
end CS
/-- entry s of I and entry t of J are the same -/
def entry (I J : MI) (s t : Nat) : Prop := ∀ b, (68 ≤ b ∧ b ≤ 71) ∨ (108 ≤ b ∧ b ≤ 110) → J b t = I b s
theorem chain_at {I J : MI} {sd : Nat → Nat} {d : Nat} : ∀ (t : Nat) (R : Nat → Nat → Nat), (∀ s, s < t → entry I J (s + d) s) → chain I sd (t + d) R → chain J sd t R := by
  intro t
  induction t with
  | zero => intro R _ _; trivial
  | succ t ih =>
    intro R he p
    have ht := he t (by omega)
    rw [show t + 1 + d = (t + d) + 1 by omega] at p
    rcases p with ⟨b, i, j, q1, q2, q3, q4, q5, q6, q7, q8, q9, q10⟩ | ⟨i, j, w, q1, q2, q3, q4, q5, q6, q7, q8, q9, q10, q11⟩
    · exact Or.inl ⟨b, i, j, q1, q2, q3, (ht _ (by omega)).trans q4, (ht _ (by omega)).trans q5, (ht _ (by omega)).trans q6, (ht _ (by omega)).trans q7, (ht _ (by omega)).trans q8, (ht _ (by omega)).trans q9, ih _ (fun s hs => he s (by omega)) q10⟩
    · exact Or.inr ⟨i, j, w, q1, q2, q3, (ht _ (by omega)).trans q4, (ht _ (by omega)).trans q5, (ht _ (by omega)).trans q6, (ht _ (by omega)).trans q7, (ht _ (by omega)).trans q8, (ht _ (by omega)).trans q9, (ht _ (by omega)).trans q10, ih _ (fun s hs => he s (by omega)) q11⟩
def kd (k : Nat) : Nat := if k = 10 then 1 else 0
theorem kd_10 : kd 10 = 1 := rfl
theorem kd_n {k : Nat} (h : k < 10) : kd k = 0 := if_neg (by omega)
theorem keepj {k : Nat} {v1 v2 v3 v4 : Int32} {I : MI} (hk : k < 10) (h : I 67 4 = nI k) : ∃ J, f_X1_keep_j13 v1 v2 v3 v4 I = some J ∧ J 68 k = v1 ∧ J 69 k = v2 ∧ J 70 k = v3 ∧ J 71 k = v4 ∧ J 67 4 = nI (k + 1) ∧ fr (fun b j => (b = 67 ∧ j = 4) ∨ (68 ≤ b ∧ b ≤ 71 ∧ j = k)) I J := by
  have ik : inb (nI k) 10 = true := inb_nI hk (by decide)
  have ck : Int32.toNatClampNeg (nI k) = k := nI_clamp (by omega)
  have n1 : ∀ (J : MI) (a : Nat) (v : Int32), a ≠ 67 → J 67 4 = nI k → upI J a k v 67 4 = nI k := fun J a v ha hJ => by rw [upI_ne _ _ (Or.inl (Ne.symm ha))]; exact hJ
  have g1 := n1 I 68 v1 (by decide) h
  have g2 := n1 _ 69 v2 (by decide) g1
  have g3 := n1 _ 70 v3 (by decide) g2
  have g4 := n1 _ 71 v4 (by decide) g3
  refine ⟨upI (upI (upI (upI (upI I 68 k v1) 69 k v2) 70 k v3) 71 k v4) 67 4 (nI (k + 1)), ?_, ?_, ?_, ?_, ?_, upI_eq _ _ _ _, ?_⟩
  · unfold f_X1_keep_j13
    rw [h, if_pos ik, ck]
    simp only [letv]
    rw [g1, if_pos ik, ck, g2, if_pos ik, ck, g3, if_pos ik, ck, g4, nI_1]
  · rw [upI_ne _ _ (Or.inl (by omega)), upI_ne _ _ (Or.inl (by omega)), upI_ne _ _ (Or.inl (by omega)), upI_ne _ _ (Or.inl (by omega)), upI_eq]
  · rw [upI_ne _ _ (Or.inl (by omega)), upI_ne _ _ (Or.inl (by omega)), upI_ne _ _ (Or.inl (by omega)), upI_eq]
  · rw [upI_ne _ _ (Or.inl (by omega)), upI_ne _ _ (Or.inl (by omega)), upI_eq]
  · rw [upI_ne _ _ (Or.inl (by omega)), upI_eq]
  · intro b j n
    rw [upI_ne _ _ (by omega), upI_ne _ _ (by omega), upI_ne _ _ (by omega), upI_ne _ _ (by omega), upI_ne _ _ (by omega)]
theorem cp1 {I : MI} {a : Nat} : (∀ t, t < 9 → cpI I a a 1 0 9 a t = I a (t + 1)) ∧ fr (fun b j => b = a) I (cpI I a a 1 0 9) := by
  refine ⟨fun t ht => ?_, fun b j n => ?_⟩
  · unfold cpI va_cpy
    rw [if_pos rfl, if_pos (by omega)]; congr 1; omega
  · unfold cpI; rw [if_neg n]
theorem dropC {I : MI} : ∃ J, f_X1_dropOldest I = some J ∧ (∀ b t, 68 ≤ b → b ≤ 71 → t < 9 → J b t = I b (t + 1)) ∧ J 67 4 = nI 9 ∧ fr (fun b j => (b = 67 ∧ j = 4) ∨ (68 ≤ b ∧ b ≤ 71)) I J := by
  obtain ⟨a1, a2⟩ := cp1 (I := I) (a := 68)
  obtain ⟨b1, b2⟩ := cp1 (I := cpI I 68 68 1 0 9) (a := 69)
  obtain ⟨c1, c2⟩ := cp1 (I := cpI (cpI I 68 68 1 0 9) 69 69 1 0 9) (a := 70)
  obtain ⟨d1, d2⟩ := cp1 (I := cpI (cpI (cpI I 68 68 1 0 9) 69 69 1 0 9) 70 70 1 0 9) (a := 71)
  refine ⟨upI (cpI (cpI (cpI (cpI I 68 68 1 0 9) 69 69 1 0 9) 70 70 1 0 9) 71 71 1 0 9) 67 4 9, ?_, fun b t h1 h2 ht => ?_, ?_, fun b j n => ?_⟩
  · unfold f_X1_dropOldest
    rw [if_pos (by decide)]
    simp only [letv]
    rw [if_pos (by decide), if_pos (by decide), if_pos (by decide)]
    rfl
  · rw [upI_ne _ _ (Or.inl (by omega))]
    have hb : b = 68 ∨ b = 69 ∨ b = 70 ∨ b = 71 := by omega
    rcases hb with rfl | rfl | rfl | rfl
    · rw [d2 _ _ (by omega), c2 _ _ (by omega), b2 _ _ (by omega), a1 t ht]
    · rw [d2 _ _ (by omega), c2 _ _ (by omega), b1 t ht, a2 _ _ (by omega)]
    · rw [d2 _ _ (by omega), c1 t ht, b2 _ _ (by omega), a2 _ _ (by omega)]
    · rw [d1 t ht, c2 _ _ (by omega), b2 _ _ (by omega), a2 _ _ (by omega)]
  · rw [upI_eq]; exact nl9
  · rw [upI_ne _ _ (by omega), d2 _ _ (by omega), c2 _ _ (by omega), b2 _ _ (by omega), a2 _ _ (by omega)]
theorem keepC {k : Nat} {v1 v2 v3 v4 : Int32} {I : MI} (hk : k ≤ 10) (h : I 67 4 = nI k) : ∃ J, f_X1_keep v1 v2 v3 v4 I = some J ∧ J 68 (k - kd k) = v1 ∧ J 69 (k - kd k) = v2 ∧ J 70 (k - kd k) = v3 ∧ J 71 (k - kd k) = v4 ∧ J 67 4 = nI (k - kd k + 1) ∧ (∀ b t, 68 ≤ b → b ≤ 71 → t < k - kd k → J b t = I b (t + kd k)) ∧ fr (fun b j => (b = 67 ∧ j = 4) ∨ (68 ≤ b ∧ b ≤ 71)) I J := by
  unfold f_X1_keep
  by_cases q : k < 10
  · rw [kd_n q, h, nl10, if_pos ((nI_ltI (by omega) (by omega)).mpr q), Nat.sub_zero]
    obtain ⟨J, g1, g2, g3, g4, g5, g6, g7⟩ := keepj (v1 := v1) (v2 := v2) (v3 := v3) (v4 := v4) q h
    exact ⟨J, g1, g2, g3, g4, g5, g6, fun b t h1 h2 ht => by rw [g7 _ _ (by omega)]; rfl, g7.mono (fun b j h => by omega)⟩
  · have : k = 10 := by omega
    subst this
    rw [kd_10, h, nl10, if_neg (nI_le0 (by omega) (Nat.le_refl _))]
    obtain ⟨M, m1, m2, m3, m4⟩ := dropC (I := I)
    obtain ⟨J, g1, g2, g3, g4, g5, g6, g7⟩ := keepj (v1 := v1) (v2 := v2) (v3 := v3) (v4 := v4) (by decide) m3
    refine ⟨J, by rw [bnd1_some m1]; exact g1, g2, g3, g4, g5, g6, fun b t h1 h2 ht => by rw [g7 _ _ (by omega), m2 b t h1 h2 (by omega)], m4.trans (g7.mono (fun b j h => by omega))⟩
