/-! ===== the invariant from the start, and through all steps ===== -/
theorem inv_shape (X : MX) (I : MI) (L : ML) (h : Inv0 PL0 PA0 X I L) : shX10 X ∧ shX11 X := ⟨h.1, h.2.1⟩
theorem inv_steps : Steps49 1000000 (Inv0 PL0 PA0) := ⟨s_letter frPL0 frPA0 (by decide), s_empty frPL0 frPA0, s_make frPL0 frPA0 (by decide), s_join frPL0 frPA0 (by decide), s_turn frPL0 frPA0 (by decide), s_word (by decide), s_acted (by decide), s_order frPL0 frPA0 (by decide), s_clear frPL0 frPA0 (by decide), s_add frPL0 frPA0 (by decide), s_times frPL0 frPA0 (by decide), s_number, s_side frPL0 frPA0 (by decide), s_cell frPL0 frPA0 (by decide), s_board frPL0 frPA0 (by decide), s_steps frPL0 frPA0 (by decide), s_other frPL0 frPA0 (by decide), s_turned frPL0 frPA0 (by decide), s_flipped frPL0 frPA0 (by decide), s_row, s_of (by decide), s_count frPL0 frPA0 (by decide), s_hits frPL0 frPA0 (by decide), s_factored frPL0 frPA0 (by decide), s_bySteps (by decide), s_all (by decide), s_like (by decide), s_classes (by decide), s_see frPL0 frPA0, s_fits (by decide), s_weight frPL0 frPA0 (by decide), s_cheapest frPL0 frPA0 (by decide), s_listed frPL0 frPA0 (by decide), s_odds frPL0 frPA0 (by decide), s_mean frPL0 frPA0 (by decide), s_lots frPL0 frPA0 (by decide), s_feed frPL0 frPA0, s_read frPL0 frPA0 (by decide), s_write frPL0 frPA0 (by decide), s_paper, s_undo frPL0 frPA0, s_judge frPL0 frPA0 (by decide), s_image frPL0 frPA0 (by decide), s_restore frPL0 frPA0 (by decide), s_told (by decide), s_tape frPL0 frPA0 (by decide), s_item frPL0 frPA0, s_peek, s_shift frPL0 frPA0 (by decide)⟩
theorem st_W : ∀ w, w < 6 → cIe (10 + 4 * w) 1 = 0 ∧ cIe 100 w = 0 := by decide +kernel
theorem st_B : ∀ b, b < 6 → (cIe (12 + 4 * b) 0 = 3 ∧ cIe 103 b = 3) ∧ ∀ i, i < 3 → cIe (12 + 4 * b + 1) i = 0 ∧ cIe 104 (6 * b + i) = 0 := by decide +kernel
theorem st_S : ∀ p, p < 169 → cLe 4 p = 0 ∧ cLe 102 p = 0 := by decide +kernel
theorem st_T : ∀ p, p < 36 → cIe 7 p = 1 ∧ cIe 105 p = 1 := by decide +kernel
theorem st_R : ∀ t, t < 6 → (cIe (79 + 2 * t) 1 = 0 ∧ cIe 114 t = 0) ∧ cIe (79 + 2 * t) 0 = -1 ∧ cIe 113 t = -1 := by decide +kernel
theorem st_1 : (cIe 0 2 = 0 ∧ cIe 99 20 = 0) ∧ (cIe 1 6 = 0 ∧ cIe 99 6 = 0) ∧ (cIe 67 4 = 0 ∧ cIe 99 9 = 0) ∧ (cIe 72 1 = 0 ∧ cIe 99 13 = 0) ∧ (cIe 76 1 = 0 ∧ cIe 99 15 = 0) ∧ cIe 99 39 = 0 := by decide +kernel
theorem st_P : pB cIe := fun b hb => by
  obtain ⟨⟨h1, h2⟩, h3⟩ := st_B b hb
  exact ⟨3, fun _ => 0, by omega, by omega, fun i _ => (by decide : 0 < 2 ^ 3), ⟨h1.trans nl3, fun i hi => (h3 i hi).1.trans nl0⟩, ⟨h2.trans nl3, fun i hi => (h3 i hi).2.trans nl0⟩⟩
theorem st_SB : SB 0 := SB0
theorem inv_start : Inv0 PL0 PA0 cXe cIe cLe := by
  obtain ⟨⟨a1, a2⟩, ⟨b1, b2⟩, ⟨c1, c2⟩, ⟨d1, d2⟩, ⟨e1, e2⟩, f1⟩ := st_1
  have no : ¬ cIe 0 2 = 1 := by rw [a1]; decide
  refine ⟨sh10_e, sh11_e, ⟨Or.inl a1, by rw [a1, a2]⟩, fun w hw => ⟨[], by simp, fun x hx => by simp at hx, ⟨(st_W w hw).1.trans nl0, fun i x hx => by simp at hx⟩, ⟨(st_W w hw).2.trans nl0, fun i x hx => by simp at hx⟩⟩, fun h => absurd h no, fun p hp => ?_, fun h => absurd h no, st_P, fun h => absurd h no, fun p hp => ⟨1, by omega, (st_T p hp).1.trans nl1, (st_T p hp).2.trans nl1⟩, fun h => absurd h no, ⟨0, by omega, b1.trans nl0, b2.trans nl0, fun s hs => absurd hs (by omega)⟩, fun h => absurd h no, pC_zero st_P c1 c2, ⟨0, by omega, d1.trans nl0, d2.trans nl0, fun i hi => absurd hi (by omega)⟩, ⟨0, by omega, e1.trans nl0, e2.trans nl0, fun i hi => absurd hi (by omega)⟩, fun t ht => ?_, ⟨by decide, fun n q h => by cases h⟩, Or.inl f1⟩
  · obtain ⟨h1, h2⟩ := st_S p hp
    rw [h1, h2]; exact ⟨rfl, SB0⟩
  · obtain ⟨⟨h1, h2⟩, h3, h4⟩ := st_R t ht
    exact ⟨0, by omega, h1.trans nl0, h2.trans nl0, by rw [h3, h4], Or.inl ⟨h4, rfl⟩, fun i hi => absurd hi (by omega)⟩
