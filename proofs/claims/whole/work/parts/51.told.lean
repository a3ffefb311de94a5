/-! ===== told ===== -/
section TD
variable {PL : MX → MI → ML → Prop} {PA : MI → Prop} {N : Nat} {X : MX} {I I' : MI} {L : ML}
theorem letters_both {I1 I2 : MI} (h : ∀ w, w < 6 → I1 (10 + 4 * w) 1 = I2 100 w) (hN : 20 ≤ N) : ∃ r, f_X5_allLetters N 1 I1 = some r ∧ f_X11_allLetters N I2 = some r := by
  obtain ⟨r, q, h1, h2, h3⟩ := loop_sync (f := fun s : Int32 × Int32 => f_X5_allLetters_b4 N 1 s.1 s.2 I1) (g := fun s : Int32 × Int32 => f_X11_allLetters_b4 N s.1 s.2 I2) (fun j s t => s = t ∧ s.2 = nI j) (fun r q => r = q) 6 (by
    rintro j ⟨a, b⟩ t hj ⟨e0, e1⟩
    simp only at e1
    subst e0; subst e1
    have i1 : inb (nI j) 6 = true := inb_nI hj (by decide)
    have c1 : Int32.toNatClampNeg (nI j) = j := nI_clamp (by omega)
    have lt : nI j < (6 : Int32) := by rw [nl6]; exact (nI_ltI (by omega) (by omega)).mpr hj
    simp only [f_X5_allLetters_b4, f_X11_allLetters_b4]
    rw [if_pos lt, if_pos i1, c1, if_pos lt, if_pos i1, show 1 + 9 + 4 * j = 10 + 4 * j by omega, h j hj]
    exact ⟨_, _, rfl, rfl, rfl, nI_1 _⟩) (by
    rintro ⟨a, b⟩ t ⟨e0, e1⟩
    simp only at e1
    subst e0; subst e1
    simp only [f_X5_allLetters_b4, f_X11_allLetters_b4]
    rw [if_neg (by decide)]
    exact ⟨a, a, rfl, rfl, rfl⟩) N 0 (0, 0) (0, 0) (Nat.zero_le _) (by omega) ⟨rfl, nl0⟩
  subst h3
  refine ⟨r, ?_, ?_⟩
  · unfold f_X5_allLetters f_X5_allLetters_l4; exact bnd1_some h1
  · unfold f_X11_allLetters f_X11_allLetters_l4; exact bnd1_some h2
theorem cells_both {v : Int32} (hB : pB I) (hN : 20 ≤ N) : ∃ r, f_X5_allCells N 1 I = some r ∧ f_X11_told_l4 N v 0 0 I = some r := by
  obtain ⟨r, q, h1, h2, h3⟩ := loop_sync (f := fun s : Int32 × Int32 => f_X5_allCells_b4 N 1 s.1 s.2 I) (g := fun s : Int32 × Int32 => f_X11_told_b4 N v s.1 s.2 I) (fun j s t => s = t ∧ s.2 = nI j) (fun r q => r = q) 6 (by
    rintro j ⟨a, b⟩ t hj ⟨e0, e1⟩
    simp only at e1
    subst e0; subst e1
    have i1 : inb (nI j) 6 = true := inb_nI hj (by decide)
    have c1 : Int32.toNatClampNeg (nI j) = j := nI_clamp (by omega)
    have lt : nI j < (6 : Int32) := by rw [nl6]; exact (nI_ltI (by omega) (by omega)).mpr hj
    obtain ⟨n, r, n1, n6, hr, hc, hm⟩ := hB j hj
    have t6 := two_le n6
    have k1 := cellsC (N := N) hc n6 (fun i hi => by have := hr i hi; omega) hN
    have k2 := cellsM (N := N) hj hm n6 (fun i hi => by have := hr i hi; omega) hN
    simp only [f_X5_allCells_b4, f_X11_told_b4]
    rw [if_pos lt, if_pos i1, c1, if_pos lt, show 1 + 11 + 4 * j = 12 + 4 * j by omega, bnd1_some k1, bnd1_some k2]
    exact ⟨_, _, rfl, rfl, rfl, nI_1 _⟩) (by
    rintro ⟨a, b⟩ t ⟨e0, e1⟩
    simp only at e1
    subst e0; subst e1
    simp only [f_X5_allCells_b4, f_X11_told_b4]
    rw [if_neg (by decide)]
    exact ⟨a, a, rfl, rfl, rfl⟩) N 0 (0, 0) (0, 0) (Nat.zero_le _) (by omega) ⟨rfl, nl0⟩
  subst h3
  refine ⟨r, ?_, h2⟩
  unfold f_X5_allCells f_X5_allCells_l4; exact bnd1_some h1
theorem s_told (hN : 1000 ≤ N) : S_told N (Inv0 PL PA) := by
  intro X I L x1 hI
  obtain ⟨r, c1, c2⟩ := cells_both (N := N) (v := x1) hI.bs (by omega)
  obtain ⟨q, l1, l2⟩ := letters_both (N := N) (I1 := I) (I2 := I) (fun w hw => by obtain ⟨l, _, _, a, b⟩ := hI.w hw; rw [a.1, b.1]) (by omega)
  obtain ⟨z, z1, z2⟩ := many_both (N := N) (L := L) (L' := L) (fun p hp => (hI.s p hp).1) hN
  obtain ⟨k, _, k1, k2, _⟩ := hI.c
  obtain ⟨x, _, t1, t2, _⟩ := hI.x
  obtain ⟨y, _, p1, p2, _⟩ := hI.p
  obtain ⟨s, _, s1, s2, _⟩ := hI.n
  unfold f_X10_told f_X11_told
  rw [bnd1_some c2]
  by_cases h0 : x1 = 0
  · exact ⟨q, by rw [if_pos h0, bnd1_some l1], by rw [if_pos h0, bnd1_some l2], hI⟩
  · rw [if_neg h0, if_neg h0]
    by_cases h1 : x1 = 1
    · exact ⟨r, by rw [if_pos h1, bnd1_some c1], by rw [if_pos h1], hI⟩
    · rw [if_neg h1, if_neg h1]
      by_cases h2 : x1 = 2
      · exact ⟨nI k, by rw [if_pos h2, k1], by rw [if_pos h2, k2], hI⟩
      · rw [if_neg h2, if_neg h2]
        by_cases h3 : x1 = 3
        · exact ⟨nI x, by rw [if_pos h3, t1], by rw [if_pos h3, t2], hI⟩
        · rw [if_neg h3, if_neg h3]
          by_cases h4 : x1 = 4
          · exact ⟨nI y, by rw [if_pos h4, p1], by rw [if_pos h4, p2], hI⟩
          · rw [if_neg h4, if_neg h4]
            by_cases h5 : x1 = 5
            · exact ⟨nI s, by rw [if_pos h5, s1], by rw [if_pos h5, s2], hI⟩
            · rw [if_neg h5, if_neg h5]
              by_cases h6 : x1 = 6
              · exact ⟨z, by rw [if_pos h6, bnd1_some z1], by rw [if_pos h6, bnd1_some z2], hI⟩
              · exact ⟨-2, by rw [if_neg h6], by rw [if_neg h6], hI⟩
end TD
