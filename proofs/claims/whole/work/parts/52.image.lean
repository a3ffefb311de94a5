/-! ===== THE IMAGE: image, restore ===== -/
theorem nl72 : (72 : Int32) = nI 72 := by decide +kernel
theorem WC_uniq {I : MI} {a : Nat} {l m : List Int32} (hl : l.length ≤ 12) (hm : m.length ≤ 12) (h1 : WC I a l) (h2 : WC I a m) : l = m := by
  have e : l.length = m.length := (nI_eq (by omega) (by omega)).mp (h1.1.symm.trans h2.1)
  refine List.ext_getElem? (fun i => ?_)
  by_cases q : i < l.length
  · obtain ⟨x, hx⟩ := get_some q
    obtain ⟨y, hy⟩ := get_some (l := m) (j := i) (by omega)
    rw [hx, hy, ← h1.2 i x hx, ← h2.2 i y hy]
  · rw [List.getElem?_eq_none (by omega), List.getElem?_eq_none (by omega)]
theorem likeW {N a0 a1 : Nat} {l : List Int32} {I : MI} (hl : l.length ≤ 12) (h : WC I a1 l) (hd : a0 + 1 < a1 ∨ a1 + 1 < a0) (hN : 20 ≤ N) : ∃ J, f_X9_becomeLetters N a0 (a1 + 1) 12 (nI l.length) I = some J ∧ WC J a0 l ∧ fr (fc a0) I J := by
  have hc0 : WC (upI I a0 1 0) a0 [] := ⟨by rw [upI_eq]; exact nl0, by intro i x hx; simp at hx⟩
  have key := loop_inv (f := fun s : Int32 × MI => f_X9_becomeLetters_b7 N a0 (a1 + 1) 12 (nI l.length) s.1 s.2) (fun j st => st.1 = nI j ∧ WC st.2 a0 (l.take j) ∧ fr (fc a0) I st.2) (fun J => WC J a0 l ∧ fr (fc a0) I J) l.length ?_ ?_ N 0 (0, upI I a0 1 0) (Nat.zero_le _) (by omega) ⟨nl0, by simpa using hc0, fr.up (Or.inl rfl)⟩
  · obtain ⟨J, e, p1, p2⟩ := key
    refine ⟨J, ?_, p1, p2⟩
    unfold f_X9_becomeLetters f_X9_becomeLetters_l7
    simp only [letv]
    exact bnd1_some e
  · rintro j ⟨c, J⟩ hj ⟨e1, w1, f1⟩
    simp only at e1 w1 f1
    subst e1
    obtain ⟨x, hx⟩ := get_some hj
    obtain ⟨J1, g1, g2, g3⟩ := push1_spec (N := N) (s := x) w1 (by simp; omega) (by omega)
    refine ⟨(nI (j + 1), J1), ?_, rfl, ?_, f1.trans g3⟩
    · show f_X9_becomeLetters_b7 N a0 (a1 + 1) 12 (nI l.length) (nI j) J = _
      unfold f_X9_becomeLetters_b7
      have e5 : J (a1 + 1) j = x := (f1 _ _ (by unfold fc; omega)).trans (h.2 j x hx)
      rw [if_pos ((nI_ltI (by omega) (by omega)).mpr hj), show Int32.ofNat 12 = nI 12 from rfl, if_pos ((nI_ltI (by omega) (by omega)).mpr (by omega)), if_pos (inb_nI (by omega) (by decide)), nI_clamp (by omega), e5, bnd1_some g1, nI_1]
    · show WC J1 a0 (l.take (j + 1))
      rw [take_one hx]; exact g2
  · rintro ⟨c, J⟩ ⟨e1, w1, f1⟩
    simp only at e1 w1 f1
    subst e1
    refine ⟨J, ?_, by simpa using w1, f1⟩
    show f_X9_becomeLetters_b7 N a0 (a1 + 1) 12 (nI l.length) (nI l.length) J = _
    unfold f_X9_becomeLetters_b7
    rw [if_neg (nI_le0 (by omega) (Nat.le_refl _))]
theorem cp0 {I : MI} {s d n : Nat} : (∀ t, t < n → cpI I s d 0 0 n d t = I s t) ∧ fr (fun b j => b = d) I (cpI I s d 0 0 n) := by
  refine ⟨fun t ht => ?_, fun b j h => ?_⟩
  · unfold cpI va_cpy
    rw [if_pos rfl, if_pos (by omega)]; congr 1; omega
  · unfold cpI; rw [if_neg h]
theorem likeB {a0 a1 : Nat} {I : MI} (hd : a0 + 1 < a1 ∨ a1 + 1 < a0) : ∃ J, f_X0_becomeLike a0 a1 I = some J ∧ J a0 0 = I a1 0 ∧ (∀ i, i < 6 → J (a0 + 1) i = I (a1 + 1) i) ∧ fr (fun b j => b = a0 ∨ b = a0 + 1) I J := by
  obtain ⟨c1, c2⟩ := cp0 (I := upI I a0 0 (I a1 0)) (s := a1 + 1) (d := a0 + 1) (n := 6)
  refine ⟨cpI (upI I a0 0 (I a1 0)) (a1 + 1) (a0 + 1) 0 0 6, ?_, ?_, fun i hi => ?_, ?_⟩
  · unfold f_X0_becomeLike
    simp only [letv]
    rw [if_pos (by decide)]
    rfl
  · rw [c2 _ _ (by omega), upI_eq]
  · rw [c1 i hi, upI_ne _ _ (Or.inl (by omega))]
  · exact (fr.up (S := fun b j => b = a0 ∨ b = a0 + 1) (Or.inl rfl)).trans (c2.mono (fun b j h => Or.inr h))
/-- a STATE becomes like another one -/
theorem likeS {N a0 a1 : Nat} {I : MI} {L : ML} (hd : a0 + 33 ≤ a1 ∨ a1 + 33 ≤ a0) (hW : ∀ w, w < 6 → ∃ l : List Int32, l.length ≤ 12 ∧ WC I (a1 + 9 + 4 * w) l) (hN : 20 ≤ N) : ∃ J K, f_X5_becomeLike N a0 a1 I L = some (J, K) ∧ (∀ w l, w < 6 → l.length ≤ 12 → WC I (a1 + 9 + 4 * w) l → WC J (a0 + 9 + 4 * w) l) ∧ (∀ w, w < 6 → J (a0 + 11 + 4 * w) 0 = I (a1 + 11 + 4 * w) 0 ∧ ∀ i, i < 6 → J (a0 + 11 + 4 * w + 1) i = I (a1 + 11 + 4 * w + 1) i) ∧ (∀ i, i < 36 → J (a0 + 6) i = I (a1 + 6) i) ∧ (∀ i, i < 4 → J (a0 + 7) i = I (a1 + 7) i) ∧ (∀ i, i < 4 → J (a0 + 8) i = I (a1 + 8) i) ∧ J a0 6 = I a1 6 ∧ (∀ p, p < 169 → K (a0 + 3) p = L (a1 + 3) p) ∧ fr (fun b j => (a0 + 6 ≤ b ∧ b < a0 + 33) ∨ (b = a0 ∧ j = 6)) I J ∧ frL (fun b j => b = a0 + 3) L K := by
  have key := loop_inv (f := fun s : Int32 × MI => f_X5_becomeLike_b2 N a0 a1 s.1 s.2) (fun k st => st.1 = nI k ∧ (∀ w l, w < k → l.length ≤ 12 → WC I (a1 + 9 + 4 * w) l → WC st.2 (a0 + 9 + 4 * w) l) ∧ (∀ w, w < k → st.2 (a0 + 11 + 4 * w) 0 = I (a1 + 11 + 4 * w) 0 ∧ ∀ i, i < 6 → st.2 (a0 + 11 + 4 * w + 1) i = I (a1 + 11 + 4 * w + 1) i) ∧ fr (fun b j => a0 + 9 ≤ b ∧ b < a0 + 33) I st.2) (fun J => (∀ w l, w < 6 → l.length ≤ 12 → WC I (a1 + 9 + 4 * w) l → WC J (a0 + 9 + 4 * w) l) ∧ (∀ w, w < 6 → J (a0 + 11 + 4 * w) 0 = I (a1 + 11 + 4 * w) 0 ∧ ∀ i, i < 6 → J (a0 + 11 + 4 * w + 1) i = I (a1 + 11 + 4 * w + 1) i) ∧ fr (fun b j => a0 + 9 ≤ b ∧ b < a0 + 33) I J) 6 ?_ ?_ N 0 (0, I) (Nat.zero_le _) (by omega) ⟨nl0, fun w l hw => absurd hw (by omega), fun w hw => absurd hw (by omega), fr.rfl⟩
  · obtain ⟨J0, e, p1, p2, p3⟩ := key
    obtain ⟨c1, c2⟩ := cp0 (I := J0) (s := a1 + 6) (d := a0 + 6) (n := 36)
    generalize hJ1 : cpI J0 (a1 + 6) (a0 + 6) 0 0 36 = J1 at c1 c2
    obtain ⟨d1, d2⟩ := cp0 (I := J1) (s := a1 + 7) (d := a0 + 7) (n := 4)
    generalize hJ2 : cpI J1 (a1 + 7) (a0 + 7) 0 0 4 = J2 at d1 d2
    obtain ⟨e1, e2⟩ := cp0 (I := J2) (s := a1 + 8) (d := a0 + 8) (n := 4)
    generalize hJ3 : cpI J2 (a1 + 8) (a0 + 8) 0 0 4 = J3 at e1 e2
    have f3 : ∀ b j, (b ≠ a0 + 6 ∧ b ≠ a0 + 7 ∧ b ≠ a0 + 8 ∧ (b ≠ a0 ∨ j ≠ 6)) → upI J3 a0 6 (J3 a1 6) b j = J0 b j := fun b j h => by
      rw [upI_ne _ _ h.2.2.2, e2 _ _ h.2.2.1, d2 _ _ h.2.1, c2 _ _ h.1]
    refine ⟨upI J3 a0 6 (J3 a1 6), cpL L (a1 + 3) (a0 + 3) 0 0 169, ?_, ?_, ?_, ?_, ?_, ?_, ?_, ?_, ?_, ?_⟩
    · unfold f_X5_becomeLike f_X5_becomeLike_l2
      rw [bnd1_some e]
      have hs : f_X6_becomeLike (a0 + 2) (a1 + 2) L = some (cpL L (a1 + 3) (a0 + 3) 0 0 169) := by
        unfold f_X6_becomeLike
        rw [if_pos (by decide)]
        rfl
      rw [bnd1_some hs, if_pos (by decide)]
      have z0 : Int32.toNatClampNeg 0 = 0 := by decide
      have z36 : Int32.toNatClampNeg 36 = 36 := by decide
      have z4 : Int32.toNatClampNeg 4 = 4 := by decide
      simp only [letv]
      rw [z0, z36, z4, hJ1, if_pos (by decide), hJ2, if_pos (by decide), hJ3]
    · intro w l hw hl h
      have := p1 w l hw hl h
      exact ⟨by rw [f3 _ _ (by omega)]; exact this.1, fun i x hx => by rw [f3 _ _ (by omega)]; exact this.2 i x hx⟩
    · intro w hw
      have := p2 w hw
      exact ⟨by rw [f3 _ _ (by omega)]; exact this.1, fun i hi => by rw [f3 _ _ (by omega)]; exact this.2 i hi⟩
    · intro i hi
      rw [upI_ne _ _ (Or.inl (by omega)), e2 _ _ (by omega), d2 _ _ (by omega), c1 i hi, p3 _ _ (by omega)]
    · intro i hi
      rw [upI_ne _ _ (Or.inl (by omega)), e2 _ _ (by omega), d1 i hi, c2 _ _ (by omega), p3 _ _ (by omega)]
    · intro i hi
      rw [upI_ne _ _ (Or.inl (by omega)), e1 i hi, d2 _ _ (by omega), c2 _ _ (by omega), p3 _ _ (by omega)]
    · rw [upI_eq, e2 _ _ (by omega), d2 _ _ (by omega), c2 _ _ (by omega), p3 _ _ (by omega)]
    · intro p hp
      unfold cpL va_cpy
      rw [if_pos rfl, if_pos (by omega)]; congr 1; omega
    · intro b j h
      rw [f3 _ _ (by omega), p3 _ _ (by omega)]
    · intro b j h
      unfold cpL; rw [if_neg h]
  · rintro k ⟨c, J⟩ hk ⟨e1, w1, w2, f1⟩
    simp only at e1 w1 w2 f1
    subst e1
    have ik : inb (nI k) 6 = true := inb_nI hk (by decide)
    have ck : Int32.toNatClampNeg (nI k) = k := nI_clamp (by omega)
    have lt : nI k < (6 : Int32) := by rw [nl6]; exact (nI_ltI (by omega) (by omega)).mpr hk
    obtain ⟨l, hl, hc⟩ := hW k hk
    have hcJ : WC J (a1 + 9 + 4 * k) l := ⟨(f1 _ _ (by omega)).trans hc.1, fun i x hx => (f1 _ _ (by omega)).trans (hc.2 i x hx)⟩
    obtain ⟨J1, g1, g2, g3⟩ := likeW (N := N) (a0 := a0 + 9 + 4 * k) hl hcJ (by omega) hN
    obtain ⟨J2, k1, k2, k3, k4⟩ := likeB (a0 := a0 + 11 + 4 * k) (a1 := a1 + 11 + 4 * k) (I := J1) (by omega)
    refine ⟨(nI (k + 1), J2), ?_, rfl, fun w m hw hm h => ?_, fun w hw => ?_, f1.trans ((g3.mono (fun b j h => by unfold fc at h; omega)).trans (k4.mono (fun b j h => by omega)))⟩
    · show f_X5_becomeLike_b2 N a0 a1 (nI k) J = _
      unfold f_X5_becomeLike_b2
      rw [if_pos lt, if_pos ik, if_pos ik, if_pos ik, ck, hcJ.1, bnd1_some g1, if_pos ik, if_pos ik, bnd1_some k1, nI_1]
    · show WC J2 (a0 + 9 + 4 * w) m
      by_cases z : w = k
      · subst z
        have : m = l := WC_uniq hm hl h hc
        subst this
        exact ⟨by rw [k4 _ _ (by omega)]; exact g2.1, fun i x hx => by rw [k4 _ _ (by omega)]; exact g2.2 i x hx⟩
      · have := w1 w m (by omega) hm h
        exact ⟨by rw [k4 _ _ (by omega), g3 _ _ (by unfold fc; omega)]; exact this.1, fun i x hx => by rw [k4 _ _ (by omega), g3 _ _ (by unfold fc; omega)]; exact this.2 i x hx⟩
    · show J2 (a0 + 11 + 4 * w) 0 = _ ∧ ∀ i, i < 6 → J2 (a0 + 11 + 4 * w + 1) i = _
      by_cases z : w = k
      · subst z
        refine ⟨by rw [k2, g3 _ _ (by unfold fc; omega), f1 _ _ (by omega)], fun i hi => by rw [k3 i hi, g3 _ _ (by unfold fc; omega), f1 _ _ (by omega)]⟩
      · have := w2 w (by omega)
        exact ⟨by rw [k4 _ _ (by omega), g3 _ _ (by unfold fc; omega)]; exact this.1, fun i hi => by rw [k4 _ _ (by omega), g3 _ _ (by unfold fc; omega)]; exact this.2 i hi⟩
  · rintro ⟨c, J⟩ ⟨e1, w1, w2, f1⟩
    simp only at e1 w1 w2 f1
    subst e1
    refine ⟨J, ?_, w1, w2, f1⟩
    show f_X5_becomeLike_b2 N a0 a1 (nI 6) J = _
    unfold f_X5_becomeLike_b2
    rw [if_neg (by decide)]
