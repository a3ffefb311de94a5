/-! ===== times: its ends ===== -/
theorem tin_row {N i : Nat} {x : Int32} {L : ML} {G : Nat → Nat → Int64} {e : Nat → Nat → Int64} (hi : i < 14) (hG : ∀ a b, a < 13 → b < 13 → L 102 (13 * a + b) = G a b) (he : ∀ a b, a < 14 → b < 14 → L 125 (14 * a + b) = if a < i then ext G a b else e a b) (hN : 20 ≤ N) : ∃ K, f_X11_times_l19 N x (nI i) 0 L = some K ∧ (∀ a b, a < 14 → b < 14 → K 125 (14 * a + b) = if a < i + 1 then ext G a b else e a b) ∧ frL (fun b j => b = 125) L K := by
  refine loop_inv (f := fun s => f_X11_times_b19 N x (nI i) s.1 s.2) (fun k st => st.1 = nI k ∧ (∀ a b, a < 14 → b < 14 → st.2 125 (14 * a + b) = if a < i ∨ (a = i ∧ b < k) then ext G a b else e a b) ∧ frL (fun b j => b = 125) L st.2) _ 14 ?_ ?_ N 0 (0, L) (Nat.zero_le _) (by omega) ⟨nl0, fun a b ha hb => ?_, frL.rfl⟩
  · rintro k ⟨c, K⟩ hk ⟨e1, w2, f1⟩
    simp only at e1 w2 f1
    subst e1
    refine ⟨(nI (k + 1), upL K 125 (14 * i + k) (ext G i k)), ?_, rfl, fun a b ha hb => ?_, f1.trans (frL.up rfl)⟩
    · show f_X11_times_b19 N x (nI i) (nI k) K = _
      have l14 : nI k < (14 : Int32) := by rw [nl14]; exact (nI_ltI (by omega) (by omega)).mpr hk
      have li : nI i < (13 : Int32) ↔ i < 13 := by rw [nl13]; exact nI_ltI (by omega) (by omega)
      have lj : nI k < (13 : Int32) ↔ k < 13 := by rw [nl13]; exact nI_ltI (by omega) (by omega)
      have i14 : inb (nI (14 * i + k)) 196 = true := inb_nI (by omega) (by decide)
      unfold f_X11_times_b19
      rw [if_pos l14, m14, n13, if_pos i14, if_pos i14, nI_clamp (n := 14 * i + k) (by omega), nI_1]
      by_cases yi : i < 13
      · rw [if_pos (li.mpr yi)]
        by_cases yj : k < 13
        · rw [if_pos (lj.mpr yj), if_pos (inb_nI (by omega) (by decide)), nI_clamp (by omega), f1 102 _ (by omega), hG i k yi yj, ext_in yi yj]; rfl
        · rw [if_neg (fun q => yj (lj.mp q)), ext_out (by omega)]; rfl
      · rw [if_neg (fun q => yi (li.mp q)), ext_out (by omega)]; rfl
    · show upL K 125 (14 * i + k) (ext G i k) 125 (14 * a + b) = _
      rw [upL_at]
      by_cases z : 14 * a + b = 14 * i + k
      · have za : a = i := by omega
        have zb : b = k := by omega
        rw [if_pos z, if_pos (by omega), za, zb]
      · rw [if_neg z, w2 a b ha hb]
        have c1 : (a < i ∨ (a = i ∧ b < k)) ↔ (a < i ∨ (a = i ∧ b < k + 1)) := by omega
        simp only [c1]
  · rintro ⟨c, K⟩ ⟨e1, w2, f1⟩
    simp only at e1 w2 f1
    subst e1
    refine ⟨K, ?_, fun a b ha hb => ?_, f1⟩
    · show f_X11_times_b19 N x (nI i) (nI 14) K = _
      unfold f_X11_times_b19
      rw [if_neg (by decide)]
    · rw [w2 a b ha hb]
      have c1 : (a < i ∨ (a = i ∧ b < 14)) ↔ (a < i + 1) := by omega
      simp only [c1]
  · show L 125 (14 * a + b) = _
    rw [he a b ha hb]
    have c1 : (a < i) ↔ (a < i ∨ (a = i ∧ b < 0)) := by omega
    simp only [← c1]
theorem tin {N : Nat} {x : Int32} {L : ML} {G : Nat → Nat → Int64} (hG : ∀ a b, a < 13 → b < 13 → L 102 (13 * a + b) = G a b) (hN : 20 ≤ N) : ∃ K, f_X11_times_l11 N x 0 L = some K ∧ (∀ a b, a < 14 → b < 14 → K 125 (14 * a + b) = ext G a b) ∧ frL (fun b j => b = 125) L K := by
  refine loop_inv (f := fun s => f_X11_times_b11 N x s.1 s.2) (fun k st => st.1 = nI k ∧ (∀ a b, a < 14 → b < 14 → st.2 125 (14 * a + b) = if a < k then ext G a b else L 125 (14 * a + b)) ∧ frL (fun b j => b = 125) L st.2) _ 14 ?_ ?_ N 0 (0, L) (Nat.zero_le _) (by omega) ⟨nl0, fun a b ha hb => by rw [if_neg (by omega)], frL.rfl⟩
  · rintro k ⟨c, K⟩ hk ⟨e1, w2, f1⟩
    simp only at e1 w2 f1
    subst e1
    obtain ⟨K', g1, g2, g3⟩ := tin_row (N := N) (x := x) (L := K) (G := G) (e := fun a b => L 125 (14 * a + b)) hk (fun a b ha hb => (f1 102 _ (by omega)).trans (hG a b ha hb)) w2 hN
    refine ⟨(nI (k + 1), K'), ?_, rfl, g2, f1.trans g3⟩
    show f_X11_times_b11 N x (nI k) K = _
    unfold f_X11_times_b11
    rw [nl14, if_pos ((nI_ltI (by omega) (by omega)).mpr hk), bnd1_some g1, nI_1]
  · rintro ⟨c, K⟩ ⟨e1, w2, f1⟩
    simp only at e1 w2 f1
    subst e1
    refine ⟨K, ?_, fun a b ha hb => ?_, f1⟩
    · show f_X11_times_b11 N x (nI 14) K = _
      unfold f_X11_times_b11
      rw [if_neg (by decide)]
    · rw [w2 a b ha hb, if_pos ha]
theorem tout_row {N i : Nat} {L : ML} {G : Nat → Nat → Int64} {e : Nat → Nat → Int64} (hi : i < 13) (hG : ∀ a b, a < 13 → b < 13 → L 125 (14 * a + b) = G a b) (he : ∀ a b, a < 13 → b < 13 → L 102 (13 * a + b) = if a < i then G a b else e a b) (hN : 20 ≤ N) : ∃ K, f_X11_times_l124 N (nI i) 0 L = some K ∧ (∀ a b, a < 13 → b < 13 → K 102 (13 * a + b) = if a < i + 1 then G a b else e a b) ∧ frL (fun b j => b = 102) L K := by
  refine loop_inv (f := fun s => f_X11_times_b124 N (nI i) s.1 s.2) (fun k st => st.1 = nI k ∧ (∀ a b, a < 13 → b < 13 → st.2 102 (13 * a + b) = if a < i ∨ (a = i ∧ b < k) then G a b else e a b) ∧ frL (fun b j => b = 102) L st.2) _ 13 ?_ ?_ N 0 (0, L) (Nat.zero_le _) (by omega) ⟨nl0, fun a b ha hb => ?_, frL.rfl⟩
  · rintro k ⟨c, K⟩ hk ⟨e1, w2, f1⟩
    simp only at e1 w2 f1
    subst e1
    refine ⟨(nI (k + 1), upL K 102 (13 * i + k) (G i k)), ?_, rfl, fun a b ha hb => ?_, f1.trans (frL.up rfl)⟩
    · show f_X11_times_b124 N (nI i) (nI k) K = _
      have l13 : nI k < (13 : Int32) := by rw [nl13]; exact (nI_ltI (by omega) (by omega)).mpr hk
      unfold f_X11_times_b124
      rw [if_pos l13, m14, n13, if_pos (inb_nI (by omega) (by decide)), if_pos (inb_nI (by omega) (by decide)), nI_clamp (by omega), nI_clamp (by omega), nI_1, f1 125 _ (by omega), hG i k hi hk]; rfl
    · show upL K 102 (13 * i + k) (G i k) 102 (13 * a + b) = _
      rw [upL_at]
      by_cases z : 13 * a + b = 13 * i + k
      · have za : a = i := by omega
        have zb : b = k := by omega
        rw [if_pos z, if_pos (by omega), za, zb]
      · rw [if_neg z, w2 a b ha hb]
        have c1 : (a < i ∨ (a = i ∧ b < k)) ↔ (a < i ∨ (a = i ∧ b < k + 1)) := by omega
        simp only [c1]
  · rintro ⟨c, K⟩ ⟨e1, w2, f1⟩
    simp only at e1 w2 f1
    subst e1
    refine ⟨K, ?_, fun a b ha hb => ?_, f1⟩
    · show f_X11_times_b124 N (nI i) (nI 13) K = _
      unfold f_X11_times_b124
      rw [if_neg (by decide)]
    · rw [w2 a b ha hb]
      have c1 : (a < i ∨ (a = i ∧ b < 13)) ↔ (a < i + 1) := by omega
      simp only [c1]
  · show L 102 (13 * a + b) = _
    rw [he a b ha hb]
    have c1 : (a < i) ↔ (a < i ∨ (a = i ∧ b < 0)) := by omega
    simp only [← c1]
theorem tout {N : Nat} {L : ML} {G : Nat → Nat → Int64} (hG : ∀ a b, a < 13 → b < 13 → L 125 (14 * a + b) = G a b) (hN : 20 ≤ N) : ∃ K, f_X11_times_l116 N 0 L = some K ∧ (∀ a b, a < 13 → b < 13 → K 102 (13 * a + b) = G a b) ∧ frL (fun b j => b = 102) L K := by
  refine loop_inv (f := fun s => f_X11_times_b116 N s.1 s.2) (fun k st => st.1 = nI k ∧ (∀ a b, a < 13 → b < 13 → st.2 102 (13 * a + b) = if a < k then G a b else L 102 (13 * a + b)) ∧ frL (fun b j => b = 102) L st.2) _ 13 ?_ ?_ N 0 (0, L) (Nat.zero_le _) (by omega) ⟨nl0, fun a b ha hb => by rw [if_neg (by omega)], frL.rfl⟩
  · rintro k ⟨c, K⟩ hk ⟨e1, w2, f1⟩
    simp only at e1 w2 f1
    subst e1
    obtain ⟨K', g1, g2, g3⟩ := tout_row (N := N) (L := K) (G := G) (e := fun a b => L 102 (13 * a + b)) hk (fun a b ha hb => (f1 125 _ (by omega)).trans (hG a b ha hb)) w2 hN
    refine ⟨(nI (k + 1), K'), ?_, rfl, g2, f1.trans g3⟩
    show f_X11_times_b116 N (nI k) K = _
    unfold f_X11_times_b116
    rw [nl13, if_pos ((nI_ltI (by omega) (by omega)).mpr hk), bnd1_some g1, nI_1]
  · rintro ⟨c, K⟩ ⟨e1, w2, f1⟩
    simp only at e1 w2 f1
    subst e1
    refine ⟨K, ?_, fun a b ha hb => ?_, f1⟩
    · show f_X11_times_b116 N (nI 13) K = _
      unfold f_X11_times_b116
      rw [if_neg (by decide)]
    · rw [w2 a b ha hb, if_pos ha]
section SS3
variable {PL : MX → MI → ML → Prop} {PA : MI → Prop} {N : Nat}
theorem s_times (hPL : frPL PL) (hPA : frPA PA) (hN : 1000 ≤ N) : S_times N (Inv0 PL PA) := by
  intro X I L x1 hI
  rcases six_cases x1 with ⟨w, hw, rfl, e1, e2⟩ | ⟨e1, e2⟩
  · have iw : inb (nI w) 6 = true := inb_nI hw (by decide)
    have cw : Int32.toNatClampNeg (nI w) = w := nI_clamp (by omega)
    obtain ⟨l, hl, hb, hc, hm⟩ := hI.w hw
    have hs := hI.s
    obtain ⟨L1, a1, a2, a3⟩ := begin_spec L
    have hG : ∀ a b, a < 13 → b < 13 → L1 5 (13 * a + b) = (fun a b => L 4 (13 * a + b)) a b := fun a b ha hb => a2 _ (by omega)
    obtain ⟨r, b1, b2⟩ := mulC (N := N) hc hl hG (by omega)
    have hsb : ∀ a b, a < 13 → b < 13 → SB ((fun a b => L 4 (13 * a + b)) a b) := fun a b ha hb => (hs _ (by omega)).2
    have ref : ∀ M : ML, (∀ p, p < 169 → M 102 p = L 102 p) → ∃ r, (bnd1 (f_X11_times_l11 N (nI w) 0 M) fun L17 => f_X11_times_l77 N (nI w) 0 I L17) = some r ∧ (∃ K1, f_X11_times_l11 N (nI w) 0 M = some K1) ∧ ((∃ K, r = .inl K ∧ mOK l (fun a b => L 4 (13 * a + b)) ∧ (∀ a b, a < 13 → b < 13 → SB (mN l (fun a b => L 4 (13 * a + b)) a b)) ∧ (∀ a b, a < 13 → b < 13 → K 125 (14 * a + b) = mN l (fun a b => L 4 (13 * a + b)) a b) ∧ frL (fun b j => b = 125 ∨ b = 126) M K) ∨ (∃ K, r = .inr (-6, K) ∧ ¬ mOK l (fun a b => L 4 (13 * a + b)) ∧ frL (fun b j => b = 125 ∨ b = 126) M K)) := by
      intro M hM
      obtain ⟨K1, c1, c2, c3⟩ := tin (N := N) (x := nI w) (L := M) (G := fun a b => L 4 (13 * a + b)) (fun a b ha hb => by rw [hM _ (by omega), (hs _ (by omega)).1]) (by omega)
      obtain ⟨q, d1, d2⟩ := mulM (N := N) (L := K1) hw hm hl hb hsb c2 hN
      refine ⟨q, by rw [bnd1_some c1, d1], ⟨K1, c1⟩, ?_⟩
      have c3' : frL (fun b j => b = 125 ∨ b = 126) M K1 := c3.mono (fun b j h => Or.inl h)
      rcases d2 with ⟨K, rfl, g1, g2, g3, g4⟩ | ⟨K, rfl, g1, g4⟩
      · exact Or.inl ⟨K, rfl, g1, g2, g3, c3'.trans g4⟩
      · exact Or.inr ⟨K, rfl, g1, c3'.trans g4⟩
    have refU : ∀ (M : ML) q, (bnd1 (f_X11_times_l11 N (nI w) 0 M) fun L17 => f_X11_times_l77 N (nI w) 0 I L17) = some q → (∃ K1, f_X11_times_l11 N (nI w) 0 M = some K1) → f_X11_times N (nI w) I M = bns1 (some q) (fun L26 => bnd1 (f_X11_times_l116 N 0 L26) fun L35 => bnd1 (f_X11_numbersMany N L35) fun r37 => some (r37, L35)) (fun q39 => some q39) := by
      rintro M q h ⟨K1, h1⟩
      rw [bnd1_some h1] at h
      unfold f_X11_times
      rw [bnd1_some e2, if_neg (by decide), bnd1_some h1, h]
    have tk : ∀ r', f_X6_multiply N 3 (10 + 4 * w) I L = some r' → f_X10_times N (nI w) I L = (if r'.1 = 0 then some ((-6), r'.2) else bnd1 (f_X6_notZero N 3 r'.2) fun r9 => some (r9, r'.2)) := by
      intro r' h'
      unfold f_X10_times
      rw [bnd1_some e1, if_neg (by decide), if_pos iw, cw]
      exact bnd2_some (a := r'.1) (b := r'.2) h'
    have tu : f_X6_multiply N 3 (10 + 4 * w) I L = bns1 (some r) (fun L14 => bnd1 (f_X6_settle 3 L14) fun L16 => some (1, L16)) (fun q18 => some q18) := by
      unfold f_X6_multiply
      rw [bnd1_some a1, b1]
    rcases b2 with ⟨K, rfl, ok, ct, fK⟩ | ⟨K, rfl, nok, fK⟩
    · obtain ⟨L3, d1, d2, d3⟩ := settle_spec K
      obtain ⟨q, r1, r2, r3⟩ := ref L3 (fun p hp => by rw [d3 102 p (by omega), fK 102 p (by omega), a3 102 p (by omega)])
      rcases r3 with ⟨Q, rfl, _, g2, g3, g4⟩ | ⟨Q, rfl, bad, _⟩
      · obtain ⟨M2, o1, o2, o3⟩ := tout (N := N) g3 (by omega)
        have heq : ∀ p, p < 169 → L3 4 p = M2 102 p := fun p hp => by
          have e : p = 13 * (p / 13) + p % 13 := by omega
          rw [d2 p hp, e, ct _ _ (by omega) (by omega), o2 _ _ (by omega) (by omega)]
        obtain ⟨z, z1, z2⟩ := many_both (N := N) heq hN
        refine ⟨z, L3, M2, ?_, ?_, inv_sum hPL hPA hI ?_ (fun p hp => ?_)⟩
        · have : f_X6_multiply N 3 (10 + 4 * w) I L = some (1, L3) := by rw [tu, bns1_inl rfl, bnd1_some d1]
          rw [tk _ this, if_neg (by show ¬ (1 : Int32) = 0; decide)]
          exact bnd1_some z1
        · rw [refU L3 _ r1 r2, bns1_inl rfl, bnd1_some o1, bnd1_some z2]
        · exact ((a3.mono (S' := fun b j => scrL b j ∨ sS b j) (fun b j h => by unfold scrL; omega)).trans ((fK.mono (fun b j h => by unfold scrL; omega)).trans ((d3.mono (fun b j h => by unfold sS; omega)).trans ((g4.mono (fun b j h => by unfold scrL; omega)).trans (o3.mono (fun b j h => by unfold sS; omega))))))
        · have e4 : M2 4 p = L3 4 p := by rw [o3 4 p (by omega), g4 4 p (by omega)]
          rw [e4]
          refine ⟨heq p hp, ?_⟩
          have e : p = 13 * (p / 13) + p % 13 := by omega
          rw [d2 p hp, e, ct _ _ (by omega) (by omega)]
          exact g2 _ _ (by omega) (by omega)
      · exact absurd ok bad
    · obtain ⟨q, r1, r2, r3⟩ := ref K (fun p hp => by rw [fK 102 p (by omega), a3 102 p (by omega)])
      rcases r3 with ⟨Q, rfl, good, _⟩ | ⟨Q, rfl, _, g4⟩
      · exact absurd good nok
      · refine ⟨-6, K, Q, ?_, ?_, inv_scr hPL hPA hI fr.rfl ((a3.mono (S' := scrL) (fun b j h => by unfold scrL; omega)).trans ((fK.mono (fun b j h => by unfold scrL; omega)).trans (g4.mono (fun b j h => by unfold scrL; omega))))⟩
        · have : f_X6_multiply N 3 (10 + 4 * w) I L = some (0, K) := by rw [tu, bns1_inr rfl]
          rw [tk _ this, if_pos rfl]
        · rw [refU K _ r1 r2, bns1_inr rfl]
  · refine ⟨-1, L, L, ?_, ?_, hI⟩
    · unfold f_X10_times; rw [bnd1_some e1, if_pos rfl]
    · unfold f_X11_times; rw [bnd1_some e2, if_pos rfl]
end SS3
