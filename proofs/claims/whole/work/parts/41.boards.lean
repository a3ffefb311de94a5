/-! ===== boards: row, other, flipped ===== -/
theorem place_in {n : Nat} (v : Int32) (n1 : 1 ≤ n) (n6 : n ≤ 6) : (∃ i, i < n ∧ v = nI i ∧ f_X11_in (Int32.toInt64 v) 0 (Int32.toInt64 (nI n - 1)) = some 1) ∨ ((v < 0 ∨ ¬ v < nI n) ∧ f_X11_in (Int32.toInt64 v) 0 (Int32.toInt64 (nI n - 1)) = some 0) := by
  have e : nI n - 1 = nI (n - 1) := by rw [nl1, nI_sub n1]
  rw [e]
  rcases rng_cases v (n - 1) (by omega) (hi := Int32.toInt64 (nI (n - 1))) (by rw [Int32.toInt_toInt64, nI_toInt (by omega)]) with ⟨k, hk, rfl, h⟩ | ⟨h, h'⟩
  · exact Or.inl ⟨k, by omega, rfl, h⟩
  · refine Or.inr ⟨?_, h'⟩
    rcases h with h | h
    · exact Or.inl h
    · right
      rw [Int32.lt_iff_toInt_lt, nI_toInt (by omega)] at h ⊢
      omega
section BS2
variable {PL : MX → MI → ML → Prop} {PA : MI → Prop} {N : Nat} {X : MX} {I I' : MI} {L : ML}
theorem s_row : S_row N (Inv0 PL PA) := by
  intro X I L x1 x2 hI
  rcases six_cases x1 with ⟨w, hw, rfl, e1, e2⟩ | ⟨e1, e2⟩
  · have iw : inb (nI w) 6 = true := inb_nI hw (by decide)
    have cw : Int32.toNatClampNeg (nI w) = w := nI_clamp (by omega)
    obtain ⟨n, r, n1, n6, hr, hc, hm⟩ := hI.b hw
    rcases place_in x2 n1 n6 with ⟨i, hi, rfl, h⟩ | ⟨h, h'⟩
    · refine ⟨nI (r i), ?_, ?_, hI⟩
      · unfold f_X10_row f_X0_isPlace
        have l0 : (0 : Int32) < nI n := by rw [nl0]; exact (nI_ltI (by omega) (by omega)).mpr (by omega)
        rw [bnd1_some e1, if_neg (by decide), if_pos iw, cw, hc.1, if_neg (nI_pos (by omega)), if_pos ((nI_ltI (by omega) (by omega)).mpr hi), if_neg (by decide), if_pos l0, bnd1_some rfl, if_neg (by decide), if_pos iw, if_pos (inb_nI (by omega) (by decide)), nI_clamp (by omega), hc.2 i hi]
      · unfold f_X11_row
        rw [bnd1_some e2, if_neg (by decide), if_pos iw, cw, hm.1, bnd1_some h, if_neg (by decide), m6, if_pos (inb_nI (by omega) (by decide)), nI_clamp (by omega), hm.2 i hi]
    · refine ⟨-1, ?_, ?_, hI⟩
      · unfold f_X10_row f_X0_isPlace
        rw [bnd1_some e1, if_neg (by decide), if_pos iw, cw, hc.1]
        by_cases q : x2 < 0
        · rw [if_pos q, bnd1_some rfl, if_pos rfl]
        · rw [if_neg q, if_neg (h.resolve_left q), bnd1_some rfl, if_pos rfl]
      · unfold f_X11_row
        rw [bnd1_some e2, if_neg (by decide), if_pos iw, cw, hm.1, bnd1_some h', if_pos rfl]
  · refine ⟨-1, ?_, ?_, hI⟩
    · unfold f_X10_row; rw [bnd1_some e1, if_pos rfl]
    · unfold f_X11_row; rw [bnd1_some e2, if_pos rfl]
/-- a BOARD of the same SIDE with other rows -/
theorem become (hPL : frPL PL) (hPA : frPA PA) (hN : 20 ≤ N) (hI : Inv0 PL PA X I L) {w : Nat} (hw : w < 6) {n : Nat} {r r' : Nat → Nat} (n1 : 1 ≤ n) (n6 : n ≤ 6) (hr' : ∀ i, i < n → r' i < 2 ^ n) (hc : BC I (12 + 4 * w) n r) (hm : BM I 103 104 w n r) {F G : MI → Option MI}
    (hF : ∃ J, F I = some J ∧ (∀ i, i < n → J (13 + 4 * w) i = nI (r' i)) ∧ fr (fun b j => b = 13 + 4 * w) I J)
    (hG : ∀ M, BM M 103 104 w n r → ∃ K, G M = some K ∧ (∀ i, i < n → K 104 (6 * w + i) = nI (r' i)) ∧ fr (fun b j => b = 128 ∨ (b = 104 ∧ 6 * w ≤ j ∧ j < 6 * w + 6)) M K) : ∃ (c : Int32) (J K : MI), upI J 67 4 0 103 w = nI n ∧ F I = some J ∧ f_X0_cells N (12 + 4 * w) (upI J 67 4 0) = some c ∧ G (upI J 67 4 0) = some K ∧ f_X11_cells N (nI w) (upI K 99 9 0) = some c ∧ Inv0 PL PA X (upI K 99 9 0) L := by
  obtain ⟨J, j1, j2, j3⟩ := hF
  have t6 := two_le n6
  have hmJ : BM (upI J 67 4 0) 103 104 w n r := ⟨by rw [upI_ne _ _ (Or.inl (by omega)), j3 _ _ (by omega), hm.1], fun i hi => by rw [upI_ne _ _ (Or.inl (by omega)), j3 _ _ (by omega), hm.2 i hi]⟩
  obtain ⟨K, k1, k2, k3⟩ := hG _ hmJ
  have hc2 : BC (upI J 67 4 0) (12 + 4 * w) n r' := ⟨by rw [upI_ne _ _ (Or.inl (by omega)), j3 _ _ (by omega), hc.1], fun i hi => by rw [upI_ne _ _ (Or.inl (by omega)), show 12 + 4 * w + 1 = 13 + 4 * w by omega, j2 i hi]⟩
  have hm2 : BM (upI K 99 9 0) 103 104 w n r' := ⟨by rw [upI_ne _ _ (Or.inl (by omega)), k3 _ _ (by omega), hmJ.1], fun i hi => by rw [upI_ne _ _ (Or.inl (by omega)), k2 i hi]⟩
  refine ⟨nI (cs r' n), J, K, hmJ.1, j1, cellsC hc2 n6 (fun i hi => by have := hr' i hi; omega) hN, k1, cellsM hw hm2 n6 (fun i hi => by have := hr' i hi; omega) hN, inv_board hPL hPA hI hw ((j3.mono (S' := fun b j => scr b j ∨ sB w b j) (fun b j h => by unfold sB; omega)).trans ((fr.up (by unfold sB; omega)).trans ((k3.mono (fun b j h => by unfold scr sB; omega)).trans (fr.up (by unfold sB; omega))))) ⟨n, r', n1, n6, hr', ⟨?_, fun i hi => ?_⟩, hm2⟩ ?_ (upI_eq _ _ _ _)⟩
  · rw [upI_ne _ _ (Or.inl (by omega)), k3 _ _ (by omega)]; exact hc2.1
  · rw [upI_ne _ _ (Or.inl (by omega)), k3 _ _ (by omega)]; exact hc2.2 i hi
  · rw [upI_ne _ _ (Or.inl (by omega)), k3 _ _ (by omega), upI_eq]
theorem fullm : ∀ n, n < 7 → jshl 1 (nI n) - 1 = nI (2 ^ n - 1) := by decide +kernel
theorem s_other (hPL : frPL PL) (hPA : frPA PA) (hN : 20 ≤ N) : S_other N (Inv0 PL PA) := by
  intro X I L x1 hI
  rcases six_cases x1 with ⟨w, hw, rfl, e1, e2⟩ | ⟨e1, e2⟩
  · have iw : inb (nI w) 6 = true := inb_nI hw (by decide)
    have cw : Int32.toNatClampNeg (nI w) = w := nI_clamp (by omega)
    obtain ⟨n, r, n1, n6, hr, hc, hm⟩ := hI.b hw
    have p1 : 1 ≤ 2 ^ n := Nat.two_pow_pos n
    obtain ⟨cc, J, K, e103, a1, a2, a3, a4, a5⟩ := become (N := N) hPL hPA hN hI hw (r' := fun i => r i ^^^ (2 ^ n - 1)) n1 n6 (fun i hi => Nat.xor_lt_two_pow (hr i hi) (by omega)) hc hm (F := f_X0_becomeOther N (12 + 4 * w)) (G := f_X11_other_l11 N (nI w) 0) (by
      have key := loop_inv (f := fun s : Int32 × MI => f_X0_becomeOther_b2 N (12 + 4 * w) s.1 s.2) (fun k st => st.1 = nI k ∧ (∀ i, i < n → st.2 (13 + 4 * w) i = nI (if i < k then r i ^^^ (2 ^ n - 1) else r i)) ∧ fr (fun b j => b = 13 + 4 * w) I st.2) (fun J => (∀ i, i < n → J (13 + 4 * w) i = nI (r i ^^^ (2 ^ n - 1))) ∧ fr (fun b j => b = 13 + 4 * w) I J) n ?_ ?_ N 0 (nI 0, I) (Nat.zero_le _) (by omega) ⟨rfl, fun i hi => by rw [if_neg (by omega)]; exact (show I (13 + 4 * w) i = nI (r i) by rw [show 13 + 4 * w = 12 + 4 * w + 1 by omega]; exact hc.2 i hi), fr.rfl⟩
      · obtain ⟨J, e, q1, q2⟩ := key
        refine ⟨J, ?_, q1, q2⟩
        unfold f_X0_becomeOther f_X0_becomeOther_l2
        rw [nl0]
        exact bnd1_some e
      · rintro k ⟨c, J⟩ hk ⟨e1, w1, f1⟩
        simp only at e1 w1 f1
        subst e1
        have wk := w1 k hk
        rw [if_neg (by omega)] at wk
        refine ⟨(nI (k + 1), upI J (13 + 4 * w) k (nI (r k ^^^ (2 ^ n - 1)))), ?_, rfl, fun i hi => ?_, f1.trans (fr.up rfl)⟩
        · show f_X0_becomeOther_b2 N (12 + 4 * w) (nI k) J = _
          unfold f_X0_becomeOther_b2
          rw [show 12 + 4 * w + 1 = 13 + 4 * w by omega, f1 (12 + 4 * w) 0 (by omega), hc.1, if_pos ((nI_ltI (by omega) (by omega)).mpr hk), if_pos (inb_nI (by omega) (by decide)), if_pos (inb_nI (by omega) (by decide)), nI_clamp (by omega), wk, fullm n (by omega), nI_xor, nI_1]; rfl
        · show upI J (13 + 4 * w) k _ (13 + 4 * w) i = _
          rw [upI_at]
          by_cases q : i = k
          · rw [if_pos q, if_pos (by omega), q]
          · rw [if_neg q, w1 i hi]
            have c1 : i < k ↔ i < k + 1 := by omega
            simp only [c1]
      · rintro ⟨c, J⟩ ⟨e1, w1, f1⟩
        simp only at e1 w1 f1
        subst e1
        refine ⟨J, ?_, fun i hi => by rw [w1 i hi, if_pos hi], f1⟩
        show f_X0_becomeOther_b2 N (12 + 4 * w) (nI n) J = _
        unfold f_X0_becomeOther_b2
        rw [f1 (12 + 4 * w) 0 (by omega), hc.1, if_neg (nI_le0 (by omega) (Nat.le_refl _))]) (by
      intro M hmM
      have key := loop_inv (f := fun s : Int32 × MI => f_X11_other_b11 N (nI w) s.1 s.2) (fun k st => st.1 = nI k ∧ (∀ i, i < n → st.2 104 (6 * w + i) = nI (if i < k then r i ^^^ (2 ^ n - 1) else r i)) ∧ fr (fun b j => b = 128 ∨ (b = 104 ∧ 6 * w ≤ j ∧ j < 6 * w + 6)) M st.2) (fun J => (∀ i, i < n → J 104 (6 * w + i) = nI (r i ^^^ (2 ^ n - 1))) ∧ fr (fun b j => b = 128 ∨ (b = 104 ∧ 6 * w ≤ j ∧ j < 6 * w + 6)) M J) n ?_ ?_ N 0 (nI 0, M) (Nat.zero_le _) (by omega) ⟨rfl, fun i hi => by rw [if_neg (by omega)]; exact hmM.2 i hi, fr.rfl⟩
      · exact key
      · rintro k ⟨c, J⟩ hk ⟨e1, w1, f1⟩
        simp only at e1 w1 f1
        subst e1
        have wk := w1 k hk
        rw [if_neg (by omega)] at wk
        refine ⟨(nI (k + 1), upI J 104 (6 * w + k) (nI (r k ^^^ (2 ^ n - 1)))), ?_, rfl, fun i hi => ?_, f1.trans (fr.up (Or.inr ⟨rfl, by omega, by omega⟩))⟩
        · show f_X11_other_b11 N (nI w) (nI k) J = _
          unfold f_X11_other_b11
          rw [if_pos iw, cw, f1 103 w (by omega), hmM.1, if_pos ((nI_ltI (by omega) (by omega)).mpr hk), m6, if_pos (inb_nI (by omega) (by decide)), if_pos iw, if_pos (inb_nI (by omega) (by decide)), nI_clamp (by omega), wk, fullm n (by omega), nI_xor, nI_1]; rfl
        · show upI J 104 (6 * w + k) _ 104 (6 * w + i) = _
          rw [upI_at]
          by_cases q : i = k
          · rw [if_pos (by omega), if_pos (by omega), q]
          · rw [if_neg (by omega), w1 i hi]
            have c1 : i < k ↔ i < k + 1 := by omega
            simp only [c1]
      · rintro ⟨c, J⟩ ⟨e1, w1, f1⟩
        simp only at e1 w1 f1
        subst e1
        refine ⟨J, ?_, fun i hi => by rw [w1 i hi, if_pos hi], f1⟩
        show f_X11_other_b11 N (nI w) (nI n) J = _
        unfold f_X11_other_b11
        rw [if_pos iw, cw, f1 103 w (by omega), hmM.1, if_neg (nI_le0 (by omega) (Nat.le_refl _))])
    refine ⟨cc, upI J 67 4 0, upI K 99 9 0, ?_, ?_, a5⟩
    · unfold f_X10_other
      rw [bnd1_some e1, if_neg (by decide), if_pos iw, cw, bnd1_some a1]
      show bnd1 (f_X1_forget J) _ = _
      rw [bnd1_some (show f_X1_forget J = some (upI J 67 4 0) from rfl), bnd1_some a2]
    · unfold f_X11_other
      rw [bnd1_some e2, if_neg (by decide), bnd1_some a3]
      simp only [letv]
      rw [bnd1_some a4]
  · refine ⟨-1, I, I, ?_, ?_, hI⟩
    · unfold f_X10_other; rw [bnd1_some e1, if_pos rfl]
    · unfold f_X11_other; rw [bnd1_some e2, if_pos rfl]
theorem s_flipped (hPL : frPL PL) (hPA : frPA PA) (hN : 20 ≤ N) : S_flipped N (Inv0 PL PA) := by
  intro X I L x1 hI
  rcases six_cases x1 with ⟨w, hw, rfl, e1, e2⟩ | ⟨e1, e2⟩
  · have iw : inb (nI w) 6 = true := inb_nI hw (by decide)
    have cw : Int32.toNatClampNeg (nI w) = w := nI_clamp (by omega)
    obtain ⟨n, r, n1, n6, hr, hc, hm⟩ := hI.b hw
    obtain ⟨cc, J, K, e103, a1, a2, a3, a4, a5⟩ := become (N := N) hPL hPA hN hI hw (r' := fun i => r (n - 1 - i)) n1 n6 (fun i hi => hr _ (by omega)) hc hm (F := f_X0_becomeFlipped N (12 + 4 * w)) (G := f_X11_flipped_l18 N (nI w) (nI n) 0) (by
      have key := loop_inv (f := fun s : Int32 × Int32 × MI => f_X0_becomeFlipped_b9 N (12 + 4 * w) s.1 s.2.1 s.2.2) (fun k st => st.1 = nI k ∧ st.2.1 = nI (n - 1 - k) ∧ (∀ i, i < n → st.2.2 (13 + 4 * w) i = nI (if i < k ∨ n - k ≤ i then r (n - 1 - i) else r i)) ∧ fr (fun b j => b = 13 + 4 * w) I st.2.2) (fun J => (∀ i, i < n → J (13 + 4 * w) i = nI (r (n - 1 - i))) ∧ fr (fun b j => b = 13 + 4 * w) I J) (n / 2) ?_ ?_ N 0 (nI 0, nI (n - 1), I) (Nat.zero_le _) (by omega) ⟨rfl, rfl, fun i hi => by rw [if_neg (by omega)]; exact (show I (13 + 4 * w) i = nI (r i) by rw [show 13 + 4 * w = 12 + 4 * w + 1 by omega]; exact hc.2 i hi), fr.rfl⟩
      · obtain ⟨J, e, q1, q2⟩ := key
        refine ⟨J, ?_, q1, q2⟩
        unfold f_X0_becomeFlipped f_X0_becomeFlipped_l9
        rw [nl0, hc.1, nl1, nI_sub n1]
        exact bnd1_some e
      · rintro k ⟨c, d, J⟩ hk ⟨e1, e3, w1, f1⟩
        simp only at e1 e3 w1 f1
        subst e1; subst e3
        have wk := w1 k (by omega)
        have wj := w1 (n - 1 - k) (by omega)
        rw [if_neg (by omega)] at wk wj
        refine ⟨(nI (k + 1), nI (n - 1 - (k + 1)), upI (upI J (13 + 4 * w) k (nI (r (n - 1 - k)))) (13 + 4 * w) (n - 1 - k) (nI (r k))), ?_, rfl, rfl, fun i hi => ?_, f1.trans ((fr.up (S := fun b _ => b = 13 + 4 * w) rfl).trans (fr.up (S := fun b _ => b = 13 + 4 * w) rfl))⟩
        · show f_X0_becomeFlipped_b9 N (12 + 4 * w) (nI k) (nI (n - 1 - k)) J = _
          have i1 : inb (nI k) 6 = true := inb_nI (by omega) (by decide)
          have i2 : inb (nI (n - 1 - k)) 6 = true := inb_nI (by omega) (by decide)
          have em : nI (n - 1 - k) + -1 = nI (n - 1 - (k + 1)) := by rw [← Int32.sub_eq_add_neg, nl1, nI_sub (by omega)]; congr 1
          unfold f_X0_becomeFlipped_b9
          rw [show 12 + 4 * w + 1 = 13 + 4 * w by omega, if_pos ((nI_ltI (by omega) (by omega)).mpr (by omega)), if_pos i1, nI_clamp (by omega), wk]
          simp only [letv]
          rw [if_pos i2, if_pos i1, if_pos i2, nI_clamp (by omega), wj, em, nI_1]
        · show upI (upI J (13 + 4 * w) k _) (13 + 4 * w) (n - 1 - k) _ (13 + 4 * w) i = _
          rw [upI_at, upI_at]
          by_cases q : i = n - 1 - k
          · rw [if_pos q, if_pos (by omega), q]; congr 2; omega
          · rw [if_neg q]
            by_cases q2 : i = k
            · rw [if_pos q2, if_pos (by omega), q2]
            · rw [if_neg q2, w1 i hi]
              have c1 : (i < k ∨ n - k ≤ i) ↔ (i < k + 1 ∨ n - (k + 1) ≤ i) := by omega
              simp only [c1]
      · rintro ⟨c, d, J⟩ ⟨e1, e3, w1, f1⟩
        simp only at e1 e3 w1 f1
        subst e1; subst e3
        refine ⟨J, ?_, fun i hi => ?_, f1⟩
        · show f_X0_becomeFlipped_b9 N (12 + 4 * w) (nI (n / 2)) (nI (n - 1 - n / 2)) J = _
          unfold f_X0_becomeFlipped_b9
          rw [if_neg (nI_le0 (by omega) (by omega))]
        · rw [w1 i hi]
          by_cases q : i < n / 2 ∨ n - n / 2 ≤ i
          · rw [if_pos q]
          · rw [if_neg q]; congr 2; omega) (by
      intro M hmM
      have key := loop_inv (f := fun s : Int32 × MI => f_X11_flipped_b18 N (nI w) (nI n) s.1 s.2) (fun k st => st.1 = nI k ∧ (∀ i, i < n → st.2 104 (6 * w + i) = nI (if i < k ∨ n - k ≤ i then r (n - 1 - i) else r i)) ∧ fr (fun b j => b = 128 ∨ (b = 104 ∧ 6 * w ≤ j ∧ j < 6 * w + 6)) M st.2) (fun J => (∀ i, i < n → J 104 (6 * w + i) = nI (r (n - 1 - i))) ∧ fr (fun b j => b = 128 ∨ (b = 104 ∧ 6 * w ≤ j ∧ j < 6 * w + 6)) M J) (n / 2) ?_ ?_ N 0 (nI 0, M) (Nat.zero_le _) (by omega) ⟨rfl, fun i hi => by rw [if_neg (by omega)]; exact hmM.2 i hi, fr.rfl⟩
      · exact key
      · rintro k ⟨c, J⟩ hk ⟨e1, w1, f1⟩
        simp only at e1 w1 f1
        subst e1
        have wk := w1 k (by omega)
        have wj := w1 (n - 1 - k) (by omega)
        rw [if_neg (by omega)] at wk wj
        refine ⟨(nI (k + 1), upI (upI J 104 (6 * w + k) (nI (r (n - 1 - k)))) 104 (6 * w + (n - 1 - k)) (nI (r k))), ?_, rfl, fun i hi => ?_, f1.trans ((fr.up (Or.inr ⟨rfl, by omega, by omega⟩)).trans (fr.up (Or.inr ⟨rfl, by omega, by omega⟩)))⟩
        · show f_X11_flipped_b18 N (nI w) (nI n) (nI k) J = _
          have e5 : 6 * nI w + nI n - 1 - nI k = nI (6 * w + (n - 1 - k)) := by rw [m6, nl1, nI_sub (by omega), nI_sub (by omega)]; congr 1; omega
          have i1 : inb (nI (6 * w + k)) 36 = true := inb_nI (by omega) (by decide)
          have i2 : inb (nI (6 * w + (n - 1 - k))) 36 = true := inb_nI (by omega) (by decide)
          unfold f_X11_flipped_b18
          rw [e5, m6, nl2, nI_div (by omega) (by omega), if_pos ((nI_ltI (by omega) (by omega)).mpr hk), if_pos i1, nI_clamp (by omega), wk]
          simp only [letv]
          rw [if_pos i2, if_pos i1, if_pos i2, nI_clamp (by omega), wj, nI_1]
        · show upI (upI J 104 _ _) 104 _ _ 104 (6 * w + i) = _
          rw [upI_at, upI_at]
          by_cases q : i = n - 1 - k
          · rw [if_pos (by omega), if_pos (by omega), q]; congr 2; omega
          · rw [if_neg (by omega)]
            by_cases q2 : i = k
            · rw [if_pos (by omega), if_pos (by omega), q2]
            · rw [if_neg (by omega), w1 i hi]
              have c1 : (i < k ∨ n - k ≤ i) ↔ (i < k + 1 ∨ n - (k + 1) ≤ i) := by omega
              simp only [c1]
      · rintro ⟨c, J⟩ ⟨e1, w1, f1⟩
        simp only at e1 w1 f1
        subst e1
        refine ⟨J, ?_, fun i hi => ?_, f1⟩
        · show f_X11_flipped_b18 N (nI w) (nI n) (nI (n / 2)) J = _
          unfold f_X11_flipped_b18
          rw [nl2, nI_div (by omega) (by omega), if_neg (nI_le0 (by omega) (Nat.le_refl _))]
        · rw [w1 i hi]
          by_cases q : i < n / 2 ∨ n - n / 2 ≤ i
          · rw [if_pos q]
          · rw [if_neg q]; congr 2; omega)
    refine ⟨cc, upI J 67 4 0, upI K 99 9 0, ?_, ?_, a5⟩
    · unfold f_X10_flipped
      rw [bnd1_some e1, if_neg (by decide), if_pos iw, cw, bnd1_some a1]
      show bnd1 (f_X1_forget J) _ = _
      rw [bnd1_some (show f_X1_forget J = some (upI J 67 4 0) from rfl), bnd1_some a2]
    · unfold f_X11_flipped
      rw [bnd1_some e2, if_neg (by decide), if_pos iw, cw, e103, bnd1_some a3]
      simp only [letv]
      rw [bnd1_some a4]
  · refine ⟨-1, I, I, ?_, ?_, hI⟩
    · unfold f_X10_flipped; rw [bnd1_some e1, if_pos rfl]
    · unfold f_X11_flipped; rw [bnd1_some e2, if_pos rfl]
end BS2
