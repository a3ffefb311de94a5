/-! ===== COUNTS, the reference's side ===== -/
theorem nl64 : (64 : Int32) = nI 64 := by decide +kernel
theorem nl7 : (7 : Int32) = nI 7 := by decide +kernel
section CM
variable {r : Nat → Nat} {N n w : Nat}
theorem BM_fr {S : Nat → Nat → Prop} {I J : MI} (h : fr S I J) (h1 : ∀ j, ¬ S 103 j) (h2 : ∀ j, ¬ S 104 j) (p : BM I 103 104 w n r) : BM J 103 104 w n r := ⟨(h _ _ (h1 _)).trans p.1, fun i hi => (h _ _ (h2 _)).trans (p.2 i hi)⟩
theorem pullM {I : MI} {i m : Nat} (hw : w < 6) (n6 : n ≤ 6) (hi : i < n) (hm : m < 2 ^ n) (hr : ∀ i, i < n → r i < 2 ^ n) (hc : BM I 103 104 w n r) (h0 : ∀ S, S ≤ m → I 129 S = Wy r n i S) (hN : 20 ≤ N) : ∃ J, f_X11_layCounts_l58 N (nI w) (nI n) (nI i) (nI m) 0 I = some J ∧ J 129 m = Wy r n (i + 1) m ∧ fr (fun b j => b = 129 ∧ j = m) I J := by
  have t6 := two_le n6
  refine loop_inv (f := fun s : Int32 × MI => f_X11_layCounts_b58 N (nI w) (nI n) (nI i) (nI m) s.1 s.2) (fun j st => st.1 = nI j ∧ st.2 129 m = Wy r n i m + sm (fun c => if m.testBit c = true ∧ (r i).testBit c = true then Wy r n i (m ^^^ 2 ^ c) else 0) j ∧ fr (fun b j => b = 129 ∧ j = m) I st.2) _ n ?_ ?_ N 0 (0, I) (Nat.zero_le _) (by omega) ⟨nl0, by show I 129 m = _; rw [sm, Int32.add_zero]; exact h0 m (Nat.le_refl _), fr.rfl⟩
  · rintro j ⟨c, J⟩ hj ⟨e1, w1, f1⟩
    simp only at e1 w1 f1
    subst e1
    show ∃ s', f_X11_layCounts_b58 N (nI w) (nI n) (nI i) (nI m) (nI j) J = _ ∧ _
    unfold f_X11_layCounts_b58
    have hB : BM J 103 104 w n r := BM_fr f1 (fun _ => by omega) (fun _ => by omega) hc
    rw [if_pos ((nI_ltI (by omega) (by omega)).mpr hj), hasT m (by omega) j (by omega), bnd1_some (hasM hw hB.2 (fun i hi => by have := hr i hi; omega) n6 hi hj)]
    by_cases q : m.testBit j = true
    · rw [if_pos q, if_pos rfl]
      by_cases z : (r i).testBit j = true
      · obtain ⟨b1, _, _⟩ := mb1 m (by omega) j (by omega) q
        have hx : J 129 (m ^^^ 2 ^ j) = Wy r n i (m ^^^ 2 ^ j) := by rw [f1 _ _ (by omega)]; exact h0 _ (by omega)
        rw [if_pos z, if_neg (by decide), offb m (by omega) j (by omega) q, if_pos (inb_nI (by omega) (by decide)), if_pos (inb_nI (by omega) (by decide)), if_pos (inb_nI (by omega) (by decide)), nI_clamp (by omega), nI_clamp (by omega), hx, w1]
        simp only [letv]
        refine ⟨_, rfl, nI_1 _, ?_, f1.trans (fr.up ⟨rfl, rfl⟩)⟩
        show upI J 129 m _ 129 m = _
        rw [upI_eq, sm, if_pos ⟨q, z⟩, Int32.add_assoc]
      · rw [if_neg z, if_pos rfl]
        refine ⟨_, rfl, nI_1 _, ?_, f1⟩
        show J 129 m = _
        rw [sm, if_neg (fun w => z w.2), Int32.add_zero]; exact w1
    · rw [if_neg q, if_neg (by decide)]
      refine ⟨_, rfl, nI_1 _, ?_, f1⟩
      show J 129 m = _
      rw [sm, if_neg (fun w => q w.1), Int32.add_zero]; exact w1
  · rintro ⟨c, J⟩ ⟨e1, w1, f1⟩
    simp only at e1 w1 f1
    subst e1
    refine ⟨J, ?_, w1, f1⟩
    show f_X11_layCounts_b58 N (nI w) (nI n) (nI i) (nI m) (nI n) J = _
    unfold f_X11_layCounts_b58
    rw [if_neg (nI_le0 (by omega) (Nat.le_refl _))]
theorem Wy_zero {i : Nat} : Wy r n (i + 1) 0 = Wy r n i 0 := by
  rw [Wy, sm_zero (fun c hc => by rw [if_neg (by simp)]), Int32.add_zero]
theorem rowM {I : MI} {i : Nat} (hw : w < 6) (n6 : n ≤ 6) (hi : i < n) (hr : ∀ i, i < n → r i < 2 ^ n) (hc : BM I 103 104 w n r) (h0 : ∀ S, S < 2 ^ n → I 129 S = Wy r n i S) (hN : 1000 ≤ N) : ∃ J, f_X11_layCounts_l50 N (nI w) (nI n) (nI i) (nI (2 ^ n) - 1) I = some J ∧ (∀ S, S < 2 ^ n → J 129 S = Wy r n (i + 1) S) ∧ fr (fun b j => b = 129) I J := by
  have t6 := two_le n6
  have p1 := Nat.two_pow_pos n
  rw [dn2 p1]
  refine loop_inv (f := fun s : Int32 × MI => f_X11_layCounts_b50 N (nI w) (nI n) (nI i) s.1 s.2) (fun k st => st.1 = nI (2 ^ n - 1 - k) ∧ (∀ S, S < 2 ^ n → st.2 129 S = if S ≤ 2 ^ n - 1 - k then Wy r n i S else Wy r n (i + 1) S) ∧ fr (fun b j => b = 129) I st.2) _ (2 ^ n - 1) ?_ ?_ N 0 (nI (2 ^ n - 1), I) (Nat.zero_le _) (by omega) ⟨rfl, fun S hS => by rw [if_pos (by omega)]; exact h0 S hS, fr.rfl⟩
  · rintro k ⟨c, J⟩ hk ⟨e1, w1, f1⟩
    simp only at e1 w1 f1
    subst e1
    obtain ⟨m, hm⟩ : ∃ m, m = 2 ^ n - 1 - k := ⟨_, rfl⟩
    rw [← hm] at w1
    obtain ⟨J1, g1, g2, g3⟩ := pullM (N := N) (I := J) (m := m) hw n6 hi (by omega) hr (BM_fr f1 (fun _ => by omega) (fun _ => by omega) hc) (fun S hS => by rw [w1 S (by omega), if_pos hS]) (by omega)
    refine ⟨(nI (2 ^ n - 1 - (k + 1)), J1), ?_, rfl, fun S hS => ?_, f1.trans (g3.mono (fun b j h => h.1))⟩
    · show f_X11_layCounts_b50 N (nI w) (nI n) (nI i) (nI (2 ^ n - 1 - k)) J = _
      unfold f_X11_layCounts_b50
      rw [← hm, if_pos (by rw [nl0]; exact (nI_ltI (by omega) (by omega)).mpr (by omega)), bnd1_some g1, dn3 (by omega), show m - 1 = 2 ^ n - 1 - (k + 1) by omega]
    · show J1 129 S = _
      by_cases z : S = m
      · rw [z, g2, if_neg (by omega)]
      · rw [g3 _ _ (by omega), w1 S hS]
        have : S ≤ m ↔ S ≤ 2 ^ n - 1 - (k + 1) := by omega
        simp only [this]
  · rintro ⟨c, J⟩ ⟨e1, w1, f1⟩
    simp only at e1 w1 f1
    subst e1
    refine ⟨J, ?_, fun S hS => ?_, f1⟩
    · show f_X11_layCounts_b50 N (nI w) (nI n) (nI i) (nI (2 ^ n - 1 - (2 ^ n - 1))) J = _
      unfold f_X11_layCounts_b50
      rw [Nat.sub_self, if_neg (by decide)]
    · rw [w1 S hS]
      by_cases z : S = 0
      · rw [if_pos (by omega), z, Wy_zero]
      · rw [if_neg (by omega)]
theorem cntM {I : MI} (hw : w < 6) (n6 : n ≤ 6) (hr : ∀ i, i < n → r i < 2 ^ n) (hc : BM I 103 104 w n r) (hN : 1000 ≤ N) : ∃ J, f_X11_layCounts N (nI w) I = some J ∧ (∀ S, S < 2 ^ n → J 129 S = Wy r n n S) ∧ (∀ k, k < 7 → J 130 k = ct (Wy r n n) (2 ^ n) k) ∧ fr (fun b j => b = 129 ∨ b = 130) I J := by
  have t6 := two_le n6
  have p1 := Nat.two_pow_pos n
  have iw : inb (nI w) 6 = true := inb_nI hw (by decide)
  have cw : Int32.toNatClampNeg (nI w) = w := nI_clamp (by omega)
  obtain ⟨I1, a0, a1, a2⟩ : ∃ J, f_X11_layCounts_l9 N (nI w) (nI n) 0 I = some J ∧ (∀ S, S < 64 → J 129 S = if S = 0 then 1 else 0) ∧ fr (fun b j => b = 129) I J := by
    refine loop_inv (f := fun s : Int32 × MI => f_X11_layCounts_b9 N (nI w) (nI n) s.1 s.2) (fun k st => st.1 = nI k ∧ (∀ S, S < k → st.2 129 S = if S = 0 then 1 else 0) ∧ fr (fun b j => b = 129) I st.2) _ 64 ?_ ?_ N 0 (0, I) (Nat.zero_le _) (by omega) ⟨nl0, fun S hS => absurd hS (by omega), fr.rfl⟩
    · rintro k ⟨c, J⟩ hk ⟨e1, w1, f1⟩
      simp only at e1 w1 f1
      subst e1
      refine ⟨(nI (k + 1), upI J 129 k (if k = 0 then 1 else 0)), ?_, rfl, fun S hS => ?_, f1.trans (fr.up rfl)⟩
      · show f_X11_layCounts_b9 N (nI w) (nI n) (nI k) J = _
        unfold f_X11_layCounts_b9
        rw [nl64, if_pos ((nI_ltI (by omega) (by omega)).mpr hk), if_pos (inb_nI (by omega) (by decide)), if_pos (inb_nI (by omega) (by decide)), nI_clamp (by omega), nI_1]
        by_cases z : k = 0
        · rw [if_pos (by rw [z]; rfl), if_pos z]; rfl
        · rw [if_neg (by rw [nl0, nI_eq (by omega) (by omega)]; exact z), if_neg z]; rfl
      · show upI J 129 k _ 129 S = _
        rw [upI_at]
        by_cases z : S = k
        · rw [if_pos z, z]
        · rw [if_neg z]; exact w1 S (by omega)
    · rintro ⟨c, J⟩ ⟨e1, w1, f1⟩
      simp only at e1 w1 f1
      subst e1
      refine ⟨J, ?_, w1, f1⟩
      show f_X11_layCounts_b9 N (nI w) (nI n) (nI 64) J = _
      unfold f_X11_layCounts_b9
      rw [if_neg (by decide)]
  obtain ⟨I2, b1, b2, b3⟩ : ∃ J, f_X11_layCounts_l38 N (nI w) (nI n) 0 I1 = some J ∧ (∀ S, S < 2 ^ n → J 129 S = Wy r n n S) ∧ fr (fun b j => b = 129) I J := by
    refine loop_inv (f := fun s : Int32 × MI => f_X11_layCounts_b38 N (nI w) (nI n) s.1 s.2) (fun i st => st.1 = nI i ∧ (∀ S, S < 2 ^ n → st.2 129 S = Wy r n i S) ∧ fr (fun b j => b = 129) I st.2) _ n ?_ ?_ N 0 (0, I1) (Nat.zero_le _) (by omega) ⟨nl0, fun S hS => a1 S (by omega), a2⟩
    · rintro i ⟨c, J⟩ hi ⟨e1, w1, f1⟩
      simp only at e1 w1 f1
      subst e1
      have hcJ := BM_fr (w := w) (n := n) (r := r) f1 (fun _ => by omega) (fun _ => by omega) hc
      obtain ⟨J1, g1, g2, g3⟩ := rowM (N := N) hw n6 hi hr hcJ w1 hN
      refine ⟨(nI (i + 1), J1), ?_, rfl, g2, f1.trans g3⟩
      show f_X11_layCounts_b38 N (nI w) (nI n) (nI i) J = _
      unfold f_X11_layCounts_b38
      rw [if_pos ((nI_ltI (by omega) (by omega)).mpr hi), shl1 n (by omega), bnd1_some g1, nI_1]
    · rintro ⟨c, J⟩ ⟨e1, w1, f1⟩
      simp only at e1 w1 f1
      subst e1
      refine ⟨J, ?_, w1, f1⟩
      show f_X11_layCounts_b38 N (nI w) (nI n) (nI n) J = _
      unfold f_X11_layCounts_b38
      rw [if_neg (nI_le0 (by omega) (Nat.le_refl _))]
  obtain ⟨I3, c1, c2, c3⟩ : ∃ J, f_X11_layCounts_l130 N (nI n) 0 I2 = some J ∧ (∀ S, S < 7 → J 130 S = 0) ∧ fr (fun b j => b = 130) I2 J := by
    refine loop_inv (f := fun s : Int32 × MI => f_X11_layCounts_b130 N (nI n) s.1 s.2) (fun k st => st.1 = nI k ∧ (∀ S, S < k → st.2 130 S = 0) ∧ fr (fun b j => b = 130) I2 st.2) _ 7 ?_ ?_ N 0 (0, I2) (Nat.zero_le _) (by omega) ⟨nl0, fun S hS => absurd hS (by omega), fr.rfl⟩
    · rintro k ⟨c, J⟩ hk ⟨e1, w1, f1⟩
      simp only at e1 w1 f1
      subst e1
      refine ⟨(nI (k + 1), upI J 130 k 0), ?_, rfl, fun S hS => ?_, f1.trans (fr.up rfl)⟩
      · show f_X11_layCounts_b130 N (nI n) (nI k) J = _
        unfold f_X11_layCounts_b130
        rw [nl7, if_pos ((nI_ltI (by omega) (by omega)).mpr hk), if_pos (inb_nI (by omega) (by decide)), nI_clamp (by omega), nI_1]; rfl
      · show upI J 130 k _ 130 S = _
        rw [upI_at]
        by_cases z : S = k
        · rw [if_pos z]
        · rw [if_neg z]; exact w1 S (by omega)
    · rintro ⟨c, J⟩ ⟨e1, w1, f1⟩
      simp only at e1 w1 f1
      subst e1
      refine ⟨J, ?_, w1, f1⟩
      show f_X11_layCounts_b130 N (nI n) (nI 7) J = _
      unfold f_X11_layCounts_b130
      rw [if_neg (by decide)]
  obtain ⟨I4, d1, d2, d3⟩ : ∃ J, f_X11_layCounts_l151 N (nI n) 0 I3 = some J ∧ (∀ k, k < 7 → J 130 k = ct (Wy r n n) (2 ^ n) k) ∧ fr (fun b j => b = 130) I2 J := by
    refine loop_inv (f := fun s : Int32 × MI => f_X11_layCounts_b151 N (nI n) s.1 s.2) (fun m st => st.1 = nI m ∧ (∀ k, k < 7 → st.2 130 k = ct (Wy r n n) m k) ∧ fr (fun b j => b = 130) I2 st.2) _ (2 ^ n) ?_ ?_ N 0 (0, I3) (Nat.zero_le _) (by omega) ⟨nl0, c2, c3⟩
    · rintro m ⟨c, J⟩ hm ⟨e1, w1, f1⟩
      simp only at e1 w1 f1
      subst e1
      have bl := bcn_le m (by omega)
      refine ⟨(nI (m + 1), upI J 130 (bcn 6 m) (ct (Wy r n n) m (bcn 6 m) + Wy r n n m)), ?_, rfl, fun k hk => ?_, f1.trans (fr.up rfl)⟩
      · show f_X11_layCounts_b151 N (nI n) (nI m) J = _
        unfold f_X11_layCounts_b151
        rw [shl1 n (by omega), if_pos ((nI_ltI (by omega) (by omega)).mpr hm), bnd1_some (ones_spec (show m < 64 by omega) (by omega)), if_pos (inb_nI (by omega) (by decide)), if_pos (inb_nI (by omega) (by decide)), if_pos (inb_nI (by omega) (by decide)), nI_clamp (by omega), nI_clamp (by omega), w1 _ (by omega), f1 129 m (by omega), b2 m hm, nI_1]
        rfl
      · show upI J 130 (bcn 6 m) _ 130 k = _
        rw [upI_at, ct]
        by_cases z : k = bcn 6 m
        · rw [if_pos z, if_pos z.symm, z]
        · rw [if_neg z, if_neg (fun w => z w.symm), Int32.add_zero]; exact w1 k hk
    · rintro ⟨c, J⟩ ⟨e1, w1, f1⟩
      simp only at e1 w1 f1
      subst e1
      refine ⟨J, ?_, w1, f1⟩
      show f_X11_layCounts_b151 N (nI n) (nI (2 ^ n)) J = _
      unfold f_X11_layCounts_b151
      rw [shl1 n (by omega), if_neg (nI_le0 (by omega) (Nat.le_refl _))]
  refine ⟨I4, ?_, fun S hS => by rw [d3 _ _ (by omega)]; exact b2 S hS, d2, fun b j h => by rw [d3 _ _ (by omega), b3 _ _ (by omega)]⟩
  unfold f_X11_layCounts
  rw [if_pos iw, cw, hc.1, bnd1_some a0, bnd1_some b1, bnd1_some c1, bnd1_some d1]
end CM
section SCN
variable {PL : MX → MI → ML → Prop} {PA : MI → Prop} {N : Nat}
/-- COUNTS on both sides, one behind the other -/
theorem counts_both {X : MX} {I : MI} {L : ML} (hI : Inv0 PL PA X I L) {w : Nat} (hw : w < 6) (hN : 1000 ≤ N) : ∃ (n : Nat) (r : Nat → Nat) (J K : MI), 1 ≤ n ∧ n ≤ 6 ∧ (∀ i, i < n → r i < 2 ^ n) ∧ BC I (12 + 4 * w) n r ∧ BM I 103 104 w n r ∧ f_X4_countsOf N (12 + 4 * w) I = some J ∧ f_X11_layCounts N (nI w) J = some K ∧ (∀ k, k < 7 → J 93 k = ct (Wy r n n) (2 ^ n) k) ∧ (∀ k, k < 7 → K 130 k = ct (Wy r n n) (2 ^ n) k) ∧ fr (fun b j => b = 92 ∨ b = 93) I J ∧ fr (fun b j => b = 129 ∨ b = 130) J K := by
  obtain ⟨n, r, n1, n6, hr, hc, hm⟩ := hI.b hw
  obtain ⟨J, a1, _, a3, a4⟩ := cntC (N := N) (a := 12 + 4 * w) (by omega) n6 hr hc hN
  obtain ⟨K, b1, _, b3, b4⟩ := cntM (N := N) hw n6 hr (BM_fr a4 (fun _ => by omega) (fun _ => by omega) hm) hN
  exact ⟨n, r, J, K, n1, n6, hr, hc, hm, a1, b1, a3, b3, a4, b4⟩
theorem s_count (hPL : frPL PL) (hPA : frPA PA) (hN : 1000 ≤ N) : S_count N (Inv0 PL PA) := by
  intro X I L x1 x2 hI
  rcases (six_cases x1).symm with ⟨e1, e2⟩ | ⟨w, hw, rfl, e1, e2⟩
  · refine ⟨-1, I, I, ?_, ?_, hI⟩
    · unfold f_X10_count; rw [bnd1_some e1, if_pos rfl]
    · unfold f_X11_count; rw [bnd1_some e2, if_pos rfl]
  have iw : inb (nI w) 6 = true := inb_nI hw (by decide)
  have cw : Int32.toNatClampNeg (nI w) = w := nI_clamp (by omega)
  by_cases h0 : x2 < 0
  · refine ⟨-1, I, I, ?_, ?_, hI⟩
    · unfold f_X10_count; rw [bnd1_some e1, if_neg (by decide), if_pos h0]
    · unfold f_X11_count; rw [bnd1_some e2, if_neg (by decide), if_pos h0]
  obtain ⟨k, hk, rfl⟩ := nI_of h0
  obtain ⟨n, r, J, K, n1, n6, hr, hc, hm, a1, b1, a3, b3, a4, b4⟩ := counts_both (N := N) hI hw hN
  by_cases q : k < 7
  · refine ⟨ct (Wy r n n) (2 ^ n) k, J, K, ?_, ?_, inv_scr hPL hPA hI ((a4.mono (S' := scr) (fun b j h => by unfold scr; omega)).trans (b4.mono (fun b j h => by unfold scr; omega))) frL.rfl⟩
    · unfold f_X10_count
      rw [bnd1_some e1, if_neg (by decide), if_neg h0, if_neg (by rw [nl6]; exact nI_le0 (by omega) (by omega)), if_pos iw, cw, bnd1_some a1, if_pos (inb_nI q (by decide)), nI_clamp (by omega), a3 k q]
    · unfold f_X11_count
      rw [bnd1_some e2, if_neg (by decide), if_neg h0, bnd1_some b1, if_pos (by rw [nl7]; exact (nI_ltI (by omega) (by omega)).mpr q), if_pos (inb_nI q (by decide)), nI_clamp (by omega), b3 k q]
  · obtain ⟨K', c1, _, _, c4⟩ := cntM (N := N) hw n6 hr hm hN
    refine ⟨0, I, K', ?_, ?_, inv_scr hPL hPA hI (c4.mono (fun b j h => by unfold scr; omega)) frL.rfl⟩
    · unfold f_X10_count
      rw [bnd1_some e1, if_neg (by decide), if_neg h0, if_pos (by rw [nl6]; exact (nI_ltI (by omega) (by omega)).mpr (by omega))]
    · unfold f_X11_count
      rw [bnd1_some e2, if_neg (by decide), if_neg h0, bnd1_some c1, if_neg (by rw [nl7]; exact nI_le0 (by omega) (by omega))]
end SCN
