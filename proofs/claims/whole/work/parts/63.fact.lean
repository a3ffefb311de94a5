/-! ===== factored, bySteps ===== -/
section FC
variable {PL : MX → MI → ML → Prop} {PA : MI → Prop} {N : Nat}
theorem fact_in {n k : Nat} {v2 : Int32} {v4 v7 : Int64} (hk : k ≤ n) (n6 : n ≤ 6) (hN : 20 ≤ N) : ∃ q, f_X11_factored_l60 N v2 (nI n) v4 (nI k) v7 0 = some q := by
  obtain ⟨q, e, _⟩ := loop_inv (f := fun s : Int64 × Int32 => f_X11_factored_b60 N v2 (nI n) v4 (nI k) s.1 s.2) (fun j st => st.2 = nI j) (fun _ => True) (n - k) (by
    rintro j ⟨a, b⟩ hj e1
    simp only at e1
    subst e1
    show ∃ s', f_X11_factored_b60 N v2 (nI n) v4 (nI k) a (nI j) = _ ∧ _
    unfold f_X11_factored_b60
    rw [nI_sub hk, if_pos ((nI_ltI (by omega) (by omega)).mpr hj)]
    exact ⟨_, rfl, nI_1 _⟩) (by
    rintro ⟨a, b⟩ e1
    simp only at e1
    subst e1
    show ∃ s', f_X11_factored_b60 N v2 (nI n) v4 (nI k) a (nI (n - k)) = _ ∧ _
    unfold f_X11_factored_b60
    rw [nI_sub hk, if_neg (nI_le0 (by omega) (Nat.le_refl _))]
    exact ⟨_, rfl, trivial⟩) N 0 (v7, 0) (Nat.zero_le _) (by omega) nl0
  exact ⟨q, e⟩
theorem fact_both {n a : Nat} {v2 : Int32} {J K : MI} {cc : Nat → Int32} (n6 : n ≤ 6) (h0 : J a 0 = nI n) (h1 : ∀ k, k < 7 → J 93 k = cc k) (h2 : ∀ k, k < 7 → K 130 k = cc k) (hN : 20 ≤ N) : ∃ q, f_X10_factored_l47 N v2 a 0 0 J = some q ∧ f_X11_factored_l41 N v2 (nI n) 0 0 K = some q := by
  obtain ⟨q, q', e1, e2, rfl⟩ := loop_sync (f := fun s : Int64 × Int32 => f_X10_factored_b47 N v2 a s.1 s.2 J) (g := fun s : Int64 × Int32 => f_X11_factored_b41 N v2 (nI n) s.1 s.2 K) (fun k s t => s = t ∧ s.2 = nI k) (fun r q => r = q) (n + 1) (by
    rintro k ⟨x, y⟩ t hk ⟨rfl, e1⟩
    simp only at e1
    subst e1
    simp only [f_X10_factored_b47, f_X11_factored_b41]
    rw [h0, if_neg (nI_le0 (by omega) (by omega)), if_neg (nI_le0 (by omega) (by omega)), if_pos (inb_nI (by omega) (by decide)), if_pos (inb_nI (by omega) (by decide)), nI_clamp (by omega), h1 k (by omega), h2 k (by omega)]
    simp only [letv]
    obtain ⟨q, e⟩ := fact_in (N := N) (n := n) (k := k) (v2 := v2) (v4 := x) (v7 := Int32.toInt64 (cc k)) (by omega) n6 hN
    have e' : f_X10_factored_l67 N v2 a x (nI k) (Int32.toInt64 (cc k)) 0 J = some q := by
      rw [← e]
      unfold f_X10_factored_l67 f_X11_factored_l60 f_X10_factored_b67 f_X11_factored_b60
      rw [h0]
    rw [bnd1_some e, bnd1_some e']
    exact ⟨_, _, rfl, rfl, rfl, nI_1 _⟩) (by
    rintro ⟨x, y⟩ t ⟨rfl, e1⟩
    simp only at e1
    subst e1
    simp only [f_X10_factored_b47, f_X11_factored_b41]
    have l1 := (nI_ltI (show n < 2 ^ 31 by omega) (show n + 1 < 2 ^ 31 by omega)).mpr (by omega)
    rw [h0, if_pos l1, if_pos l1]
    exact ⟨x, x, rfl, rfl, rfl⟩) N 0 (0, 0) (0, 0) (Nat.zero_le _) (by omega) ⟨rfl, nl0⟩
  exact ⟨q, e1, e2⟩
theorem s_factored (hPL : frPL PL) (hPA : frPA PA) (hN : 1000 ≤ N) : S_factored N (Inv0 PL PA) := by
  intro X I L x1 x2 hI
  rcases (six_cases x1).symm with ⟨e1, e2⟩ | ⟨w, hw, rfl, e1, e2⟩
  · refine ⟨-9223372036854775808, I, I, ?_, ?_, hI⟩
    · unfold f_X10_factored; rw [bnd1_some e1, if_pos rfl]
    · unfold f_X11_factored; rw [bnd1_some e2, if_pos rfl]
  have iw : inb (nI w) 6 = true := inb_nI hw (by decide)
  have cw : Int32.toNatClampNeg (nI w) = w := nI_clamp (by omega)
  rcases rng_cases x2 20 (by decide) (hi := 20) (by decide) with ⟨x, hx, rfl, e3⟩ | ⟨h1, e3⟩
  · obtain ⟨n, r, J, K, n1, n6, hr, hc, hm, a1, b1, a3, b3, a4, b4⟩ := counts_both (N := N) hI hw hN
    have hcJ : J (12 + 4 * w) 0 = nI n := by rw [a4 _ _ (by omega)]; exact hc.1
    have hmK : K 103 w = nI n := by rw [b4 _ _ (by omega), a4 _ _ (by omega)]; exact hm.1
    obtain ⟨q, c1, c2⟩ := fact_both (N := N) (a := 12 + 4 * w) (v2 := nI x) n6 hcJ a3 b3 (by omega)
    refine ⟨q, J, K, ?_, ?_, inv_scr hPL hPA hI ((a4.mono (S' := scr) (fun b j h => by unfold scr; omega)).trans (b4.mono (fun b j h => by unfold scr; omega))) frL.rfl⟩
    · unfold f_X10_factored
      rw [bnd1_some e1, if_neg (by decide), if_neg (nI_pos (by omega)), if_neg (by rw [nl20]; exact nI_le0 (by omega) hx), if_pos iw, cw, bnd1_some a1, bnd1_some c1]
    · unfold f_X11_factored
      rw [bnd1_some e2, if_neg (by decide), bnd1_some e3, if_neg (by decide), bnd1_some b1, if_pos iw, cw, hmK, bnd1_some c2]
  · refine ⟨-9223372036854775808, I, I, ?_, ?_, hI⟩
    · unfold f_X10_factored
      rw [bnd1_some e1, if_neg (by decide)]
      by_cases q : x2 < 0
      · rw [if_pos q]
      · rw [if_neg q, nl20, if_pos (h1.resolve_left q)]
    · unfold f_X11_factored; rw [bnd1_some e2, if_neg (by decide), bnd1_some e3, if_pos rfl]
end FC
def isStp (r : Nat → Nat) (n : Nat) : Prop := (∀ i, i < n → r i = 2 ^ bcn 6 (r i) - 1) ∧ ∀ i, i + 1 < n → bcn 6 (r i) ≤ bcn 6 (r (i + 1))
theorem fullb : ∀ x, x < 64 → (x = 2 ^ bcn 6 x - 1 ∧ nI x &&& (nI x + 1) = 0) ∨ (¬ x = 2 ^ bcn 6 x - 1 ∧ ¬ nI x &&& (nI x + 1) = 0) := by decide +kernel
section IST
variable {N n a w : Nat} {r : Nat → Nat} {I M : MI}
theorem heightC {i : Nat} (hc : BC I a n r) (n6 : n ≤ 6) (hi : i < n) (hr : ∀ i, i < n → r i < 2 ^ n) : f_X0_height a (nI i) I = some (nI (bcn 6 (r i))) := by
  have t6 := two_le n6
  have := hr i hi
  unfold f_X0_height
  rw [if_pos (inb_nI (by omega) (by decide)), nI_clamp (by omega), hc.2 i hi, bnd1_some (bitC _ (by omega))]
theorem steps_both (hw : w < 6) (n6 : n ≤ 6) (hr : ∀ i, i < n → r i < 2 ^ n) (hc : BC I a n r) (hm : BM M 103 104 w n r) (hN : 20 ≤ N) : (isStp r n ∧ f_X0_isSteps N a I = some 1 ∧ f_X11_isSteps N (nI w) M = some 1) ∨ (¬ isStp r n ∧ f_X0_isSteps N a I = some 0 ∧ f_X11_isSteps N (nI w) M = some 0) := by
  have t6 := two_le n6
  have iw : inb (nI w) 6 = true := inb_nI hw (by decide)
  have cw : Int32.toNatClampNeg (nI w) = w := nI_clamp (by omega)
  obtain ⟨q, q', e1, e2, h3⟩ := loop_sync2 (f := fun s : Int32 × Int32 => f_X0_isSteps_b4 N a s.1 s.2 I) (g := fun s : Int32 × Int32 => f_X11_isSteps_b4 N (nI w) s.1 s.2 M) (fun i s t => (∃ h, h ≤ 6 ∧ (h = if i = 0 then 0 else bcn 6 (r (i - 1))) ∧ s = (nI h, nI i) ∧ t = (nI (2 ^ h - 1), nI i)) ∧ isStp r i) (fun q q' => (q = .inl () ∧ q' = .inl () ∧ isStp r n) ∨ (q = .inr 0 ∧ q' = .inr 0 ∧ ¬ isStp r n)) n (by
    rintro i s t hin ⟨⟨h, h6, hh, rfl, rfl⟩, st⟩
    simp only [f_X0_isSteps_b4, f_X11_isSteps_b4]
    rw [hc.1, if_pos iw, cw, hm.1]
    by_cases hi : i < n
    · have hx := hr i hi
      have l1 := (nI_ltI (show i < 2 ^ 31 by omega) (show n < 2 ^ 31 by omega)).mpr hi
      have bl := bcn_le (r i) (by omega)
      have ph := two_le h6
      have pb := two_le bl
      have ph1 := Nat.two_pow_pos h
      have pb1 := Nat.two_pow_pos (bcn 6 (r i))
      rw [if_pos l1, if_pos l1, bnd1_some (heightC hc n6 hi hr), m6, if_pos (inb_nI (by omega) (by decide)), if_pos (inb_nI (by omega) (by decide)), nI_clamp (by omega), nI_clamp (by omega), hc.2 i hi, hm.2 i hi, fullm _ (by omega)]
      simp only [letv]
      rcases fullb (r i) (by omega) with ⟨f1, f2⟩ | ⟨f1, f2⟩
      · rw [if_pos f2]
        by_cases z : bcn 6 (r i) < h
        · right
          have lt : 2 ^ bcn 6 (r i) < 2 ^ h := Nat.pow_lt_pow_right (by omega) z
          have l2 : nI (r i) < nI (2 ^ h - 1) := (nI_ltI (by omega) (by omega)).mpr (by omega)
          rw [if_pos ((nI_ltI (by omega) (by omega)).mpr z), if_pos l2]
          refine ⟨_, _, rfl, rfl, Or.inr ⟨rfl, rfl, fun w => ?_⟩⟩
          by_cases y : i = 0
          · rw [if_pos y] at hh; omega
          · rw [if_neg y] at hh
            have := w.2 (i - 1) (by omega)
            rw [show i - 1 + 1 = i by omega] at this
            omega
        · left
          have lt : 2 ^ h ≤ 2 ^ bcn 6 (r i) := Nat.pow_le_pow_right (by omega) (by omega)
          have l2 : ¬ nI (r i) < nI (2 ^ h - 1) := nI_le0 (by omega) (by omega)
          rw [if_neg (nI_le0 (by omega) (by omega)), if_neg l2, if_pos (by rw [← f1])]
          refine ⟨_, _, rfl, rfl, ⟨⟨bcn 6 (r i), bl, by rw [if_neg (by omega)]; rfl, by rw [nI_1], by rw [nI_1, ← f1]⟩, fun k hk => ?_, fun k hk => ?_⟩, hi⟩
          · by_cases y : k = i
            · rw [y]; exact f1
            · exact st.1 k (by omega)
          · by_cases y : k + 1 = i
            · rw [if_neg (by omega), show i - 1 = k by omega] at hh
              rw [y]; omega
            · exact st.2 k (by omega)
      · right
        rw [if_neg f2]
        have ne : ¬ nI (r i) = nI (2 ^ bcn 6 (r i) - 1) := by rw [nI_eq (by omega) (by omega)]; exact f1
        refine ⟨.inr 0, .inr 0, ?_, rfl, Or.inr ⟨rfl, rfl, fun w => f1 (w.1 i hi)⟩⟩
        by_cases z : bcn 6 (r i) < h
        · rw [if_pos ((nI_ltI (by omega) (by omega)).mpr z)]
        · rw [if_neg (nI_le0 (by omega) (by omega)), if_neg ne]
    · right
      have : i = n := by omega
      subst this
      have l1 : ¬ nI i < nI i := nI_le0 (by omega) (Nat.le_refl _)
      rw [if_neg l1, if_neg l1]
      exact ⟨_, _, rfl, rfl, Or.inl ⟨rfl, rfl, st⟩⟩) N 0 (0, 0) (0, 0) (Nat.zero_le _) (by omega) ⟨⟨0, by omega, rfl, by rw [nl0], by rw [nl0]⟩, fun i hi => absurd hi (by omega), fun i hi => absurd hi (by omega)⟩
  unfold f_X0_isSteps f_X11_isSteps f_X0_isSteps_l4 f_X11_isSteps_l4
  rcases h3 with ⟨rfl, rfl, st⟩ | ⟨rfl, rfl, st⟩
  · left; rw [bns1_inl e1, bns1_inl e2]; exact ⟨st, rfl, rfl⟩
  · right; rw [bns1_inr e1, bns1_inr e2]; exact ⟨st, rfl, rfl⟩
end IST
section BYS
variable {PL : MX → MI → ML → Prop} {PA : MI → Prop} {N : Nat}
theorem s_bySteps (hN : 20 ≤ N) : S_bySteps N (Inv0 PL PA) := by
  intro X I L x1 x2 hI
  rcases (six_cases x1).symm with ⟨e1, e2⟩ | ⟨w, hw, rfl, e1, e2⟩
  · refine ⟨-9223372036854775808, ?_, ?_, hI⟩
    · unfold f_X10_bySteps; rw [bnd1_some e1, if_pos rfl]
    · unfold f_X11_bySteps; rw [bnd1_some e2, if_pos rfl]
  have iw : inb (nI w) 6 = true := inb_nI hw (by decide)
  have cw : Int32.toNatClampNeg (nI w) = w := nI_clamp (by omega)
  rcases rng_cases x2 20 (by decide) (hi := 20) (by decide) with ⟨x, hx, rfl, e3⟩ | ⟨h1, e3⟩
  · obtain ⟨n, r, n1, n6, hr, hc, hm⟩ := hI.b hw
    have t6 := two_le n6
    have l20 : ¬ (20 : Int32) < nI x := by rw [nl20]; exact nI_le0 (by omega) hx
    rcases steps_both (N := N) hw n6 hr hc hm hN with ⟨_, s1, s2⟩ | ⟨_, s1, s2⟩
    · obtain ⟨q, q', c1, c2, rfl⟩ := loop_sync (f := fun s : Int64 × Int32 => f_X10_bySteps_b52 N (nI x) (12 + 4 * w) s.1 s.2 I) (g := fun s : Int64 × Int32 => f_X11_bySteps_b36 N (nI w) (nI x) s.1 s.2 I) (fun k s t => s = t ∧ s.2 = nI k) (fun r q => r = q) n (by
        rintro k ⟨y, z⟩ t hk ⟨rfl, e1⟩
        simp only at e1
        subst e1
        have := hr k hk
        simp only [f_X10_bySteps_b52, f_X11_bySteps_b36]
        have l1 := (nI_ltI (show k < 2 ^ 31 by omega) (show n < 2 ^ 31 by omega)).mpr hk
        rw [hc.1, if_pos iw, cw, hm.1, if_pos l1, if_pos l1, bnd1_some (heightC hc n6 hk hr), m6, if_pos (inb_nI (by omega) (by decide)), nI_clamp (by omega), hm.2 k hk, bnd1_some (ones_spec (by omega) hN)]
        simp only [letv]
        exact ⟨_, _, rfl, rfl, rfl, nI_1 _⟩) (by
        rintro ⟨y, z⟩ t ⟨rfl, e1⟩
        simp only at e1
        subst e1
        simp only [f_X10_bySteps_b52, f_X11_bySteps_b36]
        have l1 : ¬ nI n < nI n := nI_le0 (by omega) (Nat.le_refl _)
        rw [hc.1, if_pos iw, cw, hm.1, if_neg l1, if_neg l1]
        exact ⟨y, y, rfl, rfl, rfl⟩) N 0 (1, 0) (1, 0) (Nat.zero_le _) (by omega) ⟨rfl, nl0⟩
      refine ⟨q, ?_, ?_, hI⟩
      · unfold f_X10_bySteps f_X10_bySteps_l52
        rw [bnd1_some e1, if_neg (by decide), if_neg (nI_pos (by omega)), if_neg l20, if_pos iw, cw, bnd1_some s1, if_neg (by decide), if_pos iw, bnd1_some c1]
      · unfold f_X11_bySteps f_X11_bySteps_l36
        rw [bnd1_some e2, if_neg (by decide), bnd1_some e3, if_neg (by decide), bnd1_some s2, if_neg (by decide), bnd1_some c2]
    · refine ⟨-9223372036854775808, ?_, ?_, hI⟩
      · unfold f_X10_bySteps
        rw [bnd1_some e1, if_neg (by decide), if_neg (nI_pos (by omega)), if_neg l20, if_pos iw, cw, bnd1_some s1, if_pos rfl]
      · unfold f_X11_bySteps
        rw [bnd1_some e2, if_neg (by decide), bnd1_some e3, if_neg (by decide), bnd1_some s2, if_pos rfl]
  · refine ⟨-9223372036854775808, ?_, ?_, hI⟩
    · unfold f_X10_bySteps
      rw [bnd1_some e1, if_neg (by decide)]
      by_cases q : x2 < 0
      · rw [if_pos q]
      · rw [if_neg q, nl20, if_pos (h1.resolve_left q)]
    · unfold f_X11_bySteps; rw [bnd1_some e2, if_neg (by decide), bnd1_some e3, if_pos rfl]
end BYS
