/-! ===== judge ===== -/
section JG
variable {PL : MX → MI → ML → Prop} {PA : MI → Prop} {N : Nat}
theorem ltA {x n k : Nat} (hx : x < 2 ^ 31) (hn : n ≤ 60) (hk : k ≤ 7) : (nI x < nI n - nI k) ↔ x + k < n := by
  rw [Int32.lt_iff_toInt_lt, nI_toInt hx, Int32.toInt_sub, nI_toInt (by omega), nI_toInt (by omega)]
  rw [Int.bmod_eq_of_le (by omega) (by omega)]
  omega
theorem ltB {x n k : Nat} (hx : x < 2 ^ 31) (hn : n ≤ 60) (hk : k ≤ 7) : (Int32.toInt64 (nI x) + Int32.toInt64 (nI k) < Int32.toInt64 (nI n)) ↔ x + k < n := by
  rw [to64 hx, to64 (by omega), to64 (by omega), qL_add, Int64.lt_iff_toInt_lt]
  unfold qL
  rw [Int64.toInt_ofNat_of_lt (by omega), Int64.toInt_ofNat_of_lt (by omega)]
  omega
theorem judge_both {J K : MI} {L : ML} {t w n m x : Nat} {cc : Nat → Int32} (ht : t < 6) (hw : w < 6) (hx : x < 2 ^ 31) (n6 : n ≤ 6) (hm : m ≤ 60) (h1 : J (12 + 4 * w) 0 = nI n) (h2 : K 103 w = nI n) (h3 : J (79 + 2 * t) 1 = nI m) (h4 : K 114 t = nI m) (h5 : ∀ i, i < m → L (80 + 2 * t) i = L 115 (60 * t + i)) (h6 : ∀ k, k < 7 → J 93 k = cc k) (h7 : ∀ k, k < 7 → K 130 k = cc k) (hN : 20 ≤ N) : ∃ r, (f_X10_judge_l80 N (nI x) (79 + 2 * t) (12 + 4 * w) 0 J L = some (.inl ()) ∧ f_X11_judge_l62 N (nI t) (nI x) (nI w) 0 K L = some (.inl ())) ∨ (f_X10_judge_l80 N (nI x) (79 + 2 * t) (12 + 4 * w) 0 J L = some (.inr (r, J)) ∧ f_X11_judge_l62 N (nI t) (nI x) (nI w) 0 K L = some (.inr (r, K))) := by
  have iw : inb (nI w) 6 = true := inb_nI hw (by decide)
  have cw : Int32.toNatClampNeg (nI w) = w := nI_clamp (by omega)
  have it : inb (nI t) 6 = true := inb_nI ht (by decide)
  have c1 : Int32.toNatClampNeg (nI t) = t := nI_clamp (by omega)
  obtain ⟨q, q', e1, e2, h⟩ := loop_sync2 (f := fun s : Int32 => f_X10_judge_b80 N (nI x) (79 + 2 * t) (12 + 4 * w) s J L) (g := fun s : Int32 => f_X11_judge_b62 N (nI t) (nI x) (nI w) s K L) (fun k s s' => s = nI k ∧ s' = nI k) (fun q q' => (q = .inl () ∧ q' = .inl ()) ∨ ∃ r, q = .inr (r, J) ∧ q' = .inr (r, K)) (n + 1) (by
    rintro k s s' hk ⟨rfl, rfl⟩
    simp only [f_X10_judge_b80, f_X11_judge_b62]
    rw [h1, if_pos iw, cw, h2, if_pos it, c1, h3, h4]
    by_cases z : n < k
    · right
      have l1 := (nI_ltI (show n < 2 ^ 31 by omega) (show k < 2 ^ 31 by omega)).mpr z
      rw [if_pos l1, if_pos l1]
      exact ⟨_, _, rfl, rfl, Or.inl ⟨rfl, rfl⟩⟩
    · have l1 : ¬ nI n < nI k := nI_le0 (by omega) (by omega)
      rw [if_neg l1, if_neg l1]
      by_cases y : x + k < m
      · rw [if_pos ((ltA hx hm (by omega)).mpr y), if_pos ((ltB hx hm (by omega)).mpr y), nI_add, show 60 * nI t + nI x + nI k = nI (60 * t + (x + k)) by rw [show (60 : Int32) = nI 60 by decide +kernel, nI_mul, nI_add, nI_add, Nat.add_assoc], if_pos (inb_nI (by omega) (by decide)), if_pos (inb_nI (by omega) (by decide)), if_pos (inb_nI (by omega) (by decide)), if_pos (inb_nI (by omega) (by decide)), nI_clamp (by omega), nI_clamp (by omega), nI_clamp (by omega), h6 k (by omega), h7 k (by omega), show 79 + 2 * t + 1 = 80 + 2 * t by omega, h5 _ y]
        by_cases v : L 115 (60 * t + (x + k)) = Int32.toInt64 (cc k)
        · left
          rw [if_pos v, if_pos v]
          exact ⟨_, _, rfl, rfl, ⟨nI_1 _, nI_1 _⟩, by omega⟩
        · right
          rw [if_neg v, if_neg v]
          exact ⟨_, _, rfl, rfl, Or.inr ⟨_, rfl, rfl⟩⟩
      · right
        rw [if_neg (fun q => y ((ltA hx hm (by omega)).mp q)), if_neg (fun q => y ((ltB hx hm (by omega)).mp q))]
        exact ⟨_, _, rfl, rfl, Or.inr ⟨_, rfl, rfl⟩⟩) N 0 0 0 (Nat.zero_le _) (by omega) ⟨nl0, nl0⟩
  rcases h with ⟨rfl, rfl⟩ | ⟨r, rfl, rfl⟩
  · exact ⟨0, Or.inl ⟨e1, e2⟩⟩
  · exact ⟨r, Or.inr ⟨e1, e2⟩⟩
theorem s_judge (hPL : frPL PL) (hPA : frPA PA) (hN : 1000 ≤ N) : S_judge N (Inv0 PL PA) := by
  intro X I L x1 x2 x3 hI
  rcases (six_cases x1).symm with ⟨e1, e2⟩ | ⟨t, ht, rfl, e1, e2⟩
  · refine ⟨-1, I, I, ?_, ?_, hI⟩
    · unfold f_X10_judge; rw [bnd1_some e1, if_pos rfl]
    · unfold f_X11_judge; rw [bnd1_some e2, if_pos rfl]
  have it : inb (nI t) 6 = true := inb_nI ht (by decide)
  have c1 : Int32.toNatClampNeg (nI t) = t := nI_clamp (by omega)
  rcases (six_cases x3).symm with ⟨e3, e4⟩ | ⟨w, hw, rfl, e3, e4⟩
  · refine ⟨-1, I, I, ?_, ?_, hI⟩
    · unfold f_X10_judge; rw [bnd1_some e1, if_neg (by decide), bnd1_some e3, if_pos rfl]
    · unfold f_X11_judge; rw [bnd1_some e2, if_neg (by decide), bnd1_some e4, if_pos rfl]
  have iw : inb (nI w) 6 = true := inb_nI hw (by decide)
  have cw : Int32.toNatClampNeg (nI w) = w := nI_clamp (by omega)
  obtain ⟨m, hm, p1, p2, p3, p4, p5⟩ := hI.r t ht
  rcases p4 with ⟨s1, s2⟩ | ⟨s, hs, s1⟩
  · refine ⟨100, I, I, ?_, ?_, hI⟩
    · unfold f_X10_judge
      rw [bnd1_some e1, if_neg (by decide), bnd1_some e3, if_neg (by decide), if_pos it, c1, p3, s1, if_pos rfl]
    · unfold f_X11_judge f_X11_judge_j38
      rw [bnd1_some e2, if_neg (by decide), bnd1_some e4, if_neg (by decide), if_pos it, c1, s1, if_pos (by decide), if_pos it, if_pos (by decide)]
  · have n1 : ¬ nI s = (-1 : Int32) := fun h => by
      have : ¬ nI s < 0 := nI_pos (by omega)
      rw [h] at this
      exact absurd (by decide) this
    have n0 : ¬ nI s < 0 := nI_pos (by omega)
    by_cases q : s = 1
    · subst q
      by_cases h0 : x2 < 0
      · refine ⟨100, I, I, ?_, ?_, hI⟩
        · unfold f_X10_judge
          rw [bnd1_some e1, if_neg (by decide), bnd1_some e3, if_neg (by decide), if_pos it, c1, p3, s1, if_neg n1, if_pos nl1.symm, if_pos h0]
        · unfold f_X11_judge f_X11_judge_j38
          rw [bnd1_some e2, if_neg (by decide), bnd1_some e4, if_neg (by decide), if_pos it, c1, s1, if_neg n0, if_pos it, if_pos nl1.symm, if_pos it, if_neg n0, if_pos h0]
      · obtain ⟨x, hx, rfl⟩ := nI_of h0
        obtain ⟨n, r, J, K, b1, b6, hr, hc, hmm, a1, k1, a3, k3, a4, k4⟩ := counts_both (N := N) hI hw hN
        have inv : Inv0 PL PA X K L := inv_scr hPL hPA hI ((a4.mono (S' := scr) (fun b j h => by unfold scr; omega)).trans (k4.mono (fun b j h => by unfold scr; omega))) frL.rfl
        have v1 : J 113 t = nI 1 := by rw [a4 _ _ (by omega)]; exact s1
        have A : ∀ z, f_X10_judge_l80 N (nI x) (79 + 2 * t) (12 + 4 * w) 0 J L = z → f_X10_judge N (nI t) (nI x) (nI w) I L = bns1 z (fun u19 => some ((-5), J)) (fun q21 => some q21) := fun z hz => by
          unfold f_X10_judge
          rw [bnd1_some e1, if_neg (by decide), bnd1_some e3, if_neg (by decide), if_pos it, c1, p3, s1, if_neg n1, if_pos nl1.symm, if_neg h0, if_pos iw, cw, bnd1_some a1, hz]
        have B : ∀ z, f_X11_judge_l62 N (nI t) (nI x) (nI w) 0 K L = z → f_X11_judge N (nI t) (nI x) (nI w) J L = bns1 z (fun u21 => some ((-5), K)) (fun q23 => some q23) := fun z hz => by
          unfold f_X11_judge f_X11_judge_j38
          rw [bnd1_some e2, if_neg (by decide), bnd1_some e4, if_neg (by decide), if_pos it, c1, v1, if_neg n0, if_pos it, if_pos nl1.symm, if_pos it, if_neg n0, if_neg h0, bnd1_some k1, hz]
        obtain ⟨v, g | g⟩ := judge_both (N := N) (J := J) (K := K) (L := L) (x := x) ht hw hx b6 hm (by rw [a4 _ _ (by omega)]; exact hc.1) (by rw [k4 _ _ (by omega), a4 _ _ (by omega)]; exact hmm.1) (by rw [a4 _ _ (by omega)]; exact p1) (by rw [k4 _ _ (by omega), a4 _ _ (by omega)]; exact p2) p5 a3 k3 (by omega)
        · exact ⟨-5, J, K, A _ g.1, B _ g.2, inv⟩
        · exact ⟨v, J, K, A _ g.1, B _ g.2, inv⟩
    · have ns : ¬ nI s = (1 : Int32) := by rw [nl1, nI_eq (by omega) (by omega)]; exact q
      refine ⟨-12, I, I, ?_, ?_, hI⟩
      · unfold f_X10_judge
        rw [bnd1_some e1, if_neg (by decide), bnd1_some e3, if_neg (by decide), if_pos it, c1, p3, s1, if_neg n1, if_neg ns]
      · unfold f_X11_judge
        rw [bnd1_some e2, if_neg (by decide), bnd1_some e4, if_neg (by decide), if_pos it, c1, s1, if_neg n0, if_pos it, if_neg ns]
end JG
