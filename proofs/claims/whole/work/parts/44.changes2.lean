/-! ===== weight, cell, undo ===== -/
theorem keepj79 {N k : Nat} {v1 v2 v3 : Int32} {I : MI} (hk : k < 10) (h : I 99 9 = nI k) : ∃ J, f_X11_keep_j79 N v1 v2 v3 I = some J ∧ J 108 k = v1 ∧ J 109 k = v2 ∧ J 110 k = v3 ∧ J 99 9 = nI (k + 1) ∧ fr (fun b j => (b = 99 ∧ j = 9) ∨ (108 ≤ b ∧ b ≤ 110 ∧ j = k)) I J := by
  have ik : inb (nI k) 10 = true := inb_nI hk (by decide)
  have ck : Int32.toNatClampNeg (nI k) = k := nI_clamp (by omega)
  have n1 : ∀ (J : MI) (a : Nat) (v : Int32), a ≠ 99 → J 99 9 = nI k → upI J a k v 99 9 = nI k := fun J a v ha hJ => by rw [upI_ne _ _ (Or.inl (Ne.symm ha))]; exact hJ
  have g1 := n1 I 108 v1 (by decide) h
  have g2 := n1 _ 109 v2 (by decide) g1
  have g3 := n1 _ 110 v3 (by decide) g2
  refine ⟨upI (upI (upI (upI I 108 k v1) 109 k v2) 110 k v3) 99 9 (nI (k + 1)), ?_, ?_, ?_, ?_, upI_eq _ _ _ _, ?_⟩
  · unfold f_X11_keep_j79
    rw [h, if_pos ik, ck]
    simp only [letv]
    rw [g1, if_pos ik, ck, g2, if_pos ik, ck, g3, nI_1]
  · rw [upI_ne _ _ (Or.inl (by omega)), upI_ne _ _ (Or.inl (by omega)), upI_ne _ _ (Or.inl (by omega)), upI_eq]
  · rw [upI_ne _ _ (Or.inl (by omega)), upI_ne _ _ (Or.inl (by omega)), upI_eq]
  · rw [upI_ne _ _ (Or.inl (by omega)), upI_eq]
  · intro b j n
    rw [upI_ne _ _ (by omega), upI_ne _ _ (by omega), upI_ne _ _ (by omega), upI_ne _ _ (by omega)]
theorem dropM {N : Nat} {v1 v2 v3 : Int32} {I : MI} (hN : 20 ≤ N) : ∃ J, f_X11_keep_l12 N v1 v2 v3 1 I = some J ∧ (∀ b t, 108 ≤ b → b ≤ 110 → t < 9 → J b t = I b (t + 1)) ∧ fr (fun b j => 108 ≤ b ∧ b ≤ 110) I J := by
  have key := loop_inv (f := fun s : Int32 × MI => f_X11_keep_b12 N v1 v2 v3 s.1 s.2) (fun m st => st.1 = nI (m + 1) ∧ (∀ b t, 108 ≤ b → b ≤ 110 → st.2 b t = if t < m then I b (t + 1) else I b t) ∧ fr (fun b j => 108 ≤ b ∧ b ≤ 110) I st.2) (fun J => (∀ b t, 108 ≤ b → b ≤ 110 → t < 9 → J b t = I b (t + 1)) ∧ fr (fun b j => 108 ≤ b ∧ b ≤ 110) I J) 9 ?_ ?_ N 0 (1, I) (Nat.zero_le _) (by omega) ⟨nl1, fun b t _ _ => by rw [if_neg (by omega)], fr.rfl⟩
  · exact key
  · rintro m ⟨c, J⟩ hm ⟨e1, w1, f1⟩
    simp only at e1 w1 f1
    subst e1
    have e2 : nI (m + 1) - 1 = nI m := by rw [nl1, nI_sub (by omega)]; congr 1
    have i1 : inb (nI (m + 1)) 10 = true := inb_nI (by omega) (by decide)
    have i2 : inb (nI m) 10 = true := inb_nI (by omega) (by decide)
    have wa : ∀ b, 108 ≤ b → b ≤ 110 → J b (m + 1) = I b (m + 1) := fun b h1 h2 => by rw [w1 b _ h1 h2, if_neg (by omega)]
    refine ⟨(nI (m + 1 + 1), upI (upI (upI J 108 m (I 108 (m + 1))) 109 m (I 109 (m + 1))) 110 m (I 110 (m + 1))), ?_, rfl, fun b t h1 h2 => ?_, f1.trans ((fr.up (S := fun b _ => 108 ≤ b ∧ b ≤ 110) (by omega)).trans ((fr.up (S := fun b _ => 108 ≤ b ∧ b ≤ 110) (by omega)).trans (fr.up (S := fun b _ => 108 ≤ b ∧ b ≤ 110) (by omega))))⟩
    · show f_X11_keep_b12 N v1 v2 v3 (nI (m + 1)) J = _
      unfold f_X11_keep_b12
      have l10 : nI (m + 1) < (10 : Int32) := by rw [nl10]; exact (nI_ltI (by omega) (by omega)).mpr (by omega)
      rw [if_pos l10, if_pos i1, e2, if_pos i2, nI_clamp (by omega), nI_clamp (by omega), wa 108 (by omega) (by omega)]
      simp only [letv]
      rw [if_pos i1, if_pos i2, upI_ne 109 (m + 1) (Or.inl (by omega)), wa 109 (by omega) (by omega), if_pos i1, if_pos i2, upI_ne 110 (m + 1) (Or.inl (by omega)), upI_ne 110 (m + 1) (Or.inl (by omega)), wa 110 (by omega) (by omega), nI_1]
    · show upI (upI (upI J 108 m _) 109 m _) 110 m _ b t = _
      by_cases q : t = m
      · subst q
        rw [if_pos (by omega)]
        have hb : b = 108 ∨ b = 109 ∨ b = 110 := by omega
        rcases hb with rfl | rfl | rfl
        · rw [upI_ne _ _ (Or.inl (by omega)), upI_ne _ _ (Or.inl (by omega)), upI_eq]
        · rw [upI_ne _ _ (Or.inl (by omega)), upI_eq]
        · rw [upI_eq]
      · rw [upI_ne _ _ (Or.inr q), upI_ne _ _ (Or.inr q), upI_ne _ _ (Or.inr q), w1 b t h1 h2]
        have c1 : t < m ↔ t < m + 1 := by omega
        simp only [c1]
  · rintro ⟨c, J⟩ ⟨e1, w1, f1⟩
    simp only at e1 w1 f1
    subst e1
    refine ⟨J, ?_, fun b t h1 h2 ht => by rw [w1 b t h1 h2, if_pos ht], f1⟩
    show f_X11_keep_b12 N v1 v2 v3 (nI (9 + 1)) J = _
    unfold f_X11_keep_b12
    rw [if_neg (by decide)]
theorem keepM {N k : Nat} {v1 v2 v3 : Int32} {I : MI} (hk : k ≤ 10) (h : I 99 9 = nI k) (hN : 20 ≤ N) : ∃ J, f_X11_keep N v1 v2 v3 I = some J ∧ J 108 (k - kd k) = v1 ∧ J 109 (k - kd k) = v2 ∧ J 110 (k - kd k) = v3 ∧ J 99 9 = nI (k - kd k + 1) ∧ (∀ b t, 108 ≤ b → b ≤ 110 → t < k - kd k → J b t = I b (t + kd k)) ∧ fr (fun b j => (b = 99 ∧ j = 9) ∨ (108 ≤ b ∧ b ≤ 110)) I J := by
  unfold f_X11_keep
  by_cases q : k < 10
  · rw [kd_n q, h, nl10, if_neg (by rw [nI_eq (by omega) (by omega)]; omega), Nat.sub_zero]
    obtain ⟨J, g1, g2, g3, g4, g6, g7⟩ := keepj79 (N := N) (v1 := v1) (v2 := v2) (v3 := v3) q h
    exact ⟨J, g1, g2, g3, g4, g6, fun b t h1 h2 ht => by rw [g7 _ _ (by omega)]; rfl, g7.mono (fun b j h => by omega)⟩
  · have : k = 10 := by omega
    subst this
    rw [kd_10, h, nl10, if_pos rfl]
    obtain ⟨M, m1, m2, m4⟩ := dropM (N := N) (v1 := v1) (v2 := v2) (v3 := v3) (I := I) hN
    obtain ⟨J, g1, g2, g3, g4, g6, g7⟩ := keepj79 (N := N) (v1 := v1) (v2 := v2) (v3 := v3) (I := upI M 99 9 9) (k := 9) (by decide) (by rw [upI_eq]; exact nl9)
    refine ⟨J, by rw [bnd1_some m1]; exact g1, g2, g3, g4, g6, fun b t h1 h2 ht => by rw [g7 _ _ (by omega), upI_ne _ _ (Or.inl (by omega)), m2 b t h1 h2 (by omega)], (m4.mono (fun b j h => by omega)).trans ((fr.up (by omega)).trans (g7.mono (fun b j h => by omega)))⟩
section CS2
variable {PL : MX → MI → ML → Prop} {PA : MI → Prop} {N : Nat}
theorem s_weight (hPL : frPL PL) (hPA : frPA PA) (hN : 20 ≤ N) : S_weight N (Inv0 PL PA) := by
  intro X I L x1 x2 x3 hI
  have mm : ∀ i j, nI i * 6 + nI j = nI (6 * i + j) := fun i j => by rw [nl6, nI_mul, nI_add, Nat.mul_comm]
  rcases nI_cases x1 6 (by decide) with ⟨i, hi, rfl⟩ | h1
  · have l1 : nI i < (6 : Int32) := by rw [nl6]; exact (nI_ltI (by omega) (by omega)).mpr hi
    rcases nI_cases x2 6 (by decide) with ⟨j, hj, rfl⟩ | h2
    · have l2 : nI j < (6 : Int32) := by rw [nl6]; exact (nI_ltI (by omega) (by omega)).mpr hj
      rcases rng_cases x3 9 (by decide) (hi := 9) (by decide) with ⟨m, hm, rfl, e3⟩ | ⟨h3, e3⟩
      · obtain ⟨w, hw, t1, t2⟩ := hI.t (6 * i + j) (by omega)
        have ip : inb (nI (6 * i + j)) 36 = true := inb_nI (by omega) (by decide)
        have cp : Int32.toNatClampNeg (nI (6 * i + j)) = 6 * i + j := nI_clamp (by omega)
        have l3 : ¬ (9 : Int32) < nI m := by rw [nl9]; exact nI_le0 (by omega) hm
        by_cases q : nI w = nI m
        · refine ⟨nI w, I, I, ?_, ?_, hI⟩
          · unfold f_X10_weight
            rw [if_neg (nI_pos (by omega)), if_pos l1, if_neg (nI_pos (by omega)), if_pos l2, if_neg (nI_pos (by omega)), if_neg l3, mm, if_pos ip, cp, t1]
            simp only [letv]
            rw [if_pos q]
          · unfold f_X11_weight
            rw [bnd1_some (six_ok hi), if_neg (by decide), bnd1_some (six_ok hj), if_neg (by decide), bnd1_some e3, if_neg (by decide), m6, if_pos ip, cp, t2]
            simp only [letv]
            rw [if_pos q]
        · obtain ⟨k, hk, c1, c2, sd, R, c3, c4⟩ := hI.c
          have dk : kd k ≤ 1 ∧ (k = 10 → kd k = 1) ∧ kd k ≤ k := by
            by_cases z : k < 10
            · rw [kd_n z]; omega
            · have : k = 10 := by omega
              subst this; rw [kd_10]; omega
          obtain ⟨J, g1, g2, g3, g4, g5, g6, g7, g8⟩ := keepC (v1 := -1) (v2 := nI i) (v3 := nI j) (v4 := nI w) (I := upI I 7 (6 * i + j) (nI m)) hk (by rw [upI_ne _ _ (Or.inl (by omega))]; exact c1)
          obtain ⟨K, k1, k2, k3, k4, k6, k7, k8⟩ := keepM (N := N) (v1 := -1) (v2 := nI (6 * i + j)) (v3 := nI w) (I := J) hk (by rw [g8 _ _ (by omega), upI_ne _ _ (Or.inl (by omega))]; exact c2) hN
          have tJ : J 105 (6 * i + j) = nI w := by rw [g8 _ _ (by omega), upI_ne _ _ (Or.inl (by omega))]; exact t2
          have fA : fr sC I (upI K 105 (6 * i + j) (nI m)) := (fr.up (S := sC) (by unfold sC; omega)).trans ((g8.mono (fun b j h => by unfold sC; omega)).trans ((k8.mono (fun b j h => by unfold sC; omega)).trans (fr.up (by unfold sC; omega))))
          have fB : ∀ b t, (12 ≤ b ∧ b < 34) ∨ b = 103 ∨ b = 104 → upI K 105 (6 * i + j) (nI m) b t = I b t := fun b t h => by
            rw [upI_ne _ _ (Or.inl (by omega)), k8 _ _ (by omega), g8 _ _ (by omega), upI_ne _ _ (Or.inl (by omega))]
          refine ⟨nI w, J, upI K 105 (6 * i + j) (nI m), ?_, ?_, inv_change hPL hPA hI fA (fun v hv => BP_eq (fB _ _ (by omega)) (fun _ => fB _ _ (by omega)) (fB _ _ (by omega)) (fun _ _ => fB _ _ (by omega)) (hI.bs v hv)) (fun p hp => ?_) ?_⟩
          · unfold f_X10_weight
            rw [if_neg (nI_pos (by omega)), if_pos l1, if_neg (nI_pos (by omega)), if_pos l2, if_neg (nI_pos (by omega)), if_neg l3, mm, if_pos ip, cp, t1]
            simp only [letv]
            rw [if_neg q, if_pos ip, bnd1_some g1]
          · unfold f_X11_weight
            rw [bnd1_some (six_ok hi), if_neg (by decide), bnd1_some (six_ok hj), if_neg (by decide), bnd1_some e3, if_neg (by decide), m6, if_pos ip, cp, tJ]
            simp only [letv]
            rw [if_neg q, bnd1_some k1, if_pos ip]
          · by_cases z : p = 6 * i + j
            · refine ⟨m, hm, ?_, by rw [z, upI_eq]⟩
              rw [z, upI_ne _ _ (Or.inl (by omega)), k8 _ _ (by omega), g8 _ _ (by omega), upI_eq]
            · obtain ⟨y, y1, y2, y3⟩ := hI.t p hp
              refine ⟨y, y1, ?_, ?_⟩
              · rw [upI_ne _ _ (Or.inl (by omega)), k8 _ _ (by omega), g8 _ _ (by omega), upI_ne _ _ (Or.inr z)]; exact y2
              · rw [upI_ne _ _ (Or.inr z), k8 _ _ (by omega), g8 _ _ (by omega), upI_ne _ _ (Or.inl (by omega))]; exact y3
          · refine ⟨k - kd k + 1, by omega, ?_, ?_, sd, R, fun b hb => ⟨(c3 b hb).1, (fB _ _ (by omega)).trans (c3 b hb).2.1, fun q hq => ⟨((c3 b hb).2.2 q hq).1, (fB _ _ (by omega)).trans ((c3 b hb).2.2 q hq).2⟩⟩, Or.inr ⟨i, j, w, hi, hj, hw, ?_, ?_, ?_, ?_, ?_, ?_, ?_, chain_at (I := I) (d := kd k) _ _ (fun s hs b hb => ?_) ?_⟩⟩
            · rw [upI_ne _ _ (Or.inl (by omega)), k8 _ _ (by omega)]; exact g6
            · rw [upI_ne _ _ (Or.inl (by omega))]; exact k6
            · rw [upI_ne _ _ (Or.inl (by omega)), k8 _ _ (by omega)]; exact g2
            · rw [upI_ne _ _ (Or.inl (by omega)), k8 _ _ (by omega)]; exact g3
            · rw [upI_ne _ _ (Or.inl (by omega)), k8 _ _ (by omega)]; exact g4
            · rw [upI_ne _ _ (Or.inl (by omega)), k8 _ _ (by omega)]; exact g5
            · rw [upI_ne _ _ (Or.inl (by omega))]; exact k2
            · rw [upI_ne _ _ (Or.inl (by omega))]; exact k3
            · rw [upI_ne _ _ (Or.inl (by omega))]; exact k4
            · rw [upI_ne _ _ (Or.inl (by omega))]
              rcases hb with hb | hb
              · rw [k8 _ _ (by omega), g7 b s (by omega) (by omega) hs, upI_ne _ _ (Or.inl (by omega))]
              · rw [k7 b s (by omega) (by omega) hs, g8 _ _ (by omega), upI_ne _ _ (Or.inl (by omega))]
            · rw [show k - kd k + kd k = k by omega]; exact c4
      · refine ⟨-2, I, I, ?_, ?_, hI⟩
        · unfold f_X10_weight
          rw [if_neg (nI_pos (by omega)), if_pos l1, if_neg (nI_pos (by omega)), if_pos l2]
          by_cases q : x3 < 0
          · rw [if_pos q]
          · rw [if_neg q, nl9, if_pos (h3.resolve_left q)]
        · unfold f_X11_weight
          rw [bnd1_some (six_ok hi), if_neg (by decide), bnd1_some (six_ok hj), if_neg (by decide), bnd1_some e3, if_pos rfl]
    · refine ⟨-1, I, I, ?_, ?_, hI⟩
      · unfold f_X10_weight
        rw [if_neg (nI_pos (by omega)), if_pos l1]
        by_cases q : x2 < 0
        · rw [if_pos q]
        · rw [if_neg q, nl6, if_neg (h2.resolve_left q)]
      · unfold f_X11_weight
        rw [bnd1_some (six_ok hi), if_neg (by decide), bnd1_some (six_no (by rw [nl6]; exact h2)), if_pos rfl]
  · refine ⟨-1, I, I, ?_, ?_, hI⟩
    · unfold f_X10_weight
      by_cases q : x1 < 0
      · rw [if_pos q]
      · rw [if_neg q, nl6, if_neg (h1.resolve_left q)]
    · unfold f_X11_weight
      rw [bnd1_some (six_no (by rw [nl6]; exact h1)), if_pos rfl]
end CS2
