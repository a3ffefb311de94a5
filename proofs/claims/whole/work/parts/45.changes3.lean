/-! ===== cell, undo ===== -/
theorem xx (a b : Nat) : a ^^^ b ^^^ b = a := by rw [Nat.xor_assoc, Nat.xor_self, Nat.xor_zero]
theorem upR_at (R : Nat → Nat → Nat) (b i v : Nat) : upR R b i v b i = v := if_pos ⟨rfl, rfl⟩
theorem upR_ne {R : Nat → Nat → Nat} {b i v b' i' : Nat} (h : ¬ (b' = b ∧ i' = i)) : upR R b i v b' i' = R b' i' := if_neg h
theorem upR_back (R : Nat → Nat → Nat) (b i v : Nat) : upR (upR R b i v) b i (R b i) = R := by
  funext b' i'
  unfold upR
  by_cases q : b' = b ∧ i' = i
  · rw [if_pos q, q.1, q.2]
  · rw [if_neg q, if_neg q]
section CS3
variable {PL : MX → MI → ML → Prop} {PA : MI → Prop} {N : Nat}
theorem s_cell (hPL : frPL PL) (hPA : frPA PA) (hN : 20 ≤ N) : S_cell N (Inv0 PL PA) := by
  intro X I L x1 x2 x3 hI
  rcases six_cases x1 with ⟨w, hw, rfl, e1, e2⟩ | ⟨e1, e2⟩
  · have iw : inb (nI w) 6 = true := inb_nI hw (by decide)
    have cw : Int32.toNatClampNeg (nI w) = w := nI_clamp (by omega)
    obtain ⟨n, r, n1, n6, hr, hc, hm⟩ := hI.b hw
    have t6 := two_le n6
    rcases place_in x2 n1 n6 with ⟨i, hi, rfl, p2⟩ | ⟨h2, p2⟩
    · rcases place_in x3 n1 n6 with ⟨j, hj, rfl, p3⟩ | ⟨h3, p3⟩
      · obtain ⟨k, hk, c1, c2, sd, R, c3, c4⟩ := hI.c
        have dk : kd k ≤ 1 ∧ (k = 10 → kd k = 1) ∧ kd k ≤ k := by
          by_cases z : k < 10
          · rw [kd_n z]; omega
          · have : k = 10 := by omega
            subst this; rw [kd_10]; omega
        obtain ⟨s1, s2, s3⟩ := c3 w hw
        have esd : sd w = n := (nI_eq (by omega) (by omega)).mp (s2.symm.trans hm.1)
        have eR : ∀ q, q < n → R w q = r q := fun q hq => by
          obtain ⟨s4, s5⟩ := s3 q (by omega)
          have hq' := hr q hq
          rw [esd] at s4
          exact (nI_eq (by omega) (by omega)).mp (s5.symm.trans (hm.2 q hq))
        have pj : 2 ^ j < 2 ^ n := Nat.pow_lt_pow_right (by decide) hj
        have hxl : r i ^^^ 2 ^ j < 2 ^ n := Nat.xor_lt_two_pow (hr i hi) pj
        have tg := toggle_spec (a := 12 + 4 * w) (i := i) (j := j) (I := I) (by omega) (by omega) (hc.2 i hi)
        have ea : 12 + 4 * w + 1 = 13 + 4 * w := by omega
        rw [ea] at tg
        obtain ⟨J, g1, g2, g3, g4, g5, g6, g7, g8⟩ := keepC (v1 := nI w) (v2 := nI i) (v3 := nI j) (v4 := 0) (I := upI I (13 + 4 * w) i (nI (r i ^^^ 2 ^ j))) hk (by rw [upI_ne _ _ (Or.inl (by omega))]; exact c1)
        obtain ⟨K, k1, k2, k3, k4, k6, k7, k8⟩ := keepM (N := N) (v1 := nI w) (v2 := nI i) (v3 := nI (r i)) (I := J) hk (by rw [g8 _ _ (by omega), upI_ne _ _ (Or.inl (by omega))]; exact c2) hN
        have e103 : J 103 w = nI n := by rw [g8 _ _ (by omega), upI_ne _ _ (Or.inl (by omega))]; exact hm.1
        have e104 : J 104 (6 * w + i) = nI (r i) := by rw [g8 _ _ (by omega), upI_ne _ _ (Or.inl (by omega))]; exact hm.2 i hi
        have e104' : K 104 (6 * w + i) = nI (r i) := by rw [k8 _ _ (by omega)]; exact e104
        have hcJ : BC J (12 + 4 * w) n (fun a => if a = i then r i ^^^ 2 ^ j else r a) := by
          refine ⟨by rw [g8 _ _ (by omega), upI_ne _ _ (Or.inl (by omega))]; exact hc.1, fun a ha => ?_⟩
          show _ = nI (if a = i then r i ^^^ 2 ^ j else r a)
          rw [g8 _ _ (by omega), ea, upI_at]
          by_cases z : a = i
          · rw [if_pos z, if_pos z]
          · rw [if_neg z, if_neg z, ← ea]; exact hc.2 a ha
        have hmK : BM (upI K 104 (6 * w + i) (nI (r i ^^^ 2 ^ j))) 103 104 w n (fun a => if a = i then r i ^^^ 2 ^ j else r a) := by
          refine ⟨by rw [upI_ne _ _ (Or.inl (by omega)), k8 _ _ (by omega)]; exact e103, fun a ha => ?_⟩
          show _ = nI (if a = i then r i ^^^ 2 ^ j else r a)
          rw [upI_at]
          by_cases z : a = i
          · rw [if_pos (by omega), if_pos z]
          · rw [if_neg (by omega), if_neg z, k8 _ _ (by omega), g8 _ _ (by omega), upI_ne _ _ (Or.inl (by omega))]; exact hm.2 a ha
        have hl : ∀ a, a < n → (fun a => if a = i then r i ^^^ 2 ^ j else r a) a < 2 ^ n := fun a ha => by
          show (if a = i then r i ^^^ 2 ^ j else r a) < 2 ^ n
          by_cases z : a = i
          · rw [if_pos z]; exact hxl
          · rw [if_neg z]; exact hr a ha
        have hl64 : ∀ a, a < n → (fun a => if a = i then r i ^^^ 2 ^ j else r a) a < 64 := fun a ha => Nat.lt_of_lt_of_le (hl a ha) t6
        have cC := cellsC (N := N) hcJ n6 hl64 hN
        have cM := cellsM (N := N) hw hmK n6 hl64 hN
        have fA : fr sC I (upI K 104 (6 * w + i) (nI (r i ^^^ 2 ^ j))) := (fr.up (S := sC) (by unfold sC; omega)).trans ((g8.mono (fun b j h => by unfold sC; omega)).trans ((k8.mono (fun b j h => by unfold sC; omega)).trans (fr.up (by unfold sC; omega))))
        have fB : ∀ b t, (b ≠ 13 + 4 * w ∨ t ≠ i) → ((12 ≤ b ∧ b < 34) ∨ b = 103 ∨ b = 7 ∨ b = 105 ∨ (b = 104 ∧ t ≠ 6 * w + i)) → upI K 104 (6 * w + i) (nI (r i ^^^ 2 ^ j)) b t = I b t := fun b t h0 h => by
          rw [upI_ne _ _ (by omega), k8 _ _ (by omega), g8 _ _ (by omega), upI_ne _ _ (by omega)]
        refine ⟨nI (cs (fun a => if a = i then r i ^^^ 2 ^ j else r a) n), J, upI K 104 (6 * w + i) (nI (r i ^^^ 2 ^ j)), ?_, ?_, inv_change hPL hPA hI fA (fun v hv => ?_) (fun p hp => ?_) ?_⟩
        · unfold f_X10_cell f_X0_isPlace
          rw [bnd1_some e1, if_neg (by decide), if_pos iw, cw, hc.1, if_neg (nI_pos (by omega)), if_pos ((nI_ltI (by omega) (by omega)).mpr hi), if_neg (nI_pos (by omega)), if_pos ((nI_ltI (by omega) (by omega)).mpr hj), bnd1_some rfl, if_neg (by decide), if_pos iw, bnd1_some tg, bnd1_some g1, bnd1_some cC]
        · unfold f_X11_cell
          have ip : inb (nI (6 * w + i)) 36 = true := inb_nI (by omega) (by decide)
          rw [bnd1_some e2, if_neg (by decide), if_pos iw, cw, e103, bnd1_some p2, if_neg (by decide), if_pos iw, bnd1_some p3, if_neg (by decide), m6, if_pos ip, nI_clamp (by omega), e104, bnd1_some k1, if_pos ip, if_pos ip, e104', shl1 j (by omega), nI_xor]
          simp only [letv]
          rw [bnd1_some cM]
        · by_cases z : v = w
          · subst z
            exact ⟨n, _, n1, n6, hl, ⟨by rw [upI_ne _ _ (Or.inl (by omega)), k8 _ _ (by omega)]; exact hcJ.1, fun a ha => by rw [upI_ne _ _ (Or.inl (by omega)), k8 _ _ (by omega)]; exact hcJ.2 a ha⟩, hmK⟩
          · exact BP_eq (fB _ _ (by omega) (by omega)) (fun q => fB _ _ (by omega) (by omega)) (fB _ _ (by omega) (by omega)) (fun q _ => fB _ _ (by omega) (by omega)) (hI.bs v hv)
        · obtain ⟨y, y1, y2, y3⟩ := hI.t p hp
          exact ⟨y, y1, (fB _ _ (by omega) (by omega)).trans y2, (fB _ _ (by omega) (by omega)).trans y3⟩
        · have eRi : R w i = r i := eR i hi
          refine ⟨k - kd k + 1, by omega, ?_, ?_, sd, upR R w i (R w i ^^^ 2 ^ j), fun b hb => ⟨(c3 b hb).1, (fB _ _ (by omega) (by omega)).trans (c3 b hb).2.1, fun q hq => ?_⟩, Or.inl ⟨w, i, j, hw, by omega, by omega, ?_, ?_, ?_, ?_, ?_, ?_, ?_⟩⟩
          · rw [upI_ne _ _ (Or.inl (by omega)), k8 _ _ (by omega)]; exact g6
          · rw [upI_ne _ _ (Or.inl (by omega))]; exact k6
          · by_cases z : b = w ∧ q = i
            · obtain ⟨z1, z2⟩ := z
              subst z1; subst z2
              rw [upR_at, eRi, esd, upI_eq]
              exact ⟨hxl, rfl⟩
            · rw [upR_ne z]
              have hb6 := (c3 b hb).1
              refine ⟨((c3 b hb).2.2 q hq).1, (fB _ _ (by omega) (by omega)).trans ((c3 b hb).2.2 q hq).2⟩
          · rw [upI_ne _ _ (Or.inl (by omega)), k8 _ _ (by omega)]; exact g2
          · rw [upI_ne _ _ (Or.inl (by omega)), k8 _ _ (by omega)]; exact g3
          · rw [upI_ne _ _ (Or.inl (by omega)), k8 _ _ (by omega)]; exact g4
          · rw [upI_ne _ _ (Or.inl (by omega))]; exact k2
          · rw [upI_ne _ _ (Or.inl (by omega))]; exact k3
          · rw [upI_ne _ _ (Or.inl (by omega)), upR_at, xx, eRi]; exact k4
          · rw [upR_at, xx, upR_back]
            refine chain_at (I := I) (d := kd k) _ _ (fun s hs b hb => ?_) ?_
            · rw [upI_ne _ _ (Or.inl (by omega))]
              rcases hb with hb | hb
              · rw [k8 _ _ (by omega), g7 b s (by omega) (by omega) hs, upI_ne _ _ (Or.inl (by omega))]
              · rw [k7 b s (by omega) (by omega) hs, g8 _ _ (by omega), upI_ne _ _ (Or.inl (by omega))]
            · rw [show k - kd k + kd k = k by omega]; exact c4
      · refine ⟨-1, I, I, ?_, ?_, hI⟩
        · unfold f_X10_cell f_X0_isPlace
          rw [bnd1_some e1, if_neg (by decide), if_pos iw, cw, hc.1, if_neg (nI_pos (by omega)), if_pos ((nI_ltI (by omega) (by omega)).mpr hi)]
          by_cases q : x3 < 0
          · rw [if_pos q, bnd1_some rfl, if_pos rfl]
          · rw [if_neg q, if_neg (h3.resolve_left q), bnd1_some rfl, if_pos rfl]
        · unfold f_X11_cell
          rw [bnd1_some e2, if_neg (by decide), if_pos iw, cw, hm.1, bnd1_some p2, if_neg (by decide), if_pos iw, bnd1_some p3, if_pos rfl]
    · refine ⟨-1, I, I, ?_, ?_, hI⟩
      · unfold f_X10_cell f_X0_isPlace
        rw [bnd1_some e1, if_neg (by decide), if_pos iw, cw, hc.1]
        by_cases q : x2 < 0
        · rw [if_pos q, bnd1_some rfl, if_pos rfl]
        · rw [if_neg q, if_neg (h2.resolve_left q), bnd1_some rfl, if_pos rfl]
      · unfold f_X11_cell
        rw [bnd1_some e2, if_neg (by decide), if_pos iw, cw, hm.1, bnd1_some p2, if_pos rfl]
  · refine ⟨-1, I, I, ?_, ?_, hI⟩
    · unfold f_X10_cell; rw [bnd1_some e1, if_pos rfl]
    · unfold f_X11_cell; rw [bnd1_some e2, if_pos rfl]
theorem s_undo (hPL : frPL PL) (hPA : frPA PA) : S_undo N (Inv0 PL PA) := by
  intro X I L hI
  obtain ⟨k, hk, c1, c2, sd, R, c3, c4⟩ := hI.c
  by_cases k0 : k = 0
  · subst k0
    refine ⟨-3, I, I, ?_, ?_, hI⟩
    · unfold f_X10_undo; rw [if_pos (c1.trans nl0.symm)]
    · unfold f_X11_undo; rw [if_pos (c2.trans nl0.symm)]
  · obtain ⟨t, rfl⟩ : ∃ t, k = t + 1 := ⟨k - 1, by omega⟩
    have nz : ¬ nI (t + 1) = 0 := by rw [nl0, nI_eq (by omega) (by omega)]; omega
    have lz : (0 : Int32) < nI (t + 1) := by rw [nl0]; exact (nI_ltI (by omega) (by omega)).mpr (by omega)
    have e1 : nI (t + 1) - 1 = nI t := by rw [nl1, nI_sub (by omega)]; congr 1
    have it : inb (nI t) 10 = true := inb_nI (by omega) (by decide)
    have ct : Int32.toNatClampNeg (nI t) = t := nI_clamp (by omega)
    rcases c4 with ⟨b, i, j, q1, q2, q3, q4, q5, q6, q7, q8, q9, q10⟩ | ⟨i, j, w, q1, q2, q3, q4, q5, q6, q7, q8, q9, q10, q11⟩
    · obtain ⟨n, r, n1, n6, hr, hc, hm⟩ := hI.b q1
      have t6 := two_le n6
      obtain ⟨s1, s2, s3⟩ := c3 b q1
      have esd : sd b = n := (nI_eq (by omega) (by omega)).mp (s2.symm.trans hm.1)
      have hri := hr i (by omega)
      have eRi : R b i = r i := by
        obtain ⟨s4, s5⟩ := s3 i q2
        rw [esd] at s4
        exact (nI_eq (by omega) (by omega)).mp (s5.symm.trans (hm.2 i (by omega)))
      have pj : 2 ^ j < 2 ^ n := Nat.pow_lt_pow_right (by decide) (by omega)
      have hxl : r i ^^^ 2 ^ j < 2 ^ n := Nat.xor_lt_two_pow hri pj
      have ea : 12 + 4 * b + 1 = 13 + 4 * b := by omega
      have u1 : ∀ a x, a ≠ 67 → upI I 67 4 (nI t) a x = I a x := fun a x h => upI_ne _ _ (Or.inl h)
      have tg := toggle_spec (a := 12 + 4 * b) (i := i) (j := j) (x := r i) (I := upI I 67 4 (nI t)) (by omega) (by omega) (by rw [u1 _ _ (by omega)]; exact hc.2 i (by omega))
      rw [ea] at tg
      generalize hJ : upI (upI I 67 4 (nI t)) (13 + 4 * b) i (nI (r i ^^^ 2 ^ j)) = J at tg
      have fJ : ∀ a x, (a ≠ 67 ∨ x ≠ 4) → (a ≠ 13 + 4 * b ∨ x ≠ i) → J a x = I a x := fun a x h1 h2 => by rw [← hJ, upI_ne _ _ h2, upI_ne _ _ h1]
      have J67 : J 67 4 = nI t := by rw [← hJ, upI_ne _ _ (Or.inl (by omega)), upI_eq]
      have Jrow : J (13 + 4 * b) i = nI (r i ^^^ 2 ^ j) := by rw [← hJ, upI_eq]
      have u2 : ∀ a x, a ≠ 99 → upI J 99 9 (nI t) a x = J a x := fun a x h => upI_ne _ _ (Or.inl h)
      refine ⟨nI t, J, upI (upI J 99 9 (nI t)) 104 (6 * b + i) (nI (r i ^^^ 2 ^ j)), ?_, ?_, inv_change hPL hPA hI ?_ (fun v hv => ?_) (fun p hp => ?_) ?_⟩
      · unfold f_X10_undo f_X1_undoLatest
        rw [c1, if_neg nz, if_pos lz, e1]
        simp only [letv]
        rw [upI_eq, if_pos it, ct, u1 68 t (by decide), q4, if_neg (by
          intro h
          have := congrArg Int32.toInt h
          rw [nI_toInt (by omega)] at this
          have h2 : (-1 : Int32).toInt = -1 := by decide
          omega), if_pos it, if_pos (inb_nI q1 (by decide)), if_pos it, if_pos it, u1 69 t (by decide), u1 70 t (by decide), q5, q6, nI_clamp (by omega), show 1 + 11 + 4 * b = 12 + 4 * b by omega, bnd1_some (bnd1_some tg), J67]
      · unfold f_X11_undo
        have j99 : J 99 9 = nI (t + 1) := by rw [fJ _ _ (by omega) (by omega)]; exact c2
        rw [j99, if_neg nz, e1]
        simp only [letv]
        rw [upI_eq, if_pos it, ct, u2 108 t (by decide), u2 109 t (by decide), u2 110 t (by decide), fJ 108 t (by omega) (by omega), fJ 109 t (by omega) (by omega), fJ 110 t (by omega) (by omega), q7, q8, q9, eRi, if_neg (nI_pos (by omega)), if_pos it, if_pos it, if_pos it, m6, if_pos (inb_nI (by omega) (by decide)), nI_clamp (by omega), upI_ne 99 9 (Or.inl (by omega)), upI_eq]
      · intro a x h
        rw [upI_ne _ _ (by unfold sC at h; omega), upI_ne _ _ (by unfold sC at h; omega), fJ _ _ (by unfold sC at h; omega) (by unfold sC at h; omega)]
      · by_cases z : v = b
        · subst z
          refine ⟨n, fun a => if a = i then r i ^^^ 2 ^ j else r a, n1, n6, fun a ha => ?_, ⟨?_, fun a ha => ?_⟩, ⟨?_, fun a ha => ?_⟩⟩
          · show (if a = i then r i ^^^ 2 ^ j else r a) < 2 ^ n
            by_cases y : a = i
            · rw [if_pos y]; exact hxl
            · rw [if_neg y]; exact hr a ha
          · rw [upI_ne _ _ (Or.inl (by omega)), u2 _ _ (by omega), fJ _ _ (by omega) (by omega)]; exact hc.1
          · show _ = nI (if a = i then r i ^^^ 2 ^ j else r a)
            rw [upI_ne _ _ (Or.inl (by omega)), u2 _ _ (by omega), ea]
            by_cases y : a = i
            · rw [if_pos y, y]; exact Jrow
            · rw [if_neg y, fJ _ _ (by omega) (by omega), ← ea]; exact hc.2 a ha
          · rw [upI_ne _ _ (Or.inl (by omega)), u2 _ _ (by omega), fJ _ _ (by omega) (by omega)]; exact hm.1
          · show _ = nI (if a = i then r i ^^^ 2 ^ j else r a)
            rw [upI_at]
            by_cases y : a = i
            · rw [if_pos (by omega), if_pos y]
            · rw [if_neg (by omega), if_neg y, u2 _ _ (by omega), fJ _ _ (by omega) (by omega)]; exact hm.2 a ha
        · refine BP_eq ?_ (fun q => ?_) ?_ (fun q _ => ?_) (hI.bs v hv) <;> rw [upI_ne _ _ (by omega), u2 _ _ (by omega), fJ _ _ (by omega) (by omega)]
      · obtain ⟨y, y1, y2, y3⟩ := hI.t p hp
        refine ⟨y, y1, ?_, ?_⟩
        · rw [upI_ne _ _ (Or.inl (by omega)), u2 _ _ (by omega), fJ _ _ (by omega) (by omega)]; exact y2
        · rw [upI_ne _ _ (Or.inl (by omega)), u2 _ _ (by omega), fJ _ _ (by omega) (by omega)]; exact y3
      · refine ⟨t, by omega, ?_, ?_, sd, upR R b i (R b i ^^^ 2 ^ j), fun v hv => ⟨(c3 v hv).1, ?_, fun q hq => ?_⟩, chain_at (I := I) (d := 0) _ _ (fun s hs a ha => ?_) q10⟩
        · rw [upI_ne _ _ (Or.inl (by omega)), u2 _ _ (by omega)]; exact J67
        · rw [upI_ne _ _ (Or.inl (by omega)), upI_eq]
        · rw [upI_ne _ _ (Or.inl (by omega)), u2 _ _ (by omega), fJ _ _ (by omega) (by omega)]; exact (c3 v hv).2.1
        · by_cases z : v = b ∧ q = i
          · obtain ⟨z1, z2⟩ := z
            subst z1; subst z2
            rw [upR_at, eRi, esd, upI_eq]
            exact ⟨hxl, rfl⟩
          · rw [upR_ne z]
            have hb6 := (c3 v hv).1
            refine ⟨((c3 v hv).2.2 q hq).1, ?_⟩
            rw [upI_ne _ _ (by omega), u2 _ _ (by omega), fJ _ _ (by omega) (by omega)]; exact ((c3 v hv).2.2 q hq).2
        · rw [upI_ne _ _ (Or.inl (by omega)), u2 _ _ (by omega), fJ _ _ (by omega) (by omega)]; rfl
    · have u1 : ∀ a x, a ≠ 67 → upI I 67 4 (nI t) a x = I a x := fun a x h => upI_ne _ _ (Or.inl h)
      generalize hJ : upI (upI I 67 4 (nI t)) 7 (6 * i + j) (nI w) = J
      have fJ : ∀ a x, (a ≠ 67 ∨ x ≠ 4) → (a ≠ 7 ∨ x ≠ 6 * i + j) → J a x = I a x := fun a x h1 h2 => by rw [← hJ, upI_ne _ _ h2, upI_ne _ _ h1]
      have J67 : J 67 4 = nI t := by rw [← hJ, upI_ne _ _ (Or.inl (by omega)), upI_eq]
      have Jrow : J 7 (6 * i + j) = nI w := by rw [← hJ, upI_eq]
      have u2 : ∀ a x, a ≠ 99 → upI J 99 9 (nI t) a x = J a x := fun a x h => upI_ne _ _ (Or.inl h)
      have mm : nI i * 6 + nI j = nI (6 * i + j) := by rw [nl6, nI_mul, nI_add, Nat.mul_comm]
      refine ⟨nI t, J, upI (upI J 99 9 (nI t)) 105 (6 * i + j) (nI w), ?_, ?_, inv_change hPL hPA hI ?_ (fun v hv => ?_) (fun p hp => ?_) ?_⟩
      · unfold f_X10_undo f_X1_undoLatest
        rw [c1, if_neg nz, if_pos lz, e1]
        simp only [letv]
        rw [upI_eq, if_pos it, ct, u1 68 t (by decide), q4, if_pos rfl, if_pos it, if_pos it, if_pos it, u1 69 t (by decide), u1 70 t (by decide), u1 71 t (by decide), q5, q6, q7, mm, if_pos (inb_nI (by omega) (by decide)), nI_clamp (by omega), show 1 + 6 = 7 from rfl, hJ, bnd1_some rfl, J67]
      · unfold f_X11_undo
        have j99 : J 99 9 = nI (t + 1) := by rw [fJ _ _ (by omega) (by omega)]; exact c2
        rw [j99, if_neg nz, e1]
        simp only [letv]
        rw [upI_eq, if_pos it, ct, u2 108 t (by decide), u2 109 t (by decide), u2 110 t (by decide), fJ 108 t (by omega) (by omega), fJ 109 t (by omega) (by omega), fJ 110 t (by omega) (by omega), q8, q9, q10, if_pos (by decide), if_pos it, if_pos it, if_pos (inb_nI (by omega) (by decide)), nI_clamp (by omega), upI_ne 99 9 (Or.inl (by omega)), upI_eq]
      · intro a x h
        rw [upI_ne _ _ (by unfold sC at h; omega), upI_ne _ _ (by unfold sC at h; omega), fJ _ _ (by unfold sC at h; omega) (by unfold sC at h; omega)]
      · refine BP_eq ?_ (fun q => ?_) ?_ (fun q _ => ?_) (hI.bs v hv) <;> rw [upI_ne _ _ (by omega), u2 _ _ (by omega), fJ _ _ (by omega) (by omega)]
      · by_cases z : p = 6 * i + j
        · refine ⟨w, q3, ?_, ?_⟩
          · rw [z, upI_ne _ _ (Or.inl (by omega)), u2 _ _ (by omega)]; exact Jrow
          · rw [z, upI_eq]
        · obtain ⟨y, y1, y2, y3⟩ := hI.t p hp
          refine ⟨y, y1, ?_, ?_⟩
          · rw [upI_ne _ _ (Or.inl (by omega)), u2 _ _ (by omega), fJ _ _ (by omega) (by omega)]; exact y2
          · rw [upI_ne _ _ (by omega), u2 _ _ (by omega), fJ _ _ (by omega) (by omega)]; exact y3
      · refine ⟨t, by omega, ?_, ?_, sd, R, fun v hv => ⟨(c3 v hv).1, ?_, fun q hq => ⟨((c3 v hv).2.2 q hq).1, ?_⟩⟩, chain_at (I := I) (d := 0) _ _ (fun s hs a ha => ?_) q11⟩
        · rw [upI_ne _ _ (Or.inl (by omega)), u2 _ _ (by omega)]; exact J67
        · rw [upI_ne _ _ (Or.inl (by omega)), upI_eq]
        · rw [upI_ne _ _ (Or.inl (by omega)), u2 _ _ (by omega), fJ _ _ (by omega) (by omega)]; exact (c3 v hv).2.1
        · rw [upI_ne _ _ (Or.inl (by omega)), u2 _ _ (by omega), fJ _ _ (by omega) (by omega)]; exact ((c3 v hv).2.2 q hq).2
        · rw [upI_ne _ _ (Or.inl (by omega)), u2 _ _ (by omega), fJ _ _ (by omega) (by omega)]; rfl
end CS3
