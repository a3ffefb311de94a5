section TS4
variable {PL : MX → MI → ML → Prop} {PA : MI → Prop} {N : Nat}
theorem part_cases {a n : Nat} {I : MI} (v w : Int32) (hn : n ≤ 60) (h : I a 1 = nI n) : (∃ p m, v = nI p ∧ w = nI m ∧ p + m ≤ n ∧ f_X7_hasPart a v w I = some 1) ∨ (f_X7_hasPart a v w I = some 0 ∧ (w < 0 ∨ v < 0 ∨ ∃ p m, p < 2 ^ 31 ∧ m < 2 ^ 31 ∧ v = nI p ∧ w = nI m ∧ n < p + m)) := by
  unfold f_X7_hasPart
  by_cases h1 : w < 0
  · exact Or.inr ⟨by rw [if_pos h1], Or.inl h1⟩
  · rw [if_neg h1]
    by_cases h2 : v < 0
    · exact Or.inr ⟨by rw [if_pos h2], Or.inr (Or.inl h2)⟩
    · rw [if_neg h2]
      obtain ⟨p, hp, rfl⟩ := nI_of h2
      obtain ⟨m, hm, rfl⟩ := nI_of h1
      rw [h]
      by_cases h3 : n < m
      · exact Or.inr ⟨by rw [if_pos ((nI_ltI (by omega) hm).mpr h3)], Or.inr (Or.inr ⟨p, m, hp, hm, rfl, rfl, by omega⟩)⟩
      · rw [if_neg (fun q => h3 ((nI_ltI (by omega) hm).mp q)), nI_sub (by omega)]
        by_cases h4 : n - m < p
        · exact Or.inr ⟨by rw [if_pos ((nI_ltI (by omega) hp).mpr h4)], Or.inr (Or.inr ⟨p, m, hp, hm, rfl, rfl, by omega⟩)⟩
        · exact Or.inl ⟨p, m, rfl, rfl, by omega, by rw [if_neg (fun q => h4 ((nI_ltI (by omega) hp).mp q))]⟩
theorem s_shift (hPL : frPL PL) (hPA : frPA PA) (hN : 1000 ≤ N) : S_shift N (Inv0 PL PA) := by
  intro X I L x1 x2 x3 x4 x5 hI
  rcases six_cases x1 with ⟨a, ha, rfl, e1, e2⟩ | ⟨e1, e2⟩
  · rcases six_cases x3 with ⟨b, hb, rfl, e3, e4⟩ | ⟨e3, e4⟩
    · have ia : inb (nI a) 6 = true := inb_nI ha (by decide)
      have ca : Int32.toNatClampNeg (nI a) = a := nI_clamp (by omega)
      have ib : inb (nI b) 6 = true := inb_nI hb (by decide)
      have cb : Int32.toNatClampNeg (nI b) = b := nI_clamp (by omega)
      obtain ⟨n, hn, q1, q2, q3, q4, q5⟩ := hI.r a ha
      obtain ⟨n', hn', r1, r2, r3, r4, r5⟩ := hI.r b hb
      have nneg : ∀ s, s ≤ 4 → ¬ nI s = -1 := by
        intro s hs h
        have := congrArg Int32.toInt h
        rw [nI_toInt (by omega)] at this
        have h2 : (-1 : Int32).toInt = -1 := by decide
        omega
      rcases q4 with ⟨z1, _⟩ | ⟨s, hs, z1⟩
      · refine ⟨-11, L, L, ?_, ?_, hI⟩
        · unfold f_X10_shift
          rw [bnd1_some e1, if_neg (by decide), bnd1_some e3, if_neg (by decide), if_pos ia, if_pos ib, ca, cb, q3, z1, if_pos rfl]
        · unfold f_X11_shift
          rw [bnd1_some e2, if_neg (by decide), bnd1_some e4, if_neg (by decide), if_pos ia, ca, z1, if_pos (by decide)]
      · have ns : ¬ nI s < 0 := nI_pos (by omega)
        rcases r4 with ⟨y1, _⟩ | ⟨s', hs', y1⟩
        · refine ⟨-11, L, L, ?_, ?_, hI⟩
          · unfold f_X10_shift
            rw [bnd1_some e1, if_neg (by decide), bnd1_some e3, if_neg (by decide), if_pos ia, if_pos ib, ca, cb, q3, z1, if_neg (nneg s hs), r3, y1, if_pos rfl]
          · unfold f_X11_shift
            rw [bnd1_some e2, if_neg (by decide), bnd1_some e4, if_neg (by decide), if_pos ia, ca, z1, if_neg ns, if_pos ib, cb, y1, if_pos (by decide)]
        · have ns' : ¬ nI s' < 0 := nI_pos (by omega)
          have uC : f_X10_shift (nI a) x2 (nI b) x4 x5 I L = (if nI s = nI s' then bnd1 (f_X7_hasPart (79 + 2 * a) x2 x5 I) fun r12 => (if r12 = 0 then some ((-13), L) else bnd1 (f_X7_hasPart (79 + 2 * b) x4 x5 I) fun r15 => (if r15 = 0 then some ((-13), L) else if cpok x2 x4 x5 60 60 then letv (cpL L (79 + 2 * a + 1) (79 + 2 * b + 1) (Int32.toNatClampNeg x2) (Int32.toNatClampNeg x4) (Int32.toNatClampNeg x5)) fun L19 => some (x5, L19) else none)) else some ((-12), L)) := by
            unfold f_X10_shift
            rw [bnd1_some e1, if_neg (by decide), bnd1_some e3, if_neg (by decide), if_pos ia, if_pos ib, ca, cb, q3, z1, if_neg (nneg s hs), r3, y1, if_neg (nneg s' hs')]
          have uM : ∀ K : ML, f_X11_shift N (nI a) x2 (nI b) x4 x5 I K = (if nI s = nI s' then (if x5 < 0 then some ((-13), K) else (if x2 < 0 then some ((-13), K) else (if x4 < 0 then some ((-13), K) else (if (Int32.toInt64 (nI n)) < ((Int32.toInt64 x2) + (Int32.toInt64 x5)) then some ((-13), K) else (if (Int32.toInt64 (nI n')) < ((Int32.toInt64 x4) + (Int32.toInt64 x5)) then some ((-13), K) else bnd1 (f_X11_shift_l110 N (nI a) x2 (nI b) x4 x5 0 K) fun L25 => bnd1 (f_X11_shift_l147 N (nI b) x4 x5 0 L25) fun L31 => some (x5, L31)))))) else some ((-12), K)) := by
            intro K
            unfold f_X11_shift
            rw [bnd1_some e2, if_neg (by decide), bnd1_some e4, if_neg (by decide), if_pos ia, ca, z1, if_neg ns, if_pos ib, cb, y1, if_neg ns', if_pos ia, if_pos ib, q2, r2, if_pos ia, if_pos ib]
          by_cases hss : nI s = nI s'
          · rw [if_pos hss] at uC
            simp only [if_pos hss] at uM
            have bad : ∀ K : ML, (x5 < 0 ∨ x2 < 0 ∨ ∃ p m, p < 2 ^ 31 ∧ m < 2 ^ 31 ∧ x2 = nI p ∧ x5 = nI m ∧ n < p + m) ∨ (x5 < 0 ∨ x4 < 0 ∨ ∃ p m, p < 2 ^ 31 ∧ m < 2 ^ 31 ∧ x4 = nI p ∧ x5 = nI m ∧ n' < p + m) → f_X11_shift N (nI a) x2 (nI b) x4 x5 I K = some (-13, K) := by
              intro K h
              rw [uM K]
              by_cases h5 : x5 < 0
              · rw [if_pos h5]
              · rw [if_neg h5]
                by_cases h2 : x2 < 0
                · rw [if_pos h2]
                · rw [if_neg h2]
                  by_cases h4 : x4 < 0
                  · rw [if_pos h4]
                  · rw [if_neg h4]
                    rcases h with h | h
                    · obtain ⟨p, m, hp, hm, rfl, rfl, hlt⟩ := (h.resolve_left h5).resolve_left h2
                      rw [if_pos ((part64 (by omega) hp hm).mpr hlt)]
                    · obtain ⟨p, m, hp, hm, rfl, rfl, hlt⟩ := (h.resolve_left h5).resolve_left h4
                      by_cases h6 : Int32.toInt64 (nI n) < Int32.toInt64 x2 + Int32.toInt64 (nI m)
                      · rw [if_pos h6]
                      · rw [if_neg h6, if_pos ((part64 (by omega) hp hm).mpr hlt)]
            rcases part_cases (a := 79 + 2 * a) x2 x5 hn q1 with ⟨p, m, rfl, rfl, hpm, g1⟩ | ⟨g1, g2⟩
            · rcases part_cases (a := 79 + 2 * b) x4 (nI m) hn' r1 with ⟨q, m', rfl, hmm, hqm, g3⟩ | ⟨g3, g4⟩
              · have m31 : m' < 2 ^ 31 := by omega
                have em : m = m' := (nI_eq (by omega) (by omega)).mp hmm
                subst em
                obtain ⟨K, k1, ⟨Q, k2⟩, k3, k4⟩ := shiftM (N := N) (a := a) (b := b) (p := p) (q := q) (m := m) (v3 := nI b) (v4 := nI q) (L := cpL L (80 + 2 * a) (80 + 2 * b) p q m) ha hb (by omega) (by omega) hN
                have fC : frL (fun c j => c = 80 + 2 * b) L (cpL L (80 + 2 * a) (80 + 2 * b) p q m) := fun c j h => by unfold cpL; rw [if_neg h]
                refine ⟨nI m, cpL L (80 + 2 * a) (80 + 2 * b) p q m, K, ?_, ?_, inv_tape hPL hPA hI hb fr.rfl ((fC.mono (S' := fun c j => scrL c j ∨ sRL b c j) (fun c j h => by unfold sRL; omega)).trans (k4.mono (fun c j h => by unfold scrL sRL; omega))) ⟨n', hn', r1, r2, r3, Or.inr ⟨s', hs', y1⟩, fun i hi => ?_⟩⟩
                · have hcp : cpok (nI p) (nI q) (nI m) 60 60 = true := by
                    simp only [cpok, Bool.and_eq_true, Bool.not_eq_true', decide_eq_false_iff_not, decide_eq_true_eq]
                    rw [nI_clamp (by omega), nI_clamp (by omega), nI_clamp (by omega)]
                    exact ⟨⟨⟨nI_pos (by omega), nI_pos (by omega)⟩, nI_pos (by omega)⟩, by omega, by omega⟩
                  rw [uC, bnd1_some g1, if_neg (by decide), bnd1_some g3, if_neg (by decide), if_pos hcp, nI_clamp (by omega), nI_clamp (by omega), nI_clamp (by omega), show 79 + 2 * a + 1 = 80 + 2 * a by omega, show 79 + 2 * b + 1 = 80 + 2 * b by omega]
                  rfl
                · rw [bnd1_some k2] at k1
                  rw [uM, if_neg (nI_pos (by omega)), if_neg (nI_pos (by omega)), if_neg (nI_pos (by omega)), if_neg (fun z => by have := (part64 (by omega) (by omega) (by omega)).mp z; omega), if_neg (fun z => by have := (part64 (by omega) (by omega) (by omega)).mp z; omega), bnd1_some k2, bnd1_some k1]
                · rw [k4 _ _ (by omega)]
                  unfold cpL va_cpy
                  rw [if_pos rfl]
                  by_cases z : q ≤ i ∧ i < q + m
                  · have ei : i = q + (i - q) := by omega
                    rw [if_pos z]
                    have := k3 (i - q) (by omega)
                    rw [← ei] at this
                    rw [this, fC 115 _ (by omega)]
                    exact q5 _ (by omega)
                  · rw [if_neg z, k4 _ _ (by omega), fC 115 _ (by omega)]
                    exact r5 i hi
              · refine ⟨-13, L, L, ?_, bad L (Or.inr g4), hI⟩
                rw [uC, bnd1_some g1, if_neg (by decide), bnd1_some g3, if_pos rfl]
            · refine ⟨-13, L, L, ?_, bad L (Or.inl g2), hI⟩
              rw [uC, bnd1_some g1, if_pos rfl]
          · refine ⟨-12, L, L, ?_, ?_, hI⟩
            · rw [uC, if_neg hss]
            · rw [uM, if_neg hss]
    · refine ⟨-1, L, L, ?_, ?_, hI⟩
      · unfold f_X10_shift; rw [bnd1_some e1, if_neg (by decide), bnd1_some e3, if_pos rfl]
      · unfold f_X11_shift; rw [bnd1_some e2, if_neg (by decide), bnd1_some e4, if_pos rfl]
  · refine ⟨-1, L, L, ?_, ?_, hI⟩
    · unfold f_X10_shift; rw [bnd1_some e1, if_pos rfl]
    · unfold f_X11_shift; rw [bnd1_some e2, if_pos rfl]
end TS4
