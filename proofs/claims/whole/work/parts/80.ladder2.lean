/-! ===== ladderOf ===== -/
def LD (n q : Nat) (I : MI) (L : ML) : Prop := I q 0 = nI (sz n) ∧ (∀ j, j < sz n → I (q + 1) j = nI (dgs (hh n j) n) ∧ L (q + 2) j = qL (ky n j)) ∧ LDp n (sz n) q I L
theorem LD_eq {n q : Nat} {I I' : MI} {L L' : ML} (h1 : ∀ b j, q ≤ b → b < q + 8 → I' b j = I b j) (h2 : ∀ b j, q ≤ b → b < q + 8 → L' b j = L b j) (h : LD n q I L) : LD n q I' L' := by
  obtain ⟨a, b, P, pk, pf, c, d, e⟩ := h
  exact ⟨by rw [h1 _ _ (by omega) (by omega)]; exact a, fun j hj => ⟨by rw [h1 _ _ (by omega) (by omega)]; exact (b j hj).1, by rw [h2 _ _ (by omega) (by omega)]; exact (b j hj).2⟩, P, pk, pf, c, by rw [h1 _ _ (by omega) (by omega)]; exact d, fun p hp => ⟨by rw [h2 _ _ (by omega) (by omega)]; exact (e p hp).1, by rw [h1 _ _ (by omega) (by omega)]; exact (e p hp).2.1, by rw [h1 _ _ (by omega) (by omega)]; exact (e p hp).2.2⟩⟩
section LDR
variable {N n q : Nat}
theorem gg_small : ∀ n, n < 7 → ∀ k, k < 7 → gg n n k < 8192 := by decide +kernel
theorem initS {I0 : MI} {L0 : ML} (n1 : 1 ≤ n) (n6 : n ≤ 6) (h0 : I0 q 0 = nI (sz n)) (h3 : I0 q 3 = 0) (hr : ∀ i, i < n → I0 (q + 6) i = 0) (hN : 1000 ≤ N) : ∃ I L, f_X2_init_t N q (sz n) (q + 6) n (q + 7) I0 L0 = some (I, L) ∧ LD n q I L ∧ fr (fun b j => q ≤ b ∧ b < q + 8) I0 I ∧ frL (fun b j => q ≤ b ∧ b < q + 8) L0 L := by
  have s9 := sz_le n (by omega)
  have key := loop_inv (f := fun s : Int32 × MI × ML => f_X2_init_b75 N q (sz n) (q + 6) n (q + 7) s.1 s.2.1 s.2.2) (fun m st => st.1 = nI m ∧ st.2.1 q 0 = nI (sz n) ∧ (∀ j, j < m → st.2.1 (q + 1) j = nI (dgs (hh n j) n) ∧ st.2.2 (q + 2) j = qL (ky n j)) ∧ LDp n m q st.2.1 st.2.2 ∧ (∀ i, i < n → st.2.1 (q + 6) i = nI ((rws n m).getD i 0)) ∧ fr (fun b j => q ≤ b ∧ b < q + 8) I0 st.2.1 ∧ frL (fun b j => q ≤ b ∧ b < q + 8) L0 st.2.2) (fun r => LD n q r.1 r.2 ∧ fr (fun b j => q ≤ b ∧ b < q + 8) I0 r.1 ∧ frL (fun b j => q ≤ b ∧ b < q + 8) L0 r.2) (sz n) ?_ ?_ N 0 (0, I0, L0) (Nat.zero_le _) (by omega) ⟨nl0, h0, fun j hj => absurd hj (by omega), ⟨0, fun _ => 0, fun _ => 0, ⟨Nat.le_refl _, fun p q _ h => by omega, fun p h => by omega, fun j h => by omega⟩, h3.trans nl0, fun p h => by omega⟩, fun i hi => ?_, fr.rfl, frL.rfl⟩
  · obtain ⟨⟨I, L⟩, e, p1, p2, p3⟩ := key
    refine ⟨I, L, ?_, p1, p2, p3⟩
    unfold f_X2_init_t f_X2_init_l75
    rw [bnd2_some e]
  · rintro m ⟨x, I, L⟩ hm ⟨e1, g0, g1, g2, g3, f1, f2⟩
    simp only at e1 g0 g1 g2 g3 f1 f2
    subst e1
    obtain ⟨r1, r2, r3⟩ := row_ok n1 n6 hm
    have okk := row_okK n1 n6 hm
    have im : inb (nI m) (sz n) = true := inb_nI hm (by omega)
    obtain ⟨J1, a1, a2, a3⟩ := fillS (N := N) (a2 := q + 6) (a3 := q + 7) (I := I) (h := hh n m) n1 n6 (by omega) g3 r2 r3 (by omega)
    have row1 : ∀ i, i < n → J1 (q + 6) i = nI (hh n m i) := fun i hi => by rw [a3 _ _ (by omega)]; exact g3 i hi
    have b1 := digsS (N := N) (a2 := q + 6) (I := J1) (h := hh n m) n6 row1 (by omega)
    have b2 := keyS (N := N) (a := q + 7) (I := upI J1 (q + 1) m (nI (dgs (hh n m) n))) (c := cN (hh n m) n) okk (fun k k1 k7 => by
      have l1 := cN_le (n := n) r2 (k := k) (Nat.le_refl n)
      have l2 := gg_small n (by omega) k k7
      exact ⟨by rw [upI_ne _ _ (by omega)]; exact a2 k k7, by omega⟩) (by omega)
    have ld2 : LDp n m q (upI J1 (q + 1) m (nI (dgs (hh n m) n))) (upL L (q + 2) m (qL (ky n m))) := by
      obtain ⟨P, pk, pf, c, d, e⟩ := g2
      refine ⟨P, pk, pf, c, by rw [upI_ne _ _ (by omega), a3 _ _ (by omega)]; exact d, fun p hp => ⟨by rw [upL_ne _ _ (by omega)]; exact (e p hp).1, by rw [upI_ne _ _ (by omega), a3 _ _ (by omega)]; exact (e p hp).2.1, by rw [upI_ne _ _ (by omega), a3 _ _ (by omega)]; exact (e p hp).2.2⟩⟩
    obtain ⟨I2, L2, c1, c2, c3, c4⟩ := sortS (N := N) (q := q) n1 n6 hm (upL_eq L (q + 2) m (qL (ky n m))) ld2 hN
    have row2 : ∀ i, i < n → I2 (q + 6) i = nI ((rws n m).getD i 0) := fun i hi => by rw [c3 _ _ (by omega), upI_ne _ _ (by omega)]; exact row1 i hi
    obtain ⟨I3, d1, d2, d3⟩ := goS (N := N) (a2 := q + 6) (I := I2) (l := rws n m) n1 n6 r1 r2 row2 (by omega)
    refine ⟨(nI (m + 1), I3, L2), ?_, rfl, ?_, fun j hj => ?_, ?_, fun i hi => ?_, ?_, ?_⟩
    · show f_X2_init_b75 N q (sz n) (q + 6) n (q + 7) (nI m) I L = _
      unfold f_X2_init_b75
      rw [g0, if_pos ((nI_ltI (by omega) (by omega)).mpr hm), bnd1_some a1, bnd1_some b1, if_pos im, nI_clamp (by omega)]
      simp only [letv]
      rw [bnd1_some b2, if_pos im, show K6 (cN (hh n m) n) = ky n m from rfl, bnd2_some c1, bnd1_some d1, nI_1]
    · show I3 q 0 = _
      rw [d3 _ _ (by omega), c3 _ _ (by omega), upI_ne _ _ (by omega), a3 _ _ (by omega)]; exact g0
    · show I3 (q + 1) j = _ ∧ L2 (q + 2) j = _
      rw [d3 _ _ (by omega), c3 _ _ (by omega), c4 _ _ (by omega), upI_at, upL_at]
      by_cases z : j = m
      · rw [if_pos z, if_pos z, z]; exact ⟨rfl, rfl⟩
      · rw [if_neg z, if_neg z, a3 _ _ (by omega)]; exact g1 j (by omega)
    · show LDp n (m + 1) q I3 L2
      obtain ⟨P, pk, pf, c, d, e⟩ := c2
      exact ⟨P, pk, pf, c, by rw [d3 _ _ (by omega)]; exact d, fun p hp => ⟨(e p hp).1, by rw [d3 _ _ (by omega)]; exact (e p hp).2.1, by rw [d3 _ _ (by omega)]; exact (e p hp).2.2⟩⟩
    · show I3 (q + 6) i = _
      rw [d2 i hi]; rfl
    · exact f1.trans ((a3.mono (fun b j h => by omega)).trans ((fr.up (S := fun b j => q ≤ b ∧ b < q + 8) (by omega)).trans ((c3.mono (fun b j h => by omega)).trans (d3.mono (fun b j h => by omega)))))
    · exact f2.trans ((frL.up (S := fun b j => q ≤ b ∧ b < q + 8) (by omega)).trans (c4.mono (fun b j h => by omega)))
  · rintro ⟨x, I, L⟩ ⟨e1, g0, g1, g2, g3, f1, f2⟩
    simp only at e1 g0 g1 g2 g3 f1 f2
    subst e1
    refine ⟨(I, L), ?_, ⟨g0, g1, g2⟩, f1, f2⟩
    show f_X2_init_b75 N q (sz n) (q + 6) n (q + 7) (nI (sz n)) I L = _
    unfold f_X2_init_b75
    rw [g0, if_neg (nI_le0 (by omega) (Nat.le_refl _))]
  · show I0 (q + 6) i = nI ((List.replicate n 0).getD i 0)
    rw [hr i hi, List.getD_eq_getElem?_getD, List.getElem?_replicate, if_pos hi]
    exact nl0
def PL0 (X : MX) (I : MI) (L : ML) : Prop := 138 ≤ X.2.2 ∧ ∀ n q, X.2.1 97 n = some q → 138 ≤ q ∧ q + 8 ≤ X.2.2 ∧ (1 ≤ n → n ≤ 6 → LD n q I L)
theorem frPL0 : frPL PL0 := fun X I I' L L' h1 h2 h => ⟨h.1, fun n q hq => ⟨(h.2 n q hq).1, (h.2 n q hq).2.1, fun a b => LD_eq (fun b j hb _ => h1 b j (by have := (h.2 n q hq).1; omega)) (fun b j hb _ => h2 b j (by have := (h.2 n q hq).1; omega)) ((h.2 n q hq).2.2 a b)⟩⟩
theorem lad_both {X : MX} {I : MI} {L : ML} (n1 : 1 ≤ n) (n6 : n ≤ 6) (hM : shX10 X) (hM11 : shX11 X) (h : PL0 X I L) (hN : 1000 ≤ N) : ∃ q X' I' L', f_X10_ladderOf N (nI n) X I L = some (q, X', I', L') ∧ shX10 X' ∧ shX11 X' ∧ PL0 X' I' L' ∧ LD n q I' L' ∧ 138 ≤ q ∧ fr (fun b j => 138 ≤ b) I I' ∧ frL (fun b j => 138 ≤ b) L L' := by
  have cn : Int32.toNatClampNeg (nI n) = n := nI_clamp (by omega)
  have i7 : inb (nI n) 7 = true := inb_nI (by omega) (by decide)
  have s9 := sz_le n (by omega)
  obtain ⟨z1, z2⟩ := h
  have fin : ∀ q X' I' L', f_X10_ladderOf N (nI n) X I L = some (q, X', I', L') → shX10 X' ∧ shX11 X' := fun q X' I' L' e => by
    obtain ⟨a, _, c, d⟩ := ladderOf_ext hM e
    exact ⟨a, sh11_ext (sh10_T8 hM) hM11 c d⟩
  cases hF : X.2.1 97 n with
  | some q =>
    have e : f_X10_ladderOf N (nI n) X I L = some (q, X, I, L) := by
      unfold f_X10_ladderOf
      rw [if_pos i7, cn, hF]
    obtain ⟨a, b, c⟩ := z2 n q hF
    exact ⟨q, X, I, L, e, (fin _ _ _ _ e).1, (fin _ _ _ _ e).2, ⟨z1, z2⟩, c n1 n6, a, fr.rfl, frL.rfl⟩
  | none =>
    have ln : ladN (nI n) = sz n := by unfold ladN; rw [cn, tab3n n (by omega), nI_clamp (by omega)]
    generalize hq : X.2.2 = q at *
    generalize hI0 : nwI (nwI (nwI (nwI (nwI (upI (nwI I q) q 0 (tabI 3 n)) (q + 1)) (q + 4)) (q + 5)) (q + 6)) (q + 7) = I0
    generalize hL0 : nwL (nwL L (q + 2)) (q + 3) = L0
    have fI : fr (fun b j => q ≤ b) I I0 := fun b j hb => by
      rw [← hI0]
      unfold nwI
      rw [if_neg (by omega), if_neg (by omega), if_neg (by omega), if_neg (by omega), if_neg (by omega), upI_ne _ _ (by omega), if_neg (by omega)]
    have fL : frL (fun b j => q ≤ b) L L0 := fun b j hb => by
      rw [← hL0]
      unfold nwL
      rw [if_neg (by omega), if_neg (by omega)]
    obtain ⟨I', L', a1, a2, a3, a4⟩ := initS (N := N) (n := n) (q := q) (I0 := I0) (L0 := L0) n1 n6 (by
        rw [← hI0]; unfold nwI
        rw [if_neg (by omega), if_neg (by omega), if_neg (by omega), if_neg (by omega), if_neg (by omega), upI_eq, tab3n n (by omega)]) (by
        rw [← hI0]; unfold nwI
        rw [if_neg (by omega), if_neg (by omega), if_neg (by omega), if_neg (by omega), if_neg (by omega), upI_ne _ _ (by omega), if_pos rfl]) (fun i hi => by
        rw [← hI0]; unfold nwI
        rw [if_neg (by omega), if_pos rfl]) hN
    have e : f_X10_ladderOf N (nI n) X I L = some (q, ladX X (nI n), I', L') := by
      unfold f_X10_ladderOf f_X2_init
      rw [if_pos i7, cn, hF, hq]
      simp only
      rw [if_neg (by omega), ln, hI0, hL0, bnd2_some a1]
    have g1 : fr (fun b j => q ≤ b) I I' := fI.trans (a3.mono (fun b j h => by omega))
    have g2 : frL (fun b j => q ≤ b) L L' := fL.trans (a4.mono (fun b j h => by omega))
    refine ⟨q, ladX X (nI n), I', L', e, (fin _ _ _ _ e).1, (fin _ _ _ _ e).2, ⟨?_, fun m p hp => ?_⟩, a2, z1, g1.mono (fun b j h => by omega), g2.mono (fun b j h => by omega)⟩
    · show 138 ≤ X.2.2 + 8
      omega
    · have hu : (ladX X (nI n)).2.1 97 m = if m = n then some q else X.2.1 97 m := by
        show upF _ 97 _ _ 97 m = _
        rw [upF_at, cn, hq]
        by_cases hi2 : m = n
        · rw [if_pos hi2, if_pos hi2]
        · rw [if_neg hi2, if_neg hi2]
          have := (lad_lo (X := X) (n := ladN (nI n)) (sd := n) (b := 97) (by omega)).2 m
          rw [hq] at this
          exact this
      rw [hu] at hp
      show 138 ≤ p ∧ p + 8 ≤ X.2.2 + 8 ∧ _
      by_cases v : m = n
      · rw [if_pos v] at hp
        have ep := Option.some.inj hp
        subst ep
        rw [v]
        exact ⟨z1, by omega, fun _ _ => a2⟩
      · rw [if_neg v] at hp
        obtain ⟨b1, b2, b3⟩ := z2 m p hp
        exact ⟨b1, by omega, fun x y => LD_eq (fun b j h1 h2 => g1 b j (by omega)) (fun b j h1 h2 => g2 b j (by omega)) (b3 x y)⟩
end LDR
/-- cells behind 138 and the shapes may be new -/
theorem inv_lad {PA : MI → Prop} {X X' : MX} {I I' : MI} {L L' : ML} (hPA : frPA PA) (hI : Inv0 PL0 PA X I L) (h10 : shX10 X') (h11 : shX11 X') (hP : PL0 X' I' L') (h : fr (fun b j => 138 ≤ b) I I') (h' : frL (fun b j => 138 ≤ b) L L') : Inv0 PL0 PA X' I' L' := by
  obtain ⟨_, _, hG, hW, hWi, hS, hSi, hB, hBi, hT, hTi, hN, hNi, hC, hX, hP', hR, hL, hA⟩ := hI
  refine ⟨h10, h11, pG_fr h (fun b j s => ?_) hG, pW_fr h (fun b j s => ?_) hW, pWi_fr h (fun b j s => ?_) hWi, pS_fr h' (fun b j s => ?_) hS, pSi_fr h (fun b j s => ?_) h' (fun b j s => ?_) hSi, pB_fr h (fun b j s => ?_) hB, pBi_fr h (fun b j s => ?_) hBi, pT_fr h (fun b j s => ?_) hT, pTi_fr h (fun b j s => ?_) hTi, pN_fr h (fun b j s => ?_) hN, pNi_fr h (fun b j s => ?_) hNi, pC_fr h (fun b j s => ?_) hC, pX_fr h (fun b j s => ?_) hX, pP_fr h (fun b j s => ?_) hP', pR_fr h (fun b j s => ?_) h' (fun b j s => ?_) hR, hP, hPA I I' (fun b j q => h b j ?_) hA⟩
  all_goals first
    | (unfold depG; omega) | (unfold depW; omega) | (unfold depWi; omega) | (unfold depI; omega)
    | (unfold depB; omega) | (unfold depBi; omega) | (unfold depT; omega) | (unfold depTi; omega) | (unfold depN; omega) | (unfold depNi; omega)
    | (unfold depC; omega) | (unfold depX; omega) | (unfold depP; omega) | (unfold depR; omega) | (unfold depRL; omega)
    | (unfold depA at q; omega) | omega
