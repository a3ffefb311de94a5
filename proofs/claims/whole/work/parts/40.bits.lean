/-! ===== boards: bits, what a new BOARD asks; side, row, other, flipped ===== -/
theorem nI_div {a b : Nat} (ha : a < 2 ^ 31) (hb : b < 2 ^ 31) : nI a / nI b = nI (a / b) := by
  apply Int32.toInt_inj.mp
  have h : a / b < 2 ^ 31 := Nat.lt_of_le_of_lt (Nat.div_le_self a b) ha
  rw [Int32.toInt_div]
  show ((Int32.ofNat a).toInt.tdiv (Int32.ofNat b).toInt).bmod (2 ^ 32) = (Int32.ofNat (a / b)).toInt
  rw [Int32.toInt_ofNat_of_lt ha, Int32.toInt_ofNat_of_lt hb, Int32.toInt_ofNat_of_lt h, ← Int.ofNat_tdiv]
  generalize a / b = q at h ⊢
  exact Int.bmod_eq_of_le (by omega) (by omega)
theorem nI_rem {a b : Nat} (ha : a < 2 ^ 31) (hb : b < 2 ^ 31) : jrem (nI a) (nI b) = nI (a % b) := by
  unfold jrem
  rw [nI_div ha hb, nI_mul, nI_sub (by rw [Nat.mul_comm]; exact Nat.mul_div_le a b)]
  congr 1
  have := Nat.div_add_mod a b
  rw [Nat.mul_comm]; omega
theorem nI_xor (a b : Nat) : nI a ^^^ nI b = nI (a ^^^ b) := by
  apply Int32.toBitVec_inj.mp
  simp [nI]
theorem nI_or (a b : Nat) : nI a ||| nI b = nI (a ||| b) := by
  apply Int32.toBitVec_inj.mp
  simp [nI]
theorem shl1 : ∀ j, j < 7 → jshl 1 (nI j) = nI (2 ^ j) := by decide +kernel
theorem hasb : ∀ r, r < 64 → ∀ j, j < 6 → (jshr (nI r) (nI j) &&& 1) = nI (r / 2 ^ j % 2) := by decide +kernel
/-- how many bits of a row are 1, among the first m -/
def bcn : Nat → Nat → Nat
  | 0, _ => 0
  | m + 1, r => r % 2 + bcn m (r / 2)
theorem bitC : ∀ r, r < 64 → f_J6_bitCount_0f7a4 (nI r) = some (nI (bcn 6 r)) := by decide +kernel
theorem bcn0 : ∀ m, bcn m 0 = 0
  | 0 => rfl
  | m + 1 => by rw [bcn, Nat.zero_div, bcn0 m]
theorem ones_loop {N0 : Nat} : ∀ (m r c M : Nat), r < 2 ^ m → r < 2 ^ 30 → m < M → loopN (fun s : Int32 × Int32 => f_X11_ones_b4 N0 s.1 s.2) M (nI c, nI r) = some (nI (c + bcn m r)) := by
  intro m
  induction m with
  | zero =>
    intro r c M h1 h2 h3
    have : r = 0 := by simpa using h1
    subst this
    obtain ⟨M', rfl⟩ : ∃ M', M = M' + 1 := ⟨M - 1, by omega⟩
    refine loopN_inr ?_
    show f_X11_ones_b4 N0 (nI c) (nI 0) = _
    unfold f_X11_ones_b4
    rw [if_neg (by decide)]; rfl
  | succ m ih =>
    intro r c M h1 h2 h3
    obtain ⟨M', rfl⟩ : ∃ M', M = M' + 1 := ⟨M - 1, by omega⟩
    by_cases q : 0 < r
    · have e : f_X11_ones_b4 N0 (nI c) (nI r) = some (.inl (nI (c + r % 2), nI (r / 2))) := by
        unfold f_X11_ones_b4
        rw [nl0, if_pos ((nI_ltI (by omega) (by omega)).mpr q), nl2, nI_rem (by omega) (by omega), nI_div (by omega) (by omega), nI_add]
      rw [loopN_inl e, ih (r / 2) _ M' (by rw [Nat.pow_succ] at h1; omega) (by omega) (by omega), bcn, Nat.add_assoc]
    · have : r = 0 := by omega
      subst this
      rw [bcn0, Nat.add_zero]
      refine loopN_inr ?_
      show f_X11_ones_b4 N0 (nI c) (nI 0) = _
      unfold f_X11_ones_b4
      rw [if_neg (by decide)]; rfl
theorem ones_spec {N r : Nat} (hr : r < 64) (hN : 20 ≤ N) : f_X11_ones N (nI r) = some (nI (bcn 6 r)) := by
  unfold f_X11_ones f_X11_ones_l4
  have := ones_loop (N0 := N) 6 r 0 N (by omega) (by omega) (by omega)
  rw [Nat.zero_add] at this
  rw [nl0]
  exact bnd1_some this
def cs (r : Nat → Nat) : Nat → Nat
  | 0 => 0
  | k + 1 => cs r k + bcn 6 (r k)
theorem two_le {n : Nat} (h : n ≤ 6) : 2 ^ n ≤ 64 := by
  have : 2 ^ n ≤ 2 ^ 6 := Nat.pow_le_pow_right (by decide) h
  omega
theorem cellsC {N a n : Nat} {r : Nat → Nat} {I : MI} (h : BC I a n r) (hn : n ≤ 6) (hr : ∀ i, i < n → r i < 64) (hN : 20 ≤ N) : f_X0_cells N a I = some (nI (cs r n)) := by
  have key := loop_for (f := fun s : Int32 × Int32 => f_X0_cells_b4 N a s.1 s.2 I) (fun k => (nI (cs r k), nI k)) n (r := nI (cs r n)) (fun k hk => ?_) ?_ N 0 (Nat.zero_le _) (by omega)
  · unfold f_X0_cells f_X0_cells_l4
    rw [nl0]
    exact bnd1_some key
  · show f_X0_cells_b4 N a (nI (cs r k)) (nI k) I = _
    unfold f_X0_cells_b4
    rw [h.1, if_pos ((nI_ltI (by omega) (by omega)).mpr hk), if_pos (inb_nI (by omega) (by decide)), nI_clamp (by omega), h.2 k hk, bnd1_some (bitC _ (hr k hk)), nI_add, nI_1]; rfl
  · show f_X0_cells_b4 N a (nI (cs r n)) (nI n) I = _
    unfold f_X0_cells_b4
    rw [h.1, if_neg (nI_le0 (by omega) (Nat.le_refl _))]
theorem m6 {i j : Nat} : 6 * nI i + nI j = nI (6 * i + j) := by rw [nl6, nI_mul, nI_add]
theorem cellsM {N b n : Nat} {r : Nat → Nat} {I : MI} (hb : b < 6) (h : BM I 103 104 b n r) (hn : n ≤ 6) (hr : ∀ i, i < n → r i < 64) (hN : 20 ≤ N) : f_X11_cells N (nI b) I = some (nI (cs r n)) := by
  have ib : inb (nI b) 6 = true := inb_nI hb (by decide)
  have cb : Int32.toNatClampNeg (nI b) = b := nI_clamp (by omega)
  have key := loop_for (f := fun s : Int32 × Int32 => f_X11_cells_b4 N (nI b) s.1 s.2 I) (fun k => (nI (cs r k), nI k)) n (r := nI (cs r n)) (fun k hk => ?_) ?_ N 0 (Nat.zero_le _) (by omega)
  · unfold f_X11_cells f_X11_cells_l4
    rw [nl0]
    exact bnd1_some key
  · show f_X11_cells_b4 N (nI b) (nI (cs r k)) (nI k) I = _
    unfold f_X11_cells_b4
    rw [if_pos ib, cb, h.1, if_pos ((nI_ltI (by omega) (by omega)).mpr hk), m6, if_pos (inb_nI (by omega) (by decide)), nI_clamp (by omega), h.2 k hk, bnd1_some (ones_spec (hr k hk) hN), nI_add, nI_1]; rfl
  · show f_X11_cells_b4 N (nI b) (nI (cs r n)) (nI n) I = _
    unfold f_X11_cells_b4
    rw [if_pos ib, cb, h.1, if_neg (nI_le0 (by omega) (Nat.le_refl _))]
theorem pC_zero {I : MI} (hB : pB I) (h1 : I 67 4 = 0) (h2 : I 99 9 = 0) : pC I := by
  refine ⟨0, by omega, h1.trans nl0, h2.trans nl0, fun b => Int32.toNatClampNeg (I 103 b), fun b i => Int32.toNatClampNeg (I 104 (6 * b + i)), fun b hb => ?_, trivial⟩
  obtain ⟨n, r, n1, n6, hr, _, hm⟩ := hB b hb
  have t6 := two_le n6
  have e1 : Int32.toNatClampNeg (I 103 b) = n := by rw [hm.1, nI_clamp (by omega)]
  simp only [e1]
  refine ⟨n6, hm.1, fun i hi => ?_⟩
  have hri := hr i hi
  have e2 : Int32.toNatClampNeg (I 104 (6 * b + i)) = r i := by rw [hm.2 i hi, nI_clamp (by omega)]
  simp only [e2]
  exact ⟨hri, hm.2 i hi⟩
def sB (w b j : Nat) : Prop := b = 12 + 4 * w ∨ b = 13 + 4 * w ∨ (b = 103 ∧ j = w) ∨ (b = 104 ∧ 6 * w ≤ j ∧ j < 6 * w + 6) ∨ (b = 67 ∧ j = 4) ∨ (b = 99 ∧ j = 9)
section BS
variable {PL : MX → MI → ML → Prop} {PA : MI → Prop} {N : Nat} {X : MX} {I I' : MI} {L : ML}
theorem Inv0.b (hI : Inv0 PL PA X I L) {w : Nat} (hw : w < 6) : BP I (12 + 4 * w) 103 104 w := hI.2.2.2.2.2.2.2.1 w hw
/-- a BOARD has become another one, and what can be undone is forgotten -/
theorem inv_board (hPL : frPL PL) (hPA : frPA PA) (hI : Inv0 PL PA X I L) {w : Nat} (hw : w < 6) (h : fr (fun b j => scr b j ∨ sB w b j) I I') (hnew : BP I' (12 + 4 * w) 103 104 w) (z1 : I' 67 4 = 0) (z2 : I' 99 9 = 0) : Inv0 PL PA X I' L := by
  obtain ⟨M, m1, m2⟩ := h.split
  obtain ⟨h10, h11, hG, hW, hWi, hS, hSi, hB, hBi, hT, hTi, hN, hNi, hC, hX, hP, hR, hL, hA⟩ := inv_scr hPL hPA hI m1 frL.rfl
  have hB' : pB I' := by
    intro v hv
    by_cases e : v = w
    · subst e; exact hnew
    · refine BP_eq (m2 _ _ ?_) (fun i => m2 _ _ ?_) (m2 _ _ ?_) (fun i _ => m2 _ _ ?_) (hB v hv) <;> (unfold sB; omega)
  have h' : frL (fun _ _ => False) L L := frL.rfl
  refine ⟨h10, h11, pG_fr m2 (fun b j s => ?_) hG, pW_fr m2 (fun b j s => ?_) hW, pWi_fr m2 (fun b j s => ?_) hWi, hS, pSi_fr m2 (fun b j s => ?_) h' (fun b j s => s.elim) hSi, hB', pBi_fr m2 (fun b j s => ?_) hBi, pT_fr m2 (fun b j s => ?_) hT, pTi_fr m2 (fun b j s => ?_) hTi, pN_fr m2 (fun b j s => ?_) hN, pNi_fr m2 (fun b j s => ?_) hNi, pC_zero hB' z1 z2, pX_fr m2 (fun b j s => ?_) hX, pP_fr m2 (fun b j s => ?_) hP, pR_fr m2 (fun b j s => ?_) h' (fun b j s => s.elim) hR, hPL X M I' L L (fun b j q => m2 b j ?_) (fun b j q => rfl) hL, hPA M I' (fun b j q => m2 b j ?_) hA⟩
  all_goals first
    | (unfold sB at s; unfold depG; omega) | (unfold sB at s; unfold depW; omega) | (unfold sB at s; unfold depWi; omega) | (unfold sB at s; unfold depI; omega)
    | (unfold sB at s; unfold depBi; omega) | (unfold sB at s; unfold depT; omega) | (unfold sB at s; unfold depTi; omega) | (unfold sB at s; unfold depN; omega) | (unfold sB at s; unfold depNi; omega)
    | (unfold sB at s; unfold depX; omega) | (unfold sB at s; unfold depP; omega) | (unfold sB at s; unfold depR; omega)
    | (unfold sB; omega) | (unfold depA at q; unfold sB; omega)
theorem clean_spec {a n : Nat} {v : Int32} {I : MI} (hN : 20 ≤ N) (ha : a < 50) : ∃ I', f_X0_clean N a v I = some I' ∧ I' a 0 = v ∧ (∀ i, i < 6 → I' (a + 1) i = 0) ∧ fr (fun b j => b = a ∨ b = a + 1) I I' := by
  refine ⟨fillI (upI I a 0 v) (a + 1) 6 0, ?_, ?_, fun i hi => ?_, fun b j n => ?_⟩
  · unfold f_X0_clean
    simp only [letv]
    rw [bnd1_some (fill_I (by omega) (by decide))]
  · unfold fillI
    rw [if_neg (by omega), upI_eq]
  · unfold fillI
    rw [if_pos (by omega)]
  · unfold fillI
    rw [if_neg (by omega), upI_ne _ _ (Or.inl (by omega))]
theorem bare_spec {w : Nat} {v : Int32} {I : MI} (hw : w < 6) (hN : 20 ≤ N) : ∃ I', f_X11_bare N (nI w) v I = some I' ∧ I' 103 w = v ∧ (∀ i, i < 6 → I' 104 (6 * w + i) = 0) ∧ I' 99 9 = 0 ∧ fr (fun b j => (b = 103 ∧ j = w) ∨ (b = 104 ∧ 6 * w ≤ j ∧ j < 6 * w + 6) ∨ (b = 99 ∧ j = 9)) I I' := by
  have iw : inb (nI w) 6 = true := inb_nI hw (by decide)
  have cw : Int32.toNatClampNeg (nI w) = w := nI_clamp (by omega)
  have key := loop_inv (f := fun s : Int32 × MI => f_X11_bare_b9 N (nI w) s.1 s.2) (fun k st => st.1 = nI k ∧ (∀ i, i < k → st.2 104 (6 * w + i) = 0) ∧ fr (fun b j => b = 104 ∧ 6 * w ≤ j ∧ j < 6 * w + 6) (upI I 103 w v) st.2) (fun I' => (∀ i, i < 6 → I' 104 (6 * w + i) = 0) ∧ fr (fun b j => b = 104 ∧ 6 * w ≤ j ∧ j < 6 * w + 6) (upI I 103 w v) I') 6 ?_ ?_ N 0 (nI 0, upI I 103 w v) (Nat.zero_le _) (by omega) ⟨rfl, fun i hi => absurd hi (by omega), fr.rfl⟩
  · obtain ⟨J, e, p1, p2⟩ := key
    refine ⟨upI J 99 9 0, ?_, ?_, fun i hi => ?_, upI_eq _ _ _ _, fun b j n => ?_⟩
    · unfold f_X11_bare
      rw [if_pos iw, cw]
      simp only [letv]
      unfold f_X11_bare_l9
      rw [nl0] at *
      rw [bnd1_some e]
    · rw [upI_ne _ _ (Or.inl (by omega)), p2 _ _ (by omega), upI_eq]
    · rw [upI_ne _ _ (Or.inl (by omega)), p1 i hi]
    · rw [upI_ne _ _ (by omega), p2 _ _ (by omega), upI_ne _ _ (by omega)]
  · rintro k ⟨c, J⟩ hk ⟨e1, w1, f1⟩
    simp only at e1 w1 f1
    subst e1
    refine ⟨(nI (k + 1), upI J 104 (6 * w + k) 0), ?_, rfl, fun i hi => ?_, f1.trans (fr.up ⟨rfl, by omega, by omega⟩)⟩
    · show f_X11_bare_b9 N (nI w) (nI k) J = _
      unfold f_X11_bare_b9
      have l6 : nI k < (6 : Int32) := by rw [nl6]; exact (nI_ltI (by omega) (by omega)).mpr hk
      rw [if_pos l6, m6, if_pos (inb_nI (by omega) (by decide)), nI_clamp (by omega), nI_1]; rfl
    · show upI J 104 (6 * w + k) 0 104 (6 * w + i) = 0
      rw [upI_at]
      by_cases q : i = k
      · rw [if_pos (by omega)]
      · rw [if_neg (by omega)]; exact w1 i (by omega)
  · rintro ⟨c, J⟩ ⟨e1, w1, f1⟩
    simp only at e1 w1 f1
    subst e1
    refine ⟨J, ?_, w1, f1⟩
    show f_X11_bare_b9 N (nI w) (nI 6) J = _
    unfold f_X11_bare_b9
    rw [if_neg (by decide)]
theorem s_side (hPL : frPL PL) (hPA : frPA PA) (hN : 20 ≤ N) : S_side N (Inv0 PL PA) := by
  intro X I L x1 x2 hI
  rcases six_cases x1 with ⟨w, hw, rfl, e1, e2⟩ | ⟨e1, e2⟩
  · have iw : inb (nI w) 6 = true := inb_nI hw (by decide)
    have cw : Int32.toNatClampNeg (nI w) = w := nI_clamp (by omega)
    rcases side_cases x2 with ⟨n, n1, n6, rfl, e3, e4⟩ | ⟨e3, e4⟩
    · obtain ⟨n0, r0, _, _, _, hc, hm⟩ := hI.b hw
      obtain ⟨J, a1, a2, a3, a4⟩ := clean_spec (N := N) (n := n) (a := 12 + 4 * w) (v := nI n) (I := I) hN (by omega)
      obtain ⟨K, b1, b2, b3, b4, b5⟩ := bare_spec (N := N) (w := w) (v := nI n) (I := upI J 67 4 0) hw hN
      refine ⟨nI n0, upI J 67 4 0, K, ?_, ?_, inv_board hPL hPA hI hw ((a4.mono (S' := fun b j => scr b j ∨ sB w b j) (fun b j h => by unfold sB; omega)).trans ((fr.up (by unfold sB; omega)).trans (b5.mono (fun b j h => by unfold sB; omega)))) ⟨n, fun _ => 0, n1, n6, fun i _ => Nat.two_pow_pos n, ⟨?_, fun i hi => ?_⟩, ⟨b2, fun i hi => ?_⟩⟩ ?_ b4⟩
      · unfold f_X10_side
        rw [bnd1_some e1, if_neg (by decide), bnd1_some e3, if_neg (by decide), if_pos iw, cw, hc.1]
        simp only [letv]
        rw [bnd1_some a1]
        rfl
      · unfold f_X11_side
        rw [bnd1_some e2, if_neg (by decide), bnd1_some e4, if_neg (by decide), if_pos iw, bnd1_some b1, cw, upI_ne _ _ (Or.inl (by omega)), a4 _ _ (by omega), hm.1]
      · rw [b5 _ _ (by omega), upI_ne _ _ (Or.inl (by omega)), a2]
      · rw [b5 _ _ (by omega), upI_ne _ _ (Or.inl (by omega)), a3 i (by omega)]; exact nl0
      · rw [b3 i (by omega)]; exact nl0
      · rw [b5 _ _ (by omega), upI_eq]
    · refine ⟨-2, I, I, ?_, ?_, hI⟩
      · unfold f_X10_side; rw [bnd1_some e1, if_neg (by decide), bnd1_some e3, if_pos rfl]
      · unfold f_X11_side; rw [bnd1_some e2, if_neg (by decide), bnd1_some e4, if_pos rfl]
  · refine ⟨-1, I, I, ?_, ?_, hI⟩
    · unfold f_X10_side; rw [bnd1_some e1, if_pos rfl]
    · unfold f_X11_side; rw [bnd1_some e2, if_pos rfl]
end BS
