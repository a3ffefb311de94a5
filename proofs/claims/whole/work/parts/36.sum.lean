/-! ===== THE SUM: clear, number, add ===== -/
theorem bns1_inl {α ρ β : Type} {o : Option (α ⊕ ρ)} {a : α} {k : α → Option β} {k2 : ρ → Option β} (h : o = some (.inl a)) : bns1 o k k2 = k a := by rw [h]; rfl
theorem bns1_inr {α ρ β : Type} {o : Option (α ⊕ ρ)} {q : ρ} {k : α → Option β} {k2 : ρ → Option β} (h : o = some (.inr q)) : bns1 o k k2 = k2 q := by rw [h]; rfl
theorem nl169 : (169 : Int32) = nI 169 := by decide +kernel
theorem nl196 : (196 : Int32) = nI 196 := by decide +kernel
theorem in64 (x : Int64) : (SB x ∧ f_X11_in x (-1000000000000000) 1000000000000000 = some 1 ∧ f_X6_isBeyond x = some 0) ∨ (¬ SB x ∧ f_X11_in x (-1000000000000000) 1000000000000000 = some 0 ∧ f_X6_isBeyond x = some 1) := by
  unfold SB f_X11_in f_X6_isBeyond
  by_cases h1 : 1000000000000000 < x
  · right
    refine ⟨fun h => h.1 h1, ?_, if_pos h1⟩
    by_cases h2 : x < -1000000000000000
    · rw [if_pos h2]
    · rw [if_neg h2, if_pos h1]
  · by_cases h2 : x < -1000000000000000
    · exact Or.inr ⟨fun h => h.2 h2, by rw [if_pos h2], by rw [if_neg h1, if_pos h2]⟩
    · exact Or.inl ⟨⟨h1, h2⟩, by rw [if_neg h2, if_neg h1], by rw [if_neg h1, if_neg h2]⟩
theorem many_both {N : Nat} {L L' : ML} (h : ∀ p, p < 169 → L 4 p = L' 102 p) (hN : 1000 ≤ N) : ∃ r, f_X6_notZero N 3 L = some r ∧ f_X11_numbersMany N L' = some r := by
  obtain ⟨r, q, h1, h2, h3⟩ := loop_sync (f := fun s : Int32 × Int32 => f_X6_notZero_b4 N 3 s.1 s.2 L) (g := fun s : Int32 × Int32 => f_X11_numbersMany_b4 N s.1 s.2 L') (fun j s t => s = t ∧ s.2 = nI j) (fun r q => r = q) 169 (by
    rintro j ⟨a, b⟩ t hj ⟨e0, e1⟩
    simp only at e1
    subst e0; subst e1
    have i1 : inb (nI j) 169 = true := inb_nI hj (by decide)
    have c1 : Int32.toNatClampNeg (nI j) = j := nI_clamp (by omega)
    have lt : nI j < (169 : Int32) := by rw [nl169]; exact (nI_ltI (by omega) (by omega)).mpr hj
    simp only [f_X6_notZero_b4, f_X11_numbersMany_b4]
    rw [if_pos lt, if_pos i1, c1, if_pos lt, if_pos i1, h j hj]
    by_cases q : L' 102 j = 0
    · rw [if_pos q, if_pos q]
      exact ⟨(a, nI j + 1), (a + 0, nI j + 1), rfl, rfl, by simp, nI_1 _⟩
    · rw [if_neg q, if_neg q]
      exact ⟨_, _, rfl, rfl, rfl, nI_1 _⟩) (by
    rintro ⟨a, b⟩ t ⟨e0, e1⟩
    simp only at e1
    subst e0; subst e1
    simp only [f_X6_notZero_b4, f_X11_numbersMany_b4]
    rw [if_neg (by decide)]
    exact ⟨a, a, rfl, rfl, rfl⟩) N 0 (0, 0) (0, 0) (Nat.zero_le _) (by omega) ⟨rfl, nl0⟩
  subst h3
  refine ⟨r, ?_, ?_⟩
  · unfold f_X6_notZero f_X6_notZero_l4; exact bnd1_some h1
  · unfold f_X11_numbersMany f_X11_numbersMany_l4; exact bnd1_some h2
theorem SB0 : SB 0 := by unfold SB; decide
section SS
variable {PL : MX → MI → ML → Prop} {PA : MI → Prop} {N : Nat} {X : MX} {I : MI} {L L' : ML}
def sS (b j : Nat) : Prop := b = 4 ∨ b = 102
theorem inv_sum (hPL : frPL PL) (hPA : frPA PA) (hI : Inv0 PL PA X I L) (h : frL (fun b j => scrL b j ∨ sS b j) L L') (hs : SP L' 4 102) : Inv0 PL PA X I L' := by
  obtain ⟨M, m1, m2⟩ := h.split
  obtain ⟨h10, h11, hG, hW, hWi, hS, hSi, hB, hBi, hT, hTi, hN, hNi, hC, hX, hP, hR, hL, hA⟩ := inv_scr hPL hPA hI fr.rfl m1
  refine ⟨h10, h11, hG, hW, hWi, hs, pSi_fr (S := fun _ _ => False) fr.rfl (fun _ _ s => s.elim) m2 (fun b j s => ?_) hSi, hB, hBi, hT, hTi, hN, hNi, hC, hX, hP, pR_fr (S := fun _ _ => False) fr.rfl (fun _ _ s => s.elim) m2 (fun b j s => ?_) hR, hPL X I I M L' (fun b j q => rfl) (fun b j q => m2 b j ?_) hL, hA⟩
  · unfold sS at s; omega
  · unfold sS at s; unfold depRL; omega
  · unfold sS; omega
theorem Inv0.s (hI : Inv0 PL PA X I L) : SP L 4 102 := hI.2.2.2.2.2.1
theorem s_clear (hPL : frPL PL) (hPA : frPA PA) (hN : 1000 ≤ N) : S_clear N (Inv0 PL PA) := by
  intro X I L hI
  have hs := hI.s
  obtain ⟨L1, a1, a2, a3⟩ := fill_L (N := N) (a := 4) (n := 169) (v := 0) (L := L) (by omega) (by decide)
  obtain ⟨r, g1, g2⟩ := many_both (N := N) (L := L) (L' := L1) (fun p hp => by rw [a3 102 p (by omega)]; exact (hs p hp).1) hN
  have key := loop_inv (f := fun s' : Int32 × ML => f_X11_clear_b7 N r s'.1 s'.2) (fun j st => st.1 = nI j ∧ (∀ i, i < j → st.2 102 i = 0) ∧ frL (fun b j => b = 102) L1 st.2) (fun L' => (∀ i, i < 169 → L' 102 i = 0) ∧ frL (fun b j => b = 102) L1 L') 169 ?_ ?_ N 0 (0, L1) (Nat.zero_le _) (by omega) ⟨nl0, fun i hi => absurd hi (by omega), frL.rfl⟩
  · obtain ⟨L2, e, p1, p2⟩ := key
    refine ⟨r, L1, L2, ?_, ?_, inv_sum hPL hPA hI ((a3.mono (S' := fun b j => scrL b j ∨ sS b j) (fun b j h => by unfold sS; omega)).trans (p2.mono (fun b j h => by unfold sS; omega))) (fun p hp => ?_)⟩
    · unfold f_X10_clear
      rw [bnd1_some g1]
      unfold f_X6_wipe
      rw [a1]; rfl
    · unfold f_X11_clear f_X11_clear_l7
      rw [bnd1_some g2, bnd1_some e]
    · rw [p1 p hp, p2 4 p (by omega), a2 p hp]
      exact ⟨rfl, SB0⟩
  · rintro j ⟨c, K⟩ hj ⟨e1, w1, f1⟩
    simp only at e1 w1 f1
    subst e1
    refine ⟨(nI (j + 1), upL K 102 j 0), ?_, rfl, ?_, f1.trans (frL.up rfl)⟩
    · show f_X11_clear_b7 N r (nI j) K = _
      unfold f_X11_clear_b7
      rw [nl169, if_pos ((nI_ltI (by omega) (by omega)).mpr hj), if_pos (inb_nI hj (by decide)), nI_clamp (by omega)]
      simp only [letv]
      rw [nI_1]
    · intro i hi
      show upL K 102 j 0 102 i = 0
      rw [upL_at]
      by_cases q : i = j
      · rw [if_pos q]
      · rw [if_neg q]; exact w1 i (by omega)
  · rintro ⟨c, K⟩ ⟨e1, w1, f1⟩
    simp only at e1 w1 f1
    subst e1
    refine ⟨K, ?_, w1, f1⟩
    show f_X11_clear_b7 N r (nI 169) K = _
    unfold f_X11_clear_b7
    rw [if_neg (by decide)]
theorem s_number : S_number N (Inv0 PL PA) := by
  intro X I L x1 x2 hI
  have hs := hI.s
  rcases rng_cases x1 12 (by decide) (hi := 12) (by decide) with ⟨i, hi, rfl, e1⟩ | ⟨h1, e1⟩
  · rcases rng_cases x2 12 (by decide) (hi := 12) (by decide) with ⟨j, hj, rfl, e2⟩ | ⟨h2, e2⟩
    · have e3 : nI i * 13 + nI j = nI (13 * i + j) := by rw [nl13, nI_mul, nI_add, Nat.mul_comm]
      have e4 : 13 * nI i + nI j = nI (13 * i + j) := by rw [nl13, nI_mul, nI_add]
      have i1 : inb (nI (13 * i + j)) 169 = true := inb_nI (by omega) (by decide)
      refine ⟨L 4 (13 * i + j), ?_, ?_, hI⟩
      · unfold f_X10_number f_X6_at
        rw [if_neg (nI_pos (by omega)), if_pos (by rw [nl13]; exact (nI_ltI (by omega) (by omega)).mpr (by omega)), if_neg (nI_pos (by omega)), if_pos (by rw [nl13]; exact (nI_ltI (by omega) (by omega)).mpr (by omega)), e3, if_pos i1, nI_clamp (by omega)]
        rfl
      · unfold f_X11_number
        rw [bnd1_some e1, if_neg (by decide), bnd1_some e2, if_neg (by decide), e4, if_pos i1, nI_clamp (by omega), (hs _ (by omega)).1]
    · refine ⟨0, ?_, ?_, hI⟩
      · unfold f_X10_number f_X6_at
        rw [if_neg (nI_pos (by omega)), if_pos (by rw [nl13]; exact (nI_ltI (by omega) (by omega)).mpr (by omega))]
        by_cases q : x2 < 0
        · rw [if_pos q]; rfl
        · have h2 := h2.resolve_left q
          rw [if_neg q, if_neg (by
            rw [nl13, Int32.lt_iff_toInt_lt, nI_toInt (by decide)]
            rw [Int32.lt_iff_toInt_lt, nI_toInt (by decide)] at h2
            omega)]
          rfl
      · unfold f_X11_number
        rw [bnd1_some e1, if_neg (by decide), bnd1_some e2, if_pos rfl]
  · refine ⟨0, ?_, ?_, hI⟩
    · unfold f_X10_number f_X6_at
      by_cases q : x1 < 0
      · rw [if_pos q]; rfl
      · have h1 := h1.resolve_left q
        rw [if_neg q, if_neg (by
          rw [nl13, Int32.lt_iff_toInt_lt, nI_toInt (by decide)]
          rw [Int32.lt_iff_toInt_lt, nI_toInt (by decide)] at h1
          omega)]
        rfl
    · unfold f_X11_number
      rw [bnd1_some e1, if_pos rfl]
end SS
theorem ups_num {N : Nat} {I : MI} {w : Nat} {l : List Int32} (hw : w < 6) (hl : l.length ≤ 12) (hc : WC I (10 + 4 * w) l) (hm : WM I 100 101 w l) (hN : 20 ≤ N) : ∃ u, u ≤ l.length ∧ f_X9_ups N (10 + 4 * w) I = some (nI u) ∧ f_X11_lettersU N (nI w) I = some (nI u) := by
  obtain ⟨r, g1, g2⟩ := ups_both (N := N) hw hl hc hm hN
  have key := loop_inv (f := fun s : Int32 × Int32 => f_X9_ups_b4 N (10 + 4 * w) s.1 s.2 I) (fun j st => st.2 = nI j ∧ ∃ u, u ≤ j ∧ st.1 = nI u) (fun r => ∃ u, u ≤ l.length ∧ r = nI u) l.length ?_ ?_ N 0 (0, 0) (Nat.zero_le _) (by omega) ⟨nl0, 0, by omega, nl0⟩
  · obtain ⟨r', e, u, hu, e'⟩ := key
    have : f_X9_ups N (10 + 4 * w) I = some r' := by unfold f_X9_ups f_X9_ups_l4; exact bnd1_some e
    have er : r = r' := Option.some.inj (g1.symm.trans this)
    subst er; subst e'
    exact ⟨u, hu, g1, g2⟩
  · rintro j ⟨c, d⟩ hj ⟨e1, u, hu, e2⟩
    simp only at e1 e2
    subst e1; subst e2
    obtain ⟨x, hx⟩ := get_some hj
    show ∃ s', f_X9_ups_b4 N (10 + 4 * w) (nI u) (nI j) I = _ ∧ _
    unfold f_X9_ups_b4
    rw [hc.1, if_pos ((nI_ltI (by omega) (by omega)).mpr hj), if_pos (inb_nI (by omega) (by decide)), nI_clamp (by omega), hc.2 j x hx]
    by_cases q : x = 0
    · rw [if_pos q]; exact ⟨_, rfl, nI_1 _, u + 1, by omega, nI_1 _⟩
    · rw [if_neg q]; exact ⟨_, rfl, nI_1 _, u, by omega, rfl⟩
  · rintro ⟨c, d⟩ ⟨e1, u, hu, e2⟩
    simp only at e1 e2
    subst e1; subst e2
    refine ⟨nI u, ?_, u, hu, rfl⟩
    show f_X9_ups_b4 N (10 + 4 * w) (nI u) (nI l.length) I = _
    unfold f_X9_ups_b4
    rw [hc.1, if_neg (nI_le0 (by omega) (Nat.le_refl _))]
/-- both orders at once -/
theorem orders_C {N a : Nat} {I : MI} {l : List Int32} (hc : WC I a l) (hl : l.length ≤ 12) (hN : 20 ≤ N) (L : ML) : ∃ L2, f_X9_fillOrders N a 98 13 I L = some L2 ∧ (∀ i, i < 13 → L2 98 i = ordW l 0 (fun i => if i = 0 then 1 else 0) i) ∧ frL (fun b j => b = 98) L L2 := by
  obtain ⟨L1, a1, a2, a3⟩ := fill_L (N := N) (a := 98) (n := 13) (v := 0) (L := L) (by omega) (by decide)
  obtain ⟨L2, b1, b2, b3⟩ := ordC (N := N) hc hl hN (upL L1 98 0 1)
  have hz : ∀ i, i < 13 → upL L1 98 0 1 98 i = if i = 0 then 1 else 0 := by
    intro i hi
    rw [upL_at]
    by_cases q : i = 0
    · rw [if_pos q, if_pos q]
    · rw [if_neg q, if_neg q, a2 i hi]
  refine ⟨L2, ?_, fun i hi => (b2 i hi).trans (ordW_congr l 0 _ _ hz i hi), (a3.mono (fun b j h => h.1)).trans ((frL.up (S := fun b _ => b = 98) rfl).trans b3)⟩
  unfold f_X9_fillOrders
  rw [bnd1_some a1, if_pos (by decide)]
  show bnd1 (f_X9_fillOrders_l13 N a 98 13 0 0 I (upL L1 98 0 1)) _ = _
  rw [bnd1_some b1]
theorem orders_M {N w : Nat} {I : MI} {l : List Int32} (hw : w < 6) (hm : WM I 100 101 w l) (hl : l.length ≤ 12) (hN : 20 ≤ N) (L : ML) : ∃ L2, f_X11_layOrders N (nI w) I L = some L2 ∧ (∀ i, i < 14 → L2 124 i = ordW l 0 (fun i => if i = 0 then 1 else 0) i) ∧ frL (fun b j => b = 124) L L2 := by
  obtain ⟨L2, g1, g2, g3⟩ := olay0 (N := N) (w := w) (L := L) hN
  obtain ⟨L3, k1, k2, k3⟩ := ordM (N := N) hw hm hl hN L2
  refine ⟨L3, ?_, fun i hi => (k2 i hi).trans (ordW_congr l 0 _ _ g2 i hi), g3.trans k3⟩
  unfold f_X11_layOrders
  rw [bnd1_some g1, bnd1_some k1]
def pla (u d k : Nat) : Nat := 13 * (u - k) + d - k
/-- numbers of an ORDERED form added, up to place k -/
def addN (u d : Nat) (v : Int64) (o : Nat → Int64) (b : Nat → Int64) (k p : Nat) : Int64 := if ∃ t, t < k ∧ p = pla u d t then b p + v * o (d - p % 13) else b p
