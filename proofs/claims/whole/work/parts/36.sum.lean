/-! ===== THE SUM: clear, number, add ===== -/
theorem bns1_inl {α ρ β : Type} {o : Option (α ⊕ ρ)} {a : α} {k : α → Option β} {k2 : ρ → Option β} (h : o = some (.inl a)) : bns1 o k k2 = k a := by rw [h]; rfl
theorem bns1_inr {α ρ β : Type} {o : Option (α ⊕ ρ)} {q : ρ} {k : α → Option β} {k2 : ρ → Option β} (h : o = some (.inr q)) : bns1 o k k2 = k2 q := by rw [h]; rfl
theorem nl169 : (169 : Int32) = nI 169 := by decide +kernel
theorem nl196 : (196 : Int32) = nI 196 := by decide +kernel
theorem in64 (x : Int64) : (SB x ∧ f_X11_in x (-1000000000000000) 1000000000000000 = some 1 ∧ f_X6_isBeyond x = some 0) ∨ (¬ SB x ∧ f_X11_in x (-1000000000000000) 1000000000000000 = some 0 ∧ f_X6_isBeyond x = some 1) := by
  unfold SB f_X11_in f_X6_isBeyond
  by_cases h1 : 1000000000000000 < x
  · right
    refine ⟨fun h => h.1 h1, ?_, if_pos h1⟩
    by_cases h2 : x < -1000000000000000
    · rw [if_pos h2]
    · rw [if_neg h2, if_pos h1]
  · by_cases h2 : x < -1000000000000000
    · exact Or.inr ⟨fun h => h.2 h2, by rw [if_pos h2], by rw [if_neg h1, if_pos h2]⟩
    · exact Or.inl ⟨⟨h1, h2⟩, by rw [if_neg h2, if_neg h1], by rw [if_neg h1, if_neg h2]⟩
theorem many_both {N : Nat} {L L' : ML} (h : ∀ p, p < 169 → L 4 p = L' 102 p) (hN : 1000 ≤ N) : ∃ r, f_X6_notZero N 3 L = some r ∧ f_X11_numbersMany N L' = some r := by
  obtain ⟨r, q, h1, h2, h3⟩ := loop_sync (f := fun s : Int32 × Int32 => f_X6_notZero_b4 N 3 s.1 s.2 L) (g := fun s : Int32 × Int32 => f_X11_numbersMany_b4 N s.1 s.2 L') (fun j s t => s = t ∧ s.2 = nI j) (fun r q => r = q) 169 (by
    rintro j ⟨a, b⟩ t hj ⟨e0, e1⟩
    simp only at e1
    subst e0; subst e1
    have i1 : inb (nI j) 169 = true := inb_nI hj (by decide)
    have c1 : Int32.toNatClampNeg (nI j) = j := nI_clamp (by omega)
    have lt : nI j < (169 : Int32) := by rw [nl169]; exact (nI_ltI (by omega) (by omega)).mpr hj
    simp only [f_X6_notZero_b4, f_X11_numbersMany_b4]
    rw [if_pos lt, if_pos i1, c1, if_pos lt, if_pos i1, h j hj]
    by_cases q : L' 102 j = 0
    · rw [if_pos q, if_pos q]
      exact ⟨(a, nI j + 1), (a + 0, nI j + 1), rfl, rfl, by simp, nI_1 _⟩
    · rw [if_neg q, if_neg q]
      exact ⟨_, _, rfl, rfl, rfl, nI_1 _⟩) (by
    rintro ⟨a, b⟩ t ⟨e0, e1⟩
    simp only at e1
    subst e0; subst e1
    simp only [f_X6_notZero_b4, f_X11_numbersMany_b4]
    rw [if_neg (by decide)]
    exact ⟨a, a, rfl, rfl, rfl⟩) N 0 (0, 0) (0, 0) (Nat.zero_le _) (by omega) ⟨rfl, nl0⟩
  subst h3
  refine ⟨r, ?_, ?_⟩
  · unfold f_X6_notZero f_X6_notZero_l4; exact bnd1_some h1
  · unfold f_X11_numbersMany f_X11_numbersMany_l4; exact bnd1_some h2
theorem SB0 : SB 0 := by unfold SB; decide
section SS
variable {PL : MX → MI → ML → Prop} {PA : MI → Prop} {N : Nat} {X : MX} {I : MI} {L L' : ML}
def sS (b j : Nat) : Prop := b = 4 ∨ b = 102
theorem inv_sum (hPL : frPL PL) (hPA : frPA PA) (hI : Inv0 PL PA X I L) (h : frL (fun b j => scrL b j ∨ sS b j) L L') (hs : SP L' 4 102) : Inv0 PL PA X I L' := by
  obtain ⟨M, m1, m2⟩ := h.split
  obtain ⟨h10, h11, hG, hW, hWi, hS, hSi, hB, hBi, hT, hTi, hN, hNi, hC, hX, hP, hR, hL, hA⟩ := inv_scr hPL hPA hI fr.rfl m1
  refine ⟨h10, h11, hG, hW, hWi, hs, pSi_fr (S := fun _ _ => False) fr.rfl (fun _ _ s => s.elim) m2 (fun b j s => ?_) hSi, hB, hBi, hT, hTi, hN, hNi, hC, hX, hP, pR_fr (S := fun _ _ => False) fr.rfl (fun _ _ s => s.elim) m2 (fun b j s => ?_) hR, hPL X I I M L' (fun b j q => rfl) (fun b j q => m2 b j ?_) hL, hA⟩
  · unfold sS at s; omega
  · unfold sS at s; unfold depRL; omega
  · unfold sS; omega
theorem Inv0.s (hI : Inv0 PL PA X I L) : SP L 4 102 := hI.2.2.2.2.2.1
theorem s_clear (hPL : frPL PL) (hPA : frPA PA) (hN : 1000 ≤ N) : S_clear N (Inv0 PL PA) := by
  intro X I L hI
  have hs := hI.s
  obtain ⟨L1, a1, a2, a3⟩ := fill_L (N := N) (a := 4) (n := 169) (v := 0) (L := L) (by omega) (by decide)
  obtain ⟨r, g1, g2⟩ := many_both (N := N) (L := L) (L' := L1) (fun p hp => by rw [a3 102 p (by omega)]; exact (hs p hp).1) hN
  have key := loop_inv (f := fun s' : Int32 × ML => f_X11_clear_b7 N r s'.1 s'.2) (fun j st => st.1 = nI j ∧ (∀ i, i < j → st.2 102 i = 0) ∧ frL (fun b j => b = 102) L1 st.2) (fun L' => (∀ i, i < 169 → L' 102 i = 0) ∧ frL (fun b j => b = 102) L1 L') 169 ?_ ?_ N 0 (0, L1) (Nat.zero_le _) (by omega) ⟨nl0, fun i hi => absurd hi (by omega), frL.rfl⟩
  · obtain ⟨L2, e, p1, p2⟩ := key
    refine ⟨r, L1, L2, ?_, ?_, inv_sum hPL hPA hI ((a3.mono (S' := fun b j => scrL b j ∨ sS b j) (fun b j h => by unfold sS; omega)).trans (p2.mono (fun b j h => by unfold sS; omega))) (fun p hp => ?_)⟩
    · unfold f_X10_clear
      rw [bnd1_some g1]
      unfold f_X6_wipe
      rw [a1]; rfl
    · unfold f_X11_clear f_X11_clear_l7
      rw [bnd1_some g2, bnd1_some e]
    · rw [p1 p hp, p2 4 p (by omega), a2 p hp]
      exact ⟨rfl, SB0⟩
  · rintro j ⟨c, K⟩ hj ⟨e1, w1, f1⟩
    simp only at e1 w1 f1
    subst e1
    refine ⟨(nI (j + 1), upL K 102 j 0), ?_, rfl, ?_, f1.trans (frL.up rfl)⟩
    · show f_X11_clear_b7 N r (nI j) K = _
      unfold f_X11_clear_b7
      rw [nl169, if_pos ((nI_ltI (by omega) (by omega)).mpr hj), if_pos (inb_nI hj (by decide)), nI_clamp (by omega)]
      simp only [letv]
      rw [nI_1]
    · intro i hi
      show upL K 102 j 0 102 i = 0
      rw [upL_at]
      by_cases q : i = j
      · rw [if_pos q]
      · rw [if_neg q]; exact w1 i (by omega)
  · rintro ⟨c, K⟩ ⟨e1, w1, f1⟩
    simp only at e1 w1 f1
    subst e1
    refine ⟨K, ?_, w1, f1⟩
    show f_X11_clear_b7 N r (nI 169) K = _
    unfold f_X11_clear_b7
    rw [if_neg (by decide)]
theorem s_number : S_number N (Inv0 PL PA) := by
  intro X I L x1 x2 hI
  have hs := hI.s
  rcases rng_cases x1 12 (by decide) (hi := 12) (by decide) with ⟨i, hi, rfl, e1⟩ | ⟨h1, e1⟩
  · rcases rng_cases x2 12 (by decide) (hi := 12) (by decide) with ⟨j, hj, rfl, e2⟩ | ⟨h2, e2⟩
    · have e3 : nI i * 13 + nI j = nI (13 * i + j) := by rw [nl13, nI_mul, nI_add, Nat.mul_comm]
      have e4 : 13 * nI i + nI j = nI (13 * i + j) := by rw [nl13, nI_mul, nI_add]
      have i1 : inb (nI (13 * i + j)) 169 = true := inb_nI (by omega) (by decide)
      refine ⟨L 4 (13 * i + j), ?_, ?_, hI⟩
      · unfold f_X10_number f_X6_at
        rw [if_neg (nI_pos (by omega)), if_pos (by rw [nl13]; exact (nI_ltI (by omega) (by omega)).mpr (by omega)), if_neg (nI_pos (by omega)), if_pos (by rw [nl13]; exact (nI_ltI (by omega) (by omega)).mpr (by omega)), e3, if_pos i1, nI_clamp (by omega)]
        rfl
      · unfold f_X11_number
        rw [bnd1_some e1, if_neg (by decide), bnd1_some e2, if_neg (by decide), e4, if_pos i1, nI_clamp (by omega), (hs _ (by omega)).1]
    · refine ⟨0, ?_, ?_, hI⟩
      · unfold f_X10_number f_X6_at
        rw [if_neg (nI_pos (by omega)), if_pos (by rw [nl13]; exact (nI_ltI (by omega) (by omega)).mpr (by omega))]
        by_cases q : x2 < 0
        · rw [if_pos q]; rfl
        · have h2 := h2.resolve_left q
          rw [if_neg q, if_neg (by
            rw [nl13, Int32.lt_iff_toInt_lt, nI_toInt (by decide)]
            rw [Int32.lt_iff_toInt_lt, nI_toInt (by decide)] at h2
            omega)]
          rfl
      · unfold f_X11_number
        rw [bnd1_some e1, if_neg (by decide), bnd1_some e2, if_pos rfl]
  · refine ⟨0, ?_, ?_, hI⟩
    · unfold f_X10_number f_X6_at
      by_cases q : x1 < 0
      · rw [if_pos q]; rfl
      · have h1 := h1.resolve_left q
        rw [if_neg q, if_neg (by
          rw [nl13, Int32.lt_iff_toInt_lt, nI_toInt (by decide)]
          rw [Int32.lt_iff_toInt_lt, nI_toInt (by decide)] at h1
          omega)]
        rfl
    · unfold f_X11_number
      rw [bnd1_some e1, if_pos rfl]
end SS
theorem ups_num {N : Nat} {I : MI} {w : Nat} {l : List Int32} (hw : w < 6) (hl : l.length ≤ 12) (hc : WC I (10 + 4 * w) l) (hm : WM I 100 101 w l) (hN : 20 ≤ N) : ∃ u, u ≤ l.length ∧ f_X9_ups N (10 + 4 * w) I = some (nI u) ∧ f_X11_lettersU N (nI w) I = some (nI u) := by
  obtain ⟨r, g1, g2⟩ := ups_both (N := N) hw hl hc hm hN
  have key := loop_inv (f := fun s : Int32 × Int32 => f_X9_ups_b4 N (10 + 4 * w) s.1 s.2 I) (fun j st => st.2 = nI j ∧ ∃ u, u ≤ j ∧ st.1 = nI u) (fun r => ∃ u, u ≤ l.length ∧ r = nI u) l.length ?_ ?_ N 0 (0, 0) (Nat.zero_le _) (by omega) ⟨nl0, 0, by omega, nl0⟩
  · obtain ⟨r', e, u, hu, e'⟩ := key
    have : f_X9_ups N (10 + 4 * w) I = some r' := by unfold f_X9_ups f_X9_ups_l4; exact bnd1_some e
    have er : r = r' := Option.some.inj (g1.symm.trans this)
    subst er; subst e'
    exact ⟨u, hu, g1, g2⟩
  · rintro j ⟨c, d⟩ hj ⟨e1, u, hu, e2⟩
    simp only at e1 e2
    subst e1; subst e2
    obtain ⟨x, hx⟩ := get_some hj
    show ∃ s', f_X9_ups_b4 N (10 + 4 * w) (nI u) (nI j) I = _ ∧ _
    unfold f_X9_ups_b4
    rw [hc.1, if_pos ((nI_ltI (by omega) (by omega)).mpr hj), if_pos (inb_nI (by omega) (by decide)), nI_clamp (by omega), hc.2 j x hx]
    by_cases q : x = 0
    · rw [if_pos q]; exact ⟨_, rfl, nI_1 _, u + 1, by omega, nI_1 _⟩
    · rw [if_neg q]; exact ⟨_, rfl, nI_1 _, u, by omega, rfl⟩
  · rintro ⟨c, d⟩ ⟨e1, u, hu, e2⟩
    simp only at e1 e2
    subst e1; subst e2
    refine ⟨nI u, ?_, u, hu, rfl⟩
    show f_X9_ups_b4 N (10 + 4 * w) (nI u) (nI l.length) I = _
    unfold f_X9_ups_b4
    rw [hc.1, if_neg (nI_le0 (by omega) (Nat.le_refl _))]
/-- both orders at once -/
theorem orders_C {N a : Nat} {I : MI} {l : List Int32} (hc : WC I a l) (hl : l.length ≤ 12) (hN : 20 ≤ N) (L : ML) : ∃ L2, f_X9_fillOrders N a 98 13 I L = some L2 ∧ (∀ i, i < 13 → L2 98 i = ordW l 0 (fun i => if i = 0 then 1 else 0) i) ∧ frL (fun b j => b = 98) L L2 := by
  obtain ⟨L1, a1, a2, a3⟩ := fill_L (N := N) (a := 98) (n := 13) (v := 0) (L := L) (by omega) (by decide)
  obtain ⟨L2, b1, b2, b3⟩ := ordC (N := N) hc hl hN (upL L1 98 0 1)
  have hz : ∀ i, i < 13 → upL L1 98 0 1 98 i = if i = 0 then 1 else 0 := by
    intro i hi
    rw [upL_at]
    by_cases q : i = 0
    · rw [if_pos q, if_pos q]
    · rw [if_neg q, if_neg q, a2 i hi]
  refine ⟨L2, ?_, fun i hi => (b2 i hi).trans (ordW_congr l 0 _ _ hz i hi), (a3.mono (fun b j h => h.1)).trans ((frL.up (S := fun b _ => b = 98) rfl).trans b3)⟩
  unfold f_X9_fillOrders
  rw [bnd1_some a1, if_pos (by decide)]
  show bnd1 (f_X9_fillOrders_l13 N a 98 13 0 0 I (upL L1 98 0 1)) _ = _
  rw [bnd1_some b1]
theorem orders_M {N w : Nat} {I : MI} {l : List Int32} (hw : w < 6) (hm : WM I 100 101 w l) (hl : l.length ≤ 12) (hN : 20 ≤ N) (L : ML) : ∃ L2, f_X11_layOrders N (nI w) I L = some L2 ∧ (∀ i, i < 14 → L2 124 i = ordW l 0 (fun i => if i = 0 then 1 else 0) i) ∧ frL (fun b j => b = 124) L L2 := by
  obtain ⟨L2, g1, g2, g3⟩ := olay0 (N := N) (w := w) (L := L) hN
  obtain ⟨L3, k1, k2, k3⟩ := ordM (N := N) hw hm hl hN L2
  refine ⟨L3, ?_, fun i hi => (k2 i hi).trans (ordW_congr l 0 _ _ g2 i hi), g3.trans k3⟩
  unfold f_X11_layOrders
  rw [bnd1_some g1, bnd1_some k1]
def pla (u d k : Nat) : Nat := 13 * (u - k) + d - k
theorem pla_lt {u d k : Nat} (h : u + d ≤ 12) (h1 : k ≤ u) (h2 : k ≤ d) : pla u d k < 169 := by unfold pla; omega
theorem pla_inj {u d k t : Nat} (h : u + d ≤ 12) (h1 : k ≤ u) (h2 : k ≤ d) (h3 : t ≤ u) (h4 : t ≤ d) (e : pla u d k = pla u d t) : k = t := by unfold pla at e; omega
theorem pla_a {u d k : Nat} (h1 : k ≤ u) (h2 : k ≤ d) : (nI u - nI k) * 13 + nI d - nI k = nI (pla u d k) := by
  rw [nI_sub h1, nl13, nI_mul, nI_add, nI_sub (by omega)]; unfold pla; congr 1; omega
theorem pla_b {u d k : Nat} (h1 : k ≤ u) (h2 : k ≤ d) : 13 * (nI u - nI k) + nI d - nI k = nI (pla u d k) := by
  rw [nI_sub h1, nl13, nI_mul, nI_add, nI_sub (by omega)]; unfold pla; congr 1
/-- cell a of K is cell a of L with an ORDERED form added at its first k places -/
def added (u d : Nat) (v : Int64) (o b c : Nat → Int64) (k : Nat) : Prop := (∀ t, t < k → c (pla u d t) = b (pla u d t) + v * o t) ∧ ∀ p, p < 169 → (∀ t, t < k → p ≠ pla u d t) → c p = b p
theorem added_step {u d k a m : Nat} {v x : Int64} {o b : Nat → Int64} {K : ML} (h : u + d ≤ 12) (hm : m = min u d) (hk : k ≤ m) (h1 : added u d v o b (K a) k) (hx : x = b (pla u d k) + v * o k) : added u d v o b (upL K a (pla u d k) x a) (k + 1) := by
  refine ⟨fun t ht => ?_, fun p hp hn => ?_⟩
  · rw [upL_at]
    by_cases q : t = k
    · rw [q, if_pos rfl, hx]
    · rw [if_neg (fun e => q (pla_inj h (by omega) (by omega) (by omega) (by omega) e))]; exact h1.1 t (by omega)
  · rw [upL_at, if_neg (hn k (by omega))]; exact h1.2 p hp (fun t ht => hn t (by omega))
theorem added_at {u d k m : Nat} {v : Int64} {o b c : Nat → Int64} (h : u + d ≤ 12) (hm : m = min u d) (hk : k ≤ m) (h1 : added u d v o b c k) : c (pla u d k) = b (pla u d k) := h1.2 _ (pla_lt h (by omega) (by omega)) (fun t ht e => by have := pla_inj h (by omega) (by omega) (by omega) (by omega) e; omega)
theorem added_eq {u d k : Nat} {v : Int64} {o b c c' : Nat → Int64} (h1 : added u d v o b c k) (h2 : added u d v o b c' k) {p : Nat} (hp : p < 169) : c p = c' p := by
  by_cases q : ∃ t, t < k ∧ p = pla u d t
  · obtain ⟨t, ht, e⟩ := q
    rw [e, h1.1 t ht, h2.1 t ht]
  · rw [h1.2 p hp (fun t ht e => q ⟨t, ht, e⟩), h2.2 p hp (fun t ht e => q ⟨t, ht, e⟩)]
theorem added_congr {u d k m : Nat} {v : Int64} {o o' b b' c : Nat → Int64} (h : u + d ≤ 12) (hm : m = min u d) (hk : k ≤ m + 1) (ho : ∀ i, i < 13 → o i = o' i) (hb : ∀ p, p < 169 → b p = b' p) (h1 : added u d v o b c k) : added u d v o' b' c k :=
  ⟨fun t ht => by rw [h1.1 t ht, ho t (by omega), hb _ (pla_lt h (by omega) (by omega))], fun p hp hn => by rw [h1.2 p hp hn, hb p hp]⟩
def addOK (u d : Nat) (v : Int64) (o b : Nat → Int64) : Prop := ∀ t, t ≤ min u d → SB (b (pla u d t) + v * o t)
theorem addOK_congr {u d : Nat} {v : Int64} {o o' b b' : Nat → Int64} (h : u + d ≤ 12) (ho : ∀ i, i < 13 → o i = o' i) (hb : ∀ p, p < 169 → b p = b' p) (h1 : addOK u d v o b) : addOK u d v o' b' := fun t ht => by
  rw [← ho t (by omega), ← hb _ (pla_lt h (by omega) (by omega))]; exact h1 t ht
theorem takeC {N u d : Nat} {v : Int32} {L : ML} (h : u + d ≤ 12) (hN : 20 ≤ N) : ∃ r, f_X6_take_l14 N 3 98 13 (nI u) (nI d) v (nI (min u d)) 0 L = some r ∧ ((∃ K, r = .inl K ∧ addOK u d (Int32.toInt64 v) (L 98) (L 5) ∧ added u d (Int32.toInt64 v) (L 98) (L 5) (K 5) (min u d + 1) ∧ frL (fun b j => b = 5) L K) ∨ (∃ K, r = .inr (0, K) ∧ ¬ addOK u d (Int32.toInt64 v) (L 98) (L 5) ∧ frL (fun b j => b = 5) L K)) := by
  refine loop_inv2 (f := fun s => f_X6_take_b14 N 3 98 13 (nI u) (nI d) v (nI (min u d)) s.1 s.2) (fun k st => st.1 = nI k ∧ (∀ t, t < k → SB (L 5 (pla u d t) + Int32.toInt64 v * L 98 t)) ∧ added u d (Int32.toInt64 v) (L 98) (L 5) (st.2 5) k ∧ frL (fun b j => b = 5) L st.2) _ (min u d + 1) ?_ N 0 (0, L) (Nat.zero_le _) (by omega) ⟨nl0, fun t ht => absurd ht (by omega), ⟨fun t ht => absurd ht (by omega), fun p hp _ => rfl⟩, frL.rfl⟩
  rintro k ⟨c, K⟩ hk ⟨e1, w1, w2, f1⟩
  simp only at e1 w1 w2 f1
  subst e1
  by_cases q : k ≤ min u d
  · have i1 : inb (nI (pla u d k)) 169 = true := inb_nI (pla_lt h (by omega) (by omega)) (by decide)
    have c1 : Int32.toNatClampNeg (nI (pla u d k)) = pla u d k := nI_clamp (by have := pla_lt (u := u) (d := d) (k := k) h (by omega) (by omega); omega)
    have a1 := added_at h rfl q w2
    have e9 : K 98 k = L 98 k := f1 98 k (by omega)
    have hf : f_X6_take_b14 N 3 98 13 (nI u) (nI d) v (nI (min u d)) (nI k) K = bnd1 (f_X6_isBeyond (L 5 (pla u d k) + Int32.toInt64 v * L 98 k)) fun r10 => (if r10 = 0 then some (.inl (nI (k + 1), upL K 5 (pla u d k) (L 5 (pla u d k) + Int32.toInt64 v * L 98 k))) else some (.inr (.inr (0, upL K 5 (pla u d k) (L 5 (pla u d k) + Int32.toInt64 v * L 98 k))))) := by
      unfold f_X6_take_b14
      rw [if_neg (nI_le0 (by omega) q), pla_a (by omega) (by omega), if_pos i1, if_pos (inb_nI (by omega) (by decide)), if_pos i1, c1, nI_clamp (by omega)]
      simp only [letv]
      rw [if_pos i1, upL_eq, a1, e9, nI_1]
    have f2 : frL (fun b j => b = 5) L (upL K 5 (pla u d k) (L 5 (pla u d k) + Int32.toInt64 v * L 98 k)) := f1.trans (frL.up rfl)
    rcases in64 (L 5 (pla u d k) + Int32.toInt64 v * L 98 k) with ⟨s1, _, s2⟩ | ⟨s1, _, s2⟩
    · left
      refine ⟨_, hf.trans (by rw [bnd1_some s2, if_pos rfl]), ⟨rfl, fun t ht => ?_, added_step h rfl q w2 rfl, f2⟩, by omega⟩
      by_cases z : t = k
      · rw [z]; exact s1
      · exact w1 t (by omega)
    · right
      exact ⟨_, hf.trans (by rw [bnd1_some s2, if_neg (by decide)]), Or.inr ⟨_, rfl, fun z => s1 (z k q), f2⟩⟩
  · have : k = min u d + 1 := by omega
    subst this
    right
    refine ⟨.inl K, ?_, Or.inl ⟨K, rfl, fun t ht => w1 t (by omega), w2, f1⟩⟩
    show f_X6_take_b14 N 3 98 13 (nI u) (nI d) v (nI (min u d)) (nI (min u d + 1)) K = _
    unfold f_X6_take_b14
    rw [if_pos ((nI_ltI (by omega) (by omega)).mpr (by omega))]
theorem takeM1 {N u d : Nat} {v : Int32} {L : ML} (h : u + d ≤ 12) (hN : 20 ≤ N) : ∃ r, f_X11_add_l50 N v (nI u) (nI d) 0 L = some r ∧ ((r = .inl () ∧ addOK u d (Int32.toInt64 v) (L 124) (L 102)) ∨ (r = .inr (-6, L) ∧ ¬ addOK u d (Int32.toInt64 v) (L 124) (L 102))) := by
  refine loop_inv2 (f := fun s => f_X11_add_b50 N v (nI u) (nI d) s L) (fun k st => st = nI k ∧ (∀ t, t < k → SB (L 102 (pla u d t) + Int32.toInt64 v * L 124 t))) _ (min u d + 1) ?_ N 0 0 (Nat.zero_le _) (by omega) ⟨nl0, fun t ht => absurd ht (by omega)⟩
  rintro k c hk ⟨e1, w1⟩
  subst e1
  by_cases q : k ≤ min u d
  · have i1 : inb (nI (pla u d k)) 169 = true := inb_nI (pla_lt h (by omega) (by omega)) (by decide)
    have c1 : Int32.toNatClampNeg (nI (pla u d k)) = pla u d k := nI_clamp (by have := pla_lt (u := u) (d := d) (k := k) h (by omega) (by omega); omega)
    have hf : f_X11_add_b50 N v (nI u) (nI d) (nI k) L = bnd1 (f_X11_in (L 102 (pla u d k) + Int32.toInt64 v * L 124 k) (-1000000000000000) 1000000000000000) fun r17 => (if r17 = 0 then some (.inr (.inr ((-6), L))) else some (.inl (nI (k + 1)))) := by
      unfold f_X11_add_b50
      rw [if_neg (nI_le0 (by omega) (by omega)), if_neg (nI_le0 (by omega) (by omega)), pla_b (by omega) (by omega), if_pos i1, if_pos (inb_nI (by omega) (by decide)), c1, nI_clamp (by omega), nI_1]
    rcases in64 (L 102 (pla u d k) + Int32.toInt64 v * L 124 k) with ⟨s1, s2, _⟩ | ⟨s1, s2, _⟩
    · left
      refine ⟨_, hf.trans (by rw [bnd1_some s2, if_neg (by decide)]), ⟨rfl, fun t ht => ?_⟩, by omega⟩
      by_cases z : t = k
      · rw [z]; exact s1
      · exact w1 t (by omega)
    · right
      exact ⟨_, hf.trans (by rw [bnd1_some s2, if_pos rfl]), Or.inr ⟨rfl, fun z => s1 (z k q)⟩⟩
  · have : k = min u d + 1 := by omega
    subst this
    right
    refine ⟨.inl (), ?_, Or.inl ⟨rfl, fun t ht => w1 t (by omega)⟩⟩
    show f_X11_add_b50 N v (nI u) (nI d) (nI (min u d + 1)) L = _
    unfold f_X11_add_b50
    by_cases z : u < min u d + 1
    · rw [if_pos ((nI_ltI (by omega) (by omega)).mpr z)]
    · rw [if_neg (fun y => z ((nI_ltI (by omega) (by omega)).mp y)), if_pos ((nI_ltI (by omega) (by omega)).mpr (by omega))]
theorem takeM2 {N u d : Nat} {v : Int32} {L : ML} (h : u + d ≤ 12) (hN : 20 ≤ N) : ∃ K, f_X11_add_l116 N v (nI u) (nI d) 0 L = some K ∧ added u d (Int32.toInt64 v) (L 124) (L 102) (K 102) (min u d + 1) ∧ frL (fun b j => b = 102) L K := by
  refine loop_inv (f := fun s => f_X11_add_b116 N v (nI u) (nI d) s.1 s.2) (fun k st => st.1 = nI k ∧ added u d (Int32.toInt64 v) (L 124) (L 102) (st.2 102) k ∧ frL (fun b j => b = 102) L st.2) _ (min u d + 1) ?_ ?_ N 0 (0, L) (Nat.zero_le _) (by omega) ⟨nl0, ⟨fun t ht => absurd ht (by omega), fun p hp _ => rfl⟩, frL.rfl⟩
  · rintro k ⟨c, K⟩ hk ⟨e1, w2, f1⟩
    simp only at e1 w2 f1
    subst e1
    have q : k ≤ min u d := by omega
    have i1 : inb (nI (pla u d k)) 169 = true := inb_nI (pla_lt h (by omega) (by omega)) (by decide)
    have c1 : Int32.toNatClampNeg (nI (pla u d k)) = pla u d k := nI_clamp (by have := pla_lt (u := u) (d := d) (k := k) h (by omega) (by omega); omega)
    have a1 := added_at h rfl q w2
    have e9 : K 124 k = L 124 k := f1 124 k (by omega)
    refine ⟨(nI (k + 1), upL K 102 (pla u d k) (L 102 (pla u d k) + Int32.toInt64 v * L 124 k)), ?_, rfl, added_step h rfl q w2 rfl, f1.trans (frL.up rfl)⟩
    show f_X11_add_b116 N v (nI u) (nI d) (nI k) K = _
    unfold f_X11_add_b116
    rw [if_neg (nI_le0 (by omega) (by omega)), if_neg (nI_le0 (by omega) (by omega)), pla_b (by omega) (by omega), if_pos i1, if_pos (inb_nI (by omega) (by decide)), if_pos i1, c1, nI_clamp (by omega), a1, e9, nI_1]
    rfl
  · rintro ⟨c, K⟩ ⟨e1, w2, f1⟩
    simp only at e1 w2 f1
    subst e1
    refine ⟨K, ?_, w2, f1⟩
    show f_X11_add_b116 N v (nI u) (nI d) (nI (min u d + 1)) K = _
    unfold f_X11_add_b116
    by_cases z : u < min u d + 1
    · rw [if_pos ((nI_ltI (by omega) (by omega)).mpr z)]
    · rw [if_neg (fun y => z ((nI_ltI (by omega) (by omega)).mp y)), if_pos ((nI_ltI (by omega) (by omega)).mpr (by omega))]
theorem begin_spec (L : ML) : ∃ L', f_X6_begin 3 L = some L' ∧ (∀ p, p < 169 → L' 5 p = L 4 p) ∧ frL (fun b j => b = 5) L L' := by
  refine ⟨cpL L 4 5 0 0 169, ?_, fun p hp => ?_, fun b j n => ?_⟩
  · unfold f_X6_begin; rw [if_pos (by decide)]; rfl
  · show va_cpy (L 4) (L 5) 0 0 169 p = _
    unfold va_cpy; rw [if_pos (by omega)]; congr 1; omega
  · unfold cpL; rw [if_neg n]
theorem settle_spec (L : ML) : ∃ L', f_X6_settle 3 L = some L' ∧ (∀ p, p < 169 → L' 4 p = L 5 p) ∧ frL (fun b j => b = 4) L L' := by
  refine ⟨cpL L 5 4 0 0 169, ?_, fun p hp => ?_, fun b j n => ?_⟩
  · unfold f_X6_settle; rw [if_pos (by decide)]; rfl
  · show va_cpy (L 5) (L 4) 0 0 169 p = _
    unfold va_cpy; rw [if_pos (by omega)]; congr 1; omega
  · unfold cpL; rw [if_neg n]
section SS2
variable {PL : MX → MI → ML → Prop} {PA : MI → Prop} {N : Nat}
theorem s_add (hPL : frPL PL) (hPA : frPA PA) (hN : 1000 ≤ N) : S_add N (Inv0 PL PA) := by
  intro X I L x1 x2 hI
  rcases six_cases x1 with ⟨w, hw, rfl, e1, e2⟩ | ⟨e1, e2⟩
  · have iw : inb (nI w) 6 = true := inb_nI hw (by decide)
    have cw : Int32.toNatClampNeg (nI w) = w := nI_clamp (by omega)
    obtain ⟨l, hl, hb, hc, hm⟩ := hI.w hw
    have hin : f_X11_in (Int32.toInt64 x2) (-99) 99 = some (if (-99 : Int) ≤ x2.toInt ∧ x2.toInt ≤ 99 then 1 else 0) := in_of (by decide) (by decide)
    have t1 : x2 < -99 ↔ x2.toInt < -99 := by rw [Int32.lt_iff_toInt_lt]; rfl
    have t2 : 99 < x2 ↔ 99 < x2.toInt := by rw [Int32.lt_iff_toInt_lt]; rfl
    by_cases hr : (-99 : Int) ≤ x2.toInt ∧ x2.toInt ≤ 99
    · rw [if_pos hr] at hin
      have r1 : ¬ x2 < -99 := fun z => by rw [t1] at z; omega
      have r2 : ¬ 99 < x2 := fun z => by rw [t2] at z; omega
      obtain ⟨u, hu, u1, u2⟩ := ups_num (N := N) hw hl hc hm (by omega)
      have hud : u + (l.length - u) ≤ 12 := by omega
      generalize hd : l.length - u = d at hud
      have hdn : nI l.length - nI u = nI d := by rw [nI_sub hu, hd]
      obtain ⟨L1, a1, a2, a3⟩ := orders_C (N := N) hc hl (by omega) L
      obtain ⟨L2, b1, b2, b3⟩ := begin_spec L1
      obtain ⟨r, c1, c2⟩ := takeC (N := N) (v := x2) (L := L2) hud (by omega)
      have hs := hI.s
      have hdown : f_X9_downs N (10 + 4 * w) I = some (nI d) := by
        unfold f_X9_downs; rw [bnd1_some u1, hc.1, hdn]
      have hmin : (if nI d < nI u then nI d else nI u) = nI (min u d) := by
        by_cases z : d < u
        · rw [if_pos ((nI_ltI (by omega) (by omega)).mpr z)]; congr 1; omega
        · rw [if_neg (fun y => z ((nI_ltI (by omega) (by omega)).mp y))]; congr 1; omega
      have ho : ∀ (M : ML), (∀ i, i < 14 → M 124 i = ordW l 0 (fun i => if i = 0 then 1 else 0) i) → ∀ i, i < 13 → L2 98 i = M 124 i := fun M hM i hi => by
        rw [b3 98 i (by omega), a2 i hi, hM i (by omega)]
      have hb4 : ∀ p, p < 169 → L2 5 p = L 102 p := fun p hp => by rw [b2 p hp, a3 4 p (by omega), (hs p hp).1]
      have tk : ∀ r', f_X6_take N 3 98 13 (nI u) (nI d) x2 L1 = some r' → f_X10_add N (nI w) x2 I L = (if r'.1 = 0 then some ((-6), r'.2) else bnd1 (f_X6_notZero N 3 r'.2) fun r17 => some (r17, r'.2)) := by
        intro r' h'
        unfold f_X10_add
        rw [bnd1_some e1, if_neg (by decide), if_neg r1, if_neg r2, if_pos iw, cw, bnd1_some a1, bnd1_some u1, bnd1_some hdown]
        exact bnd2_some (a := r'.1) (b := r'.2) h'
      have tu : f_X6_take N 3 98 13 (nI u) (nI d) x2 L1 = bns1 (some r) (fun L13 => bnd1 (f_X6_settle 3 L13) fun L15 => some (1, L15)) (fun q17 => some q17) := by
        unfold f_X6_take
        rw [bnd1_some b1]
        simp only [letv]
        rw [hmin, c1]
      rcases c2 with ⟨K, rfl, ok, ad, fK⟩ | ⟨K, rfl, nok, fK⟩
      · obtain ⟨L3, d1, d2, d3⟩ := settle_spec K
        obtain ⟨M, m1, m2, m3⟩ := orders_M (N := N) hw hm hl (by omega) L3
        have hb102 : ∀ p, p < 169 → L2 5 p = M 102 p := fun p hp => by
          rw [m3 102 p (by omega), d3 102 p (by omega), fK 102 p (by omega), b3 102 p (by omega), a3 102 p (by omega)]; exact hb4 p hp
        obtain ⟨q, n1, n2⟩ := takeM1 (N := N) (v := x2) (L := M) hud (by omega)
        obtain ⟨M2, o1, o2, o3⟩ := takeM2 (N := N) (v := x2) (L := M) hud (by omega)
        have ad' := added_congr (k := min u d + 1) hud rfl (by omega) (ho M m2) hb102 ad
        have ok' := addOK_congr hud (ho M m2) hb102 ok
        have heq : ∀ p, p < 169 → L3 4 p = M2 102 p := fun p hp => by rw [d2 p hp]; exact added_eq ad' o2 hp
        obtain ⟨z, z1, z2⟩ := many_both (N := N) heq hN
        rcases n2 with ⟨rfl, _⟩ | ⟨_, bad⟩
        · refine ⟨z, L3, M2, ?_, ?_, inv_sum hPL hPA hI ?_ (fun p hp => ?_)⟩
          · have : f_X6_take N 3 98 13 (nI u) (nI d) x2 L1 = some (1, L3) := by
              rw [tu, bns1_inl rfl, bnd1_some d1]
            rw [tk _ this, if_neg (by show ¬ (1 : Int32) = 0; decide)]
            exact bnd1_some z1
          · unfold f_X11_add
            rw [bnd1_some e2, if_neg (by decide), bnd1_some hin, if_neg (by decide), bnd1_some m1, bnd1_some u2, if_pos iw, cw, hm.1, hdn]
            simp only [letv]
            rw [bns1_inl n1, bnd1_some o1, bnd1_some z2]
          · exact ((a3.mono (S' := fun b j => scrL b j ∨ sS b j) (fun b j h => by unfold scrL; omega)).trans ((b3.mono (fun b j h => by unfold scrL; omega)).trans ((fK.mono (fun b j h => by unfold scrL; omega)).trans ((d3.mono (fun b j h => by unfold sS; omega)).trans ((m3.mono (fun b j h => by unfold scrL; omega)).trans (o3.mono (fun b j h => by unfold sS; omega)))))))
          · have e4 : M2 4 p = L3 4 p := by rw [o3 4 p (by omega), m3 4 p (by omega)]
            rw [e4]
            refine ⟨heq p hp, ?_⟩
            rw [d2 p hp]
            by_cases q : ∃ t, t < min u d + 1 ∧ p = pla u d t
            · obtain ⟨t, ht, e⟩ := q
              rw [e, ad.1 t ht]; exact ok t (by omega)
            · rw [ad.2 p hp (fun t ht e => q ⟨t, ht, e⟩), hb4 p hp, ← (hs p hp).1]; exact (hs p hp).2
        · exact absurd ok' bad
      · obtain ⟨M, m1, m2, m3⟩ := orders_M (N := N) hw hm hl (by omega) K
        have hb102 : ∀ p, p < 169 → L2 5 p = M 102 p := fun p hp => by
          rw [m3 102 p (by omega), fK 102 p (by omega), b3 102 p (by omega), a3 102 p (by omega)]; exact hb4 p hp
        obtain ⟨q, n1, n2⟩ := takeM1 (N := N) (v := x2) (L := M) hud (by omega)
        rcases n2 with ⟨_, good⟩ | ⟨rfl, _⟩
        · exact absurd (addOK_congr hud (fun i hi => (ho M m2 i hi).symm) (fun p hp => (hb102 p hp).symm) good) nok
        · refine ⟨-6, K, M, ?_, ?_, inv_scr hPL hPA hI fr.rfl ((a3.mono (S' := scrL) (fun b j h => by unfold scrL; omega)).trans ((b3.mono (fun b j h => by unfold scrL; omega)).trans ((fK.mono (fun b j h => by unfold scrL; omega)).trans (m3.mono (fun b j h => by unfold scrL; omega)))))⟩
          · have : f_X6_take N 3 98 13 (nI u) (nI d) x2 L1 = some (0, K) := by
              rw [tu, bns1_inr rfl]
            rw [tk _ this, if_pos rfl]
          · unfold f_X11_add
            rw [bnd1_some e2, if_neg (by decide), bnd1_some hin, if_neg (by decide), bnd1_some m1, bnd1_some u2, if_pos iw, cw, hm.1, hdn]
            simp only [letv]
            rw [bns1_inr n1]
    · rw [if_neg hr] at hin
      refine ⟨-2, L, L, ?_, ?_, hI⟩
      · unfold f_X10_add
        rw [bnd1_some e1, if_neg (by decide)]
        by_cases q : x2 < -99
        · rw [if_pos q]
        · rw [if_neg q, if_pos (t2.mpr (by rw [t1] at q; omega))]
      · unfold f_X11_add
        rw [bnd1_some e2, if_neg (by decide), bnd1_some hin, if_pos rfl]
  · refine ⟨-1, L, L, ?_, ?_, hI⟩
    · unfold f_X10_add; rw [bnd1_some e1, if_pos rfl]
    · unfold f_X11_add; rw [bnd1_some e2, if_pos rfl]
end SS2
