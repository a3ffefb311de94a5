/-! ===== THE SUM: times ===== -/
def upN (G : Nat → Nat → Int64) (i j : Nat) : Int64 := (if 0 < i then G (i - 1) j else 0) + (if j < 12 then Int32.toInt64 (nI (j + 1)) * G i (j + 1) else 0)
def dnN (G : Nat → Nat → Int64) (i j : Nat) : Int64 := if 0 < j then G i (j - 1) else 0
def upOK (G : Nat → Nat → Int64) : Prop := (∀ j, j < 13 → G 12 j = 0) ∧ ∀ i j, i < 13 → j < 13 → SB (upN G i j)
def dnOK (G : Nat → Nat → Int64) : Prop := ∀ i, i < 13 → G i 12 = 0
theorem nl156 : (156 : Int32) = nI 156 := by decide +kernel
theorem m13 {i j : Nat} : nI i * 13 + nI j = nI (13 * i + j) := by rw [nl13, nI_mul, nI_add, Nat.mul_comm]
theorem m14 {i j : Nat} : 14 * nI i + nI j = nI (14 * i + j) := by rw [nl14, nI_mul, nI_add]
theorem n13 {i j : Nat} : 13 * nI i + nI j = nI (13 * i + j) := by rw [nl13, nI_mul, nI_add]
theorem row12 {N : Nat} {L : ML} {G : Nat → Nat → Int64} (hG : ∀ a b, a < 13 → b < 13 → L 5 (13 * a + b) = G a b) (hN : 20 ≤ N) : ∃ r, f_X6_comingByUp_l2 N 3 0 L = some r ∧ ((r = .inl () ∧ ∀ j, j < 13 → G 12 j = 0) ∨ (r = .inr (0, L) ∧ ¬ ∀ j, j < 13 → G 12 j = 0)) := by
  refine loop_inv2 (f := fun s => f_X6_comingByUp_b2 N 3 s L) (fun k st => st = nI k ∧ (∀ j, j < k → G 12 j = 0)) _ 13 ?_ N 0 0 (Nat.zero_le _) (by omega) ⟨nl0, fun t ht => absurd ht (by omega)⟩
  rintro k c hk ⟨e1, w1⟩
  subst e1
  by_cases q : k < 13
  · have hf : f_X6_comingByUp_b2 N 3 (nI k) L = (if G 12 k = 0 then some (.inl (nI (k + 1))) else some (.inr (.inr (0, L)))) := by
      unfold f_X6_comingByUp_b2
      rw [nl13, if_pos ((nI_ltI (by omega) (by omega)).mpr q), nl156, nI_add, if_pos (inb_nI (by omega) (by decide)), nI_clamp (by omega), nI_1]
      have := hG 12 k (by omega) q
      rw [show 13 * 12 + k = 156 + k from rfl] at this
      rw [this]
    by_cases z : G 12 k = 0
    · left
      refine ⟨_, hf.trans (if_pos z), ⟨rfl, fun j hj => ?_⟩, q⟩
      by_cases y : j = k
      · rw [y]; exact z
      · exact w1 j (by omega)
    · right
      exact ⟨_, hf.trans (if_neg z), Or.inr ⟨rfl, fun h => z (h k q)⟩⟩
  · have : k = 13 := by omega
    subst this
    right
    refine ⟨.inl (), ?_, Or.inl ⟨rfl, w1⟩⟩
    show f_X6_comingByUp_b2 N 3 (nI 13) L = _
    unfold f_X6_comingByUp_b2
    rw [if_neg (by decide)]
theorem upRow {N i : Nat} {L : ML} {G : Nat → Nat → Int64} (hi : i < 13) (hG : ∀ a b, a < 13 → b < 13 → L 5 (13 * a + b) = if (i < a ∨ (a = i ∧ b < 0)) then upN G a b else G a b) (hN : 20 ≤ N) : ∃ r, f_X6_comingByUp_l40 N 3 (nI i) 0 L = some r ∧ ((∃ K, r = .inl K ∧ (∀ j, j < 13 → SB (upN G i j)) ∧ (∀ a b, a < 13 → b < 13 → K 5 (13 * a + b) = if (i < a ∨ (a = i ∧ b < 13)) then upN G a b else G a b) ∧ frL (fun b j => b = 5) L K) ∨ (∃ K, r = .inr (0, K) ∧ (¬ ∀ j, j < 13 → SB (upN G i j)) ∧ frL (fun b j => b = 5) L K)) := by
  refine loop_inv2 (f := fun s => f_X6_comingByUp_b40 N 3 (nI i) s.1 s.2) (fun k st => st.1 = nI k ∧ (∀ j, j < k → SB (upN G i j)) ∧ (∀ a b, a < 13 → b < 13 → st.2 5 (13 * a + b) = if (i < a ∨ (a = i ∧ b < k)) then upN G a b else G a b) ∧ frL (fun b j => b = 5) L st.2) _ 13 ?_ N 0 (0, L) (Nat.zero_le _) (by omega) ⟨nl0, fun t ht => absurd ht (by omega), hG, frL.rfl⟩
  rintro k ⟨c, K⟩ hk ⟨e1, w1, w2, f1⟩
  simp only at e1 w1 w2 f1
  subst e1
  by_cases q : k < 13
  · have hf : f_X6_comingByUp_b40 N 3 (nI i) (nI k) K = bnd1 (f_X6_isBeyond (upN G i k)) fun r14 => (if r14 = 0 then some (.inl (nI (k + 1), upL K 5 (13 * i + k) (upN G i k))) else some (.inr (.inr (0, upL K 5 (13 * i + k) (upN G i k))))) := by
      have h96 : ∀ s v : Int64, s + v = upN G i k → f_X6_comingByUp_b40_j96 N 3 (nI i) (nI k) s v K = bnd1 (f_X6_isBeyond (upN G i k)) fun r14 => (if r14 = 0 then some (.inl (nI (k + 1), upL K 5 (13 * i + k) (upN G i k))) else some (.inr (.inr (0, upL K 5 (13 * i + k) (upN G i k))))) := by
        intro s v hsv
        unfold f_X6_comingByUp_b40_j96
        rw [m13, if_pos (inb_nI (by omega) (by decide)), nI_clamp (by omega)]
        simp only [letv]
        rw [hsv, nI_1]
      have h67 : ∀ s : Int64, s = (if 0 < i then G (i - 1) k else 0) → f_X6_comingByUp_b40_j67 N 3 (nI i) (nI k) s K = bnd1 (f_X6_isBeyond (upN G i k)) fun r14 => (if r14 = 0 then some (.inl (nI (k + 1), upL K 5 (13 * i + k) (upN G i k))) else some (.inr (.inr (0, upL K 5 (13 * i + k) (upN G i k))))) := by
        intro s hs
        unfold f_X6_comingByUp_b40_j67
        by_cases z : k < 12
        · have w3 := w2 i (k + 1) hi (by omega)
          rw [if_neg (by omega)] at w3
          rw [nl12, if_pos ((nI_ltI (by omega) (by omega)).mpr z), m13, nI_1, nI_1, if_pos (inb_nI (by omega) (by decide)), nI_clamp (by omega)]
          refine h96 _ _ ?_
          rw [show (3 : Nat) + 2 = 5 from rfl, show 13 * i + k + 1 = 13 * i + (k + 1) from rfl, w3, hs]
          unfold upN
          rw [if_pos z]
        · rw [nl12, if_neg (fun y => z ((nI_ltI (by omega) (by omega)).mp y))]
          refine h96 _ _ ?_
          rw [hs]; unfold upN
          rw [if_neg z]
      unfold f_X6_comingByUp_b40
      rw [nl13, if_pos ((nI_ltI (by omega) (by omega)).mpr q)]
      by_cases z : 0 < i
      · have w3 := w2 (i - 1) k (by omega) q
        rw [if_neg (by omega)] at w3
        have e5 : (nI i - 1) * nI 13 + nI k = nI (13 * (i - 1) + k) := by rw [nl1, nI_sub (by omega), ← nl13, m13]
        rw [nl0, if_pos ((nI_ltI (by omega) (by omega)).mpr z), e5, if_pos (inb_nI (by omega) (by decide)), nI_clamp (by omega)]
        refine h67 _ ?_
        rw [show (3 : Nat) + 2 = 5 from rfl, w3, if_pos z]
      · rw [if_neg (by rw [nl0, nI_ltI (by omega) (by omega)]; exact z)]
        refine h67 _ ?_
        rw [if_neg z]
    have f2 : frL (fun b j => b = 5) L (upL K 5 (13 * i + k) (upN G i k)) := f1.trans (frL.up rfl)
    rcases in64 (upN G i k) with ⟨s1, _, s2⟩ | ⟨s1, _, s2⟩
    · left
      refine ⟨_, hf.trans (by rw [bnd1_some s2, if_pos rfl]), ⟨rfl, fun t ht => ?_, fun a b ha hb => ?_, f2⟩, q⟩
      · by_cases z : t = k
        · rw [z]; exact s1
        · exact w1 t (by omega)
      · show upL K 5 (13 * i + k) (upN G i k) 5 (13 * a + b) = _
        rw [upL_at]
        by_cases z : 13 * a + b = 13 * i + k
        · have za : a = i := by omega
          have zb : b = k := by omega
          rw [if_pos z, if_pos (by omega), za, zb]
        · rw [if_neg z, w2 a b ha hb]
          by_cases y : (i < a ∨ (a = i ∧ b < k))
          · rw [if_pos y, if_pos (by omega)]
          · rw [if_neg y, if_neg (by omega)]
    · right
      exact ⟨_, hf.trans (by rw [bnd1_some s2, if_neg (by decide)]), Or.inr ⟨_, rfl, fun z => s1 (z k q), f2⟩⟩
  · have : k = 13 := by omega
    subst this
    right
    refine ⟨.inl K, ?_, Or.inl ⟨K, rfl, w1, w2, f1⟩⟩
    show f_X6_comingByUp_b40 N 3 (nI i) (nI 13) K = _
    unfold f_X6_comingByUp_b40
    rw [if_neg (by decide)]
theorem upAll {N : Nat} {L : ML} {G : Nat → Nat → Int64} (hG : ∀ a b, a < 13 → b < 13 → L 5 (13 * a + b) = G a b) (hN : 20 ≤ N) : ∃ r, f_X6_comingByUp_l34 N 3 12 L = some r ∧ ((∃ K, r = .inl K ∧ (∀ i j, i < 13 → j < 13 → SB (upN G i j)) ∧ (∀ a b, a < 13 → b < 13 → K 5 (13 * a + b) = upN G a b) ∧ frL (fun b j => b = 5) L K) ∨ (∃ K, r = .inr (0, K) ∧ (¬ ∀ i j, i < 13 → j < 13 → SB (upN G i j)) ∧ frL (fun b j => b = 5) L K)) := by
  refine loop_inv2 (f := fun s => f_X6_comingByUp_b34 N 3 s.1 s.2) (fun k st => st.1 = nI (13 - k) - 1 ∧ (∀ i j, 13 - k ≤ i → i < 13 → j < 13 → SB (upN G i j)) ∧ (∀ a b, a < 13 → b < 13 → st.2 5 (13 * a + b) = if 13 - k ≤ a then upN G a b else G a b) ∧ frL (fun b j => b = 5) L st.2) _ 13 ?_ N 0 (12, L) (Nat.zero_le _) (by omega) ⟨show (12 : Int32) = nI 13 - 1 by decide, fun i j h1 h2 _ => absurd h2 (by omega), fun a b ha hb => by rw [if_neg (by omega)]; exact hG a b ha hb, frL.rfl⟩
  rintro k ⟨c, K⟩ hk ⟨e1, w1, w2, f1⟩
  simp only at e1 w1 w2 f1
  by_cases q : k < 13
  · have e4 : nI (13 - k) - 1 = nI (12 - k) := by rw [nl1, nI_sub (by omega)]; congr 1; omega
    rw [e4] at e1
    subst e1
    obtain ⟨r, g1, g2⟩ := upRow (N := N) (i := 12 - k) (L := K) (G := G) (by omega) (fun a b ha hb => by
      rw [w2 a b ha hb]
      by_cases y : 13 - k ≤ a
      · rw [if_pos y, if_pos (by omega)]
      · rw [if_neg y, if_neg (by omega)]) hN
    have hf : f_X6_comingByUp_b34 N 3 (nI (12 - k)) K = bns1 (some r) (fun L17 => some (.inl (nI (12 - k) + (-1), L17))) (fun q19 => some (.inr (.inr q19))) := by
      unfold f_X6_comingByUp_b34
      rw [if_neg (nI_pos (by omega)), g1]
    rcases g2 with ⟨K', rfl, g3, g4, g5⟩ | ⟨K', rfl, g3, g5⟩
    · left
      refine ⟨(nI (12 - k) + (-1), K'), hf, ⟨?_, fun i j h1 h2 h3 => ?_, fun a b ha hb => ?_, f1.trans g5⟩, q⟩
      · show nI (12 - k) + (-1) = nI (13 - (k + 1)) - 1
        rw [← Int32.sub_eq_add_neg]; congr 2; omega
      · by_cases y : i = 12 - k
        · rw [y]; exact g3 j h3
        · exact w1 i j (by omega) h2 h3
      · show K' 5 (13 * a + b) = _
        rw [g4 a b ha hb]
        by_cases y : 13 - (k + 1) ≤ a
        · rw [if_pos y, if_pos (by omega)]
        · rw [if_neg y, if_neg (by omega)]
    · right
      exact ⟨_, hf, Or.inr ⟨K', rfl, fun h => g3 (fun j hj => h _ j (by omega) hj), f1.trans g5⟩⟩
  · have : k = 13 := by omega
    subst this
    subst e1
    right
    refine ⟨.inl K, ?_, Or.inl ⟨K, rfl, fun i j h1 h2 => w1 i j (by omega) h1 h2, fun a b ha hb => ?_, f1⟩⟩
    · show f_X6_comingByUp_b34 N 3 (nI (13 - 13) - 1) K = _
      unfold f_X6_comingByUp_b34
      rw [if_pos (by decide)]
    · rw [w2 a b ha hb, if_pos (by omega)]
theorem upC {N : Nat} {L : ML} {G : Nat → Nat → Int64} (hG : ∀ a b, a < 13 → b < 13 → L 5 (13 * a + b) = G a b) (hN : 20 ≤ N) : (upOK G ∧ ∃ K, f_X6_comingByUp N 3 L = some (1, K) ∧ (∀ a b, a < 13 → b < 13 → K 5 (13 * a + b) = upN G a b) ∧ frL (fun b j => b = 5) L K) ∨ (¬ upOK G ∧ ∃ K, f_X6_comingByUp N 3 L = some (0, K) ∧ frL (fun b j => b = 5) L K) := by
  obtain ⟨r, g1, g2⟩ := row12 (N := N) hG hN
  unfold f_X6_comingByUp
  rw [g1]
  rcases g2 with ⟨rfl, h⟩ | ⟨rfl, h⟩
  · obtain ⟨r, k1, k2⟩ := upAll (N := N) hG hN
    rw [bns1_inl rfl, k1]
    rcases k2 with ⟨K, rfl, a1, a2, a3⟩ | ⟨K, rfl, a1, a3⟩
    · exact Or.inl ⟨⟨h, a1⟩, K, by rw [bns1_inl rfl], a2, a3⟩
    · exact Or.inr ⟨fun z => a1 z.2, K, by rw [bns1_inr rfl], a3⟩
  · exact Or.inr ⟨fun z => h z.1, L, by rw [bns1_inr rfl], frL.rfl⟩
theorem dnC {N : Nat} {L : ML} {G : Nat → Nat → Int64} (hG : ∀ a b, a < 13 → b < 13 → L 5 (13 * a + b) = G a b) (hN : 20 ≤ N) : (dnOK G ∧ ∃ K, f_X6_comingByDown N 3 L = some (1, K) ∧ (∀ a b, a < 13 → b < 13 → K 5 (13 * a + b) = dnN G a b) ∧ frL (fun b j => b = 5) L K) ∨ (¬ dnOK G ∧ ∃ K, f_X6_comingByDown N 3 L = some (0, K) ∧ frL (fun b j => b = 5) L K) := by
  have key : ∃ r, f_X6_comingByDown_l2 N 3 0 L = some r ∧ ((∃ K, r = .inl K ∧ dnOK G ∧ (∀ a b, a < 13 → b < 13 → K 5 (13 * a + b) = dnN G a b) ∧ frL (fun b j => b = 5) L K) ∨ (∃ K, r = .inr (0, K) ∧ ¬ dnOK G ∧ frL (fun b j => b = 5) L K)) := by
    refine loop_inv2 (f := fun s => f_X6_comingByDown_b2 N 3 s.1 s.2) (fun k st => st.1 = nI k ∧ (∀ i, i < k → G i 12 = 0) ∧ (∀ a b, a < 13 → b < 13 → st.2 5 (13 * a + b) = if a < k then dnN G a b else G a b) ∧ frL (fun b j => b = 5) L st.2) _ 13 ?_ N 0 (0, L) (Nat.zero_le _) (by omega) ⟨nl0, fun t ht => absurd ht (by omega), fun a b ha hb => by rw [if_neg (by omega)]; exact hG a b ha hb, frL.rfl⟩
    rintro k ⟨c, K⟩ hk ⟨e1, w1, w2, f1⟩
    simp only at e1 w1 w2 f1
    subst e1
    by_cases q : k < 13
    · have m0 : nI k * 13 = nI (13 * k) := by rw [nl13, nI_mul, Nat.mul_comm]
      have hf : f_X6_comingByDown_b2 N 3 (nI k) K = (if G k 12 = 0 then some (.inl (nI (k + 1), upL (cpL K 5 5 (13 * k) (13 * k + 1) 12) 5 (13 * k) 0)) else some (.inr (.inr (0, K)))) := by
        have w3 := w2 k 12 q (by omega)
        rw [if_neg (by omega)] at w3
        have hcp : cpok (nI (13 * k)) (nI (13 * k + 1)) 12 169 169 = true := by
          simp only [cpok, Bool.and_eq_true, Bool.not_eq_true', decide_eq_false_iff_not, decide_eq_true_eq]
          rw [nI_clamp (by omega), nI_clamp (by omega)]
          have : Int32.toNatClampNeg 12 = 12 := by decide
          rw [this]
          exact ⟨⟨⟨nI_pos (by omega), nI_pos (by omega)⟩, by decide⟩, by omega, by omega⟩
        unfold f_X6_comingByDown_b2
        have lt : nI k < (13 : Int32) := by rw [nl13]; exact (nI_ltI (by omega) (by omega)).mpr q
        rw [if_pos lt, m0, nl12, nI_add, nI_1, nI_1, if_pos (inb_nI (by omega) (by decide)), ← nl12, if_pos hcp]
        simp only [letv]
        rw [if_pos (inb_nI (by omega) (by decide)), nI_clamp (by omega), nI_clamp (by omega), nI_clamp (by omega), show Int32.toNatClampNeg 12 = 12 by decide]
        rw [show (3 : Nat) + 2 = 5 from rfl, w3]
      by_cases z : G k 12 = 0
      · left
        have fc5 : frL (fun b j => b = 5) K (cpL K 5 5 (13 * k) (13 * k + 1) 12) := fun b j n => by unfold cpL; rw [if_neg n]
        refine ⟨_, hf.trans (if_pos z), ⟨rfl, fun i hi => ?_, fun a b ha hb => ?_, f1.trans (fc5.trans (frL.up rfl))⟩, q⟩
        · by_cases y : i = k
          · rw [y]; exact z
          · exact w1 i (by omega)
        · show upL (cpL K 5 5 (13 * k) (13 * k + 1) 12) 5 (13 * k) 0 5 (13 * a + b) = _
          rw [upL_at]
          by_cases y : 13 * a + b = 13 * k
          · rw [if_pos y, if_pos (by omega)]
            unfold dnN
            rw [if_neg (by omega)]
          · rw [if_neg y]
            show va_cpy (K 5) (K 5) (13 * k) (13 * k + 1) 12 (13 * a + b) = _
            unfold va_cpy
            by_cases x : 13 * k + 1 ≤ 13 * a + b ∧ 13 * a + b < 13 * k + 1 + 12
            · have za : a = k := by omega
              subst za
              have e5 : 13 * a + (13 * a + b - (13 * a + 1)) = 13 * a + (b - 1) := by omega
              rw [if_pos x, if_pos (by omega), e5, w2 a (b - 1) ha (by omega), if_neg (by omega)]
              unfold dnN
              rw [if_pos (by omega)]
            · rw [if_neg x, w2 a b ha hb]
              by_cases v : a < k
              · rw [if_pos v, if_pos (by omega)]
              · rw [if_neg v, if_neg (by omega)]
      · right
        exact ⟨_, hf.trans (if_neg z), Or.inr ⟨K, rfl, fun h => z (h k q), f1⟩⟩
    · have : k = 13 := by omega
      subst this
      right
      refine ⟨.inl K, ?_, Or.inl ⟨K, rfl, w1, fun a b ha hb => ?_, f1⟩⟩
      · show f_X6_comingByDown_b2 N 3 (nI 13) K = _
        unfold f_X6_comingByDown_b2
        rw [if_neg (by decide)]
      · rw [w2 a b ha hb, if_pos ha]
  obtain ⟨r, k1, k2⟩ := key
  unfold f_X6_comingByDown
  rw [k1]
  rcases k2 with ⟨K, rfl, a1, a2, a3⟩ | ⟨K, rfl, a1, a3⟩
  · exact Or.inl ⟨a1, K, by rw [bns1_inl rfl], a2, a3⟩
  · exact Or.inr ⟨a1, K, by rw [bns1_inr rfl], a3⟩
def mOK : List Int32 → (Nat → Nat → Int64) → Prop
  | [], _ => True
  | x :: l, G => if x = 0 then upOK G ∧ mOK l (upN G) else dnOK G ∧ mOK l (dnN G)
def mN : List Int32 → (Nat → Nat → Int64) → (Nat → Nat → Int64)
  | [], G => G
  | x :: l, G => if x = 0 then mN l (upN G) else mN l (dnN G)
theorem drop_one {l : List Int32} {j : Nat} {x : Int32} (hj : j < l.length) (hx : l[j]? = some x) : l.drop j = x :: l.drop (j + 1) := by
  rw [List.drop_eq_getElem_cons hj]; congr 1
  rw [List.getElem?_eq_getElem hj] at hx; exact Option.some.inj hx
theorem mulC {N a : Nat} {I : MI} {L : ML} {l : List Int32} {G : Nat → Nat → Int64} (hc : WC I a l) (hl : l.length ≤ 12) (hG : ∀ a b, a < 13 → b < 13 → L 5 (13 * a + b) = G a b) (hN : 20 ≤ N) : ∃ r, f_X6_multiply_l6 N 3 a 0 I L = some r ∧ ((∃ K, r = .inl K ∧ mOK l G ∧ (∀ a b, a < 13 → b < 13 → K 5 (13 * a + b) = mN l G a b) ∧ frL (fun b j => b = 5) L K) ∨ (∃ K, r = .inr (0, K) ∧ ¬ mOK l G ∧ frL (fun b j => b = 5) L K)) := by
  refine loop_inv2 (f := fun s => f_X6_multiply_b6 N 3 a s.1 I s.2) (fun k st => st.1 = nI k ∧ (∃ H, (mOK l G ↔ mOK (l.drop k) H) ∧ mN l G = mN (l.drop k) H ∧ ∀ a b, a < 13 → b < 13 → st.2 5 (13 * a + b) = H a b) ∧ frL (fun b j => b = 5) L st.2) _ l.length ?_ N 0 (0, L) (Nat.zero_le _) (by omega) ⟨nl0, ⟨G, Iff.rfl, rfl, hG⟩, frL.rfl⟩
  rintro k ⟨c, K⟩ hk ⟨e1, ⟨H, w1, w2, w3⟩, f1⟩
  simp only at e1 w1 w2 w3 f1
  subst e1
  by_cases q : k < l.length
  · obtain ⟨x, hx⟩ := get_some q
    rw [drop_one q hx] at w1 w2
    have hf : f_X6_multiply_b6 N 3 a (nI k) I K = (if x = 0 then bnd2 (f_X6_comingByUp N 3 K) fun r6 L7 => (if r6 = 0 then some (.inr (.inr (0, L7))) else some (.inl (nI (k + 1), L7))) else bnd2 (f_X6_comingByDown N 3 K) fun r10 L11 => (if r10 = 0 then some (.inr (.inr (0, L11))) else some (.inl (nI (k + 1), L11)))) := by
      unfold f_X6_multiply_b6
      rw [hc.1, if_pos ((nI_ltI (by omega) (by omega)).mpr q), if_pos (inb_nI (by omega) (by decide)), nI_clamp (by omega), hc.2 k x hx, nI_1]
    by_cases z : x = 0
    · rw [if_pos z] at hf
      rw [mOK, if_pos z] at w1
      rw [mN, if_pos z] at w2
      rcases upC (N := N) w3 hN with ⟨g1, K', g2, g3, g4⟩ | ⟨g1, K', g2, g4⟩
      · left
        exact ⟨_, hf.trans (by rw [bnd2_some g2, if_neg (by decide)]), ⟨rfl, ⟨upN H, w1.trans ⟨fun h => h.2, fun h => ⟨g1, h⟩⟩, w2, g3⟩, f1.trans g4⟩, q⟩
      · right
        exact ⟨_, hf.trans (by rw [bnd2_some g2, if_pos rfl]), Or.inr ⟨K', rfl, fun h => g1 (w1.mp h).1, f1.trans g4⟩⟩
    · rw [if_neg z] at hf
      rw [mOK, if_neg z] at w1
      rw [mN, if_neg z] at w2
      rcases dnC (N := N) w3 hN with ⟨g1, K', g2, g3, g4⟩ | ⟨g1, K', g2, g4⟩
      · left
        exact ⟨_, hf.trans (by rw [bnd2_some g2, if_neg (by decide)]), ⟨rfl, ⟨dnN H, w1.trans ⟨fun h => h.2, fun h => ⟨g1, h⟩⟩, w2, g3⟩, f1.trans g4⟩, q⟩
      · right
        exact ⟨_, hf.trans (by rw [bnd2_some g2, if_pos rfl]), Or.inr ⟨K', rfl, fun h => g1 (w1.mp h).1, f1.trans g4⟩⟩
  · have : k = l.length := by omega
    subst this
    rw [List.drop_length] at w1 w2
    right
    refine ⟨.inl K, ?_, Or.inl ⟨K, rfl, w1.mpr trivial, fun a b ha hb => ?_, f1⟩⟩
    · show f_X6_multiply_b6 N 3 a (nI l.length) I K = _
      unfold f_X6_multiply_b6
      rw [hc.1, if_neg (nI_le0 (by omega) (Nat.le_refl _))]
    · rw [w3 a b ha hb, w2]; rfl
/-! the reference -/
def nxt (x : Int32) (n : Nat → Nat → Int64) (a b : Nat) : Int64 := if x = 1 then (if a < 13 ∧ 0 < b then n a (b - 1) else 0) else (if 0 < a ∧ b < 13 then n (a - 1) b else 0) + (if a < 13 ∧ b < 12 then Int32.toInt64 (nI (b + 1)) * n a (b + 1) else 0)
/-- what has come of it when the places before (i, j) have been gone through -/
def nxp (x : Int32) (n : Nat → Nat → Int64) (i j a b : Nat) : Int64 := if x = 1 then (if a < 13 ∧ 0 < b ∧ (a < i ∨ (a = i ∧ b - 1 < j)) then n a (b - 1) else 0) else (if 0 < a ∧ b < 13 ∧ (a - 1 < i ∨ (a - 1 = i ∧ b < j)) then n (a - 1) b else 0) + (if a < 13 ∧ b < 12 ∧ (a < i ∨ (a = i ∧ b + 1 < j)) then Int32.toInt64 (nI (b + 1)) * n a (b + 1) else 0)
theorem nxp0 (n : Nat → Nat → Int64) (i j a b : Nat) : nxp 0 n i j a b = (if 0 < a ∧ b < 13 ∧ (a - 1 < i ∨ (a - 1 = i ∧ b < j)) then n (a - 1) b else 0) + (if a < 13 ∧ b < 12 ∧ (a < i ∨ (a = i ∧ b + 1 < j)) then Int32.toInt64 (nI (b + 1)) * n a (b + 1) else 0) := if_neg (by decide)
theorem nxp1 (n : Nat → Nat → Int64) (i j a b : Nat) : nxp 1 n i j a b = (if a < 13 ∧ 0 < b ∧ (a < i ∨ (a = i ∧ b - 1 < j)) then n a (b - 1) else 0) := if_pos rfl
theorem zero126 {N : Nat} {x : Int32} {L : ML} (hN : 1000 ≤ N) : ∃ K, f_X11_isTimes_l2 N x 0 L = some K ∧ (∀ i, i < 196 → K 126 i = 0) ∧ frL (fun b j => b = 126) L K := by
  refine loop_inv (f := fun s => f_X11_isTimes_b2 N x s.1 s.2) (fun k st => st.1 = nI k ∧ (∀ i, i < k → st.2 126 i = 0) ∧ frL (fun b j => b = 126) L st.2) _ 196 ?_ ?_ N 0 (0, L) (Nat.zero_le _) (by omega) ⟨nl0, fun t ht => absurd ht (by omega), frL.rfl⟩
  · rintro j ⟨c, K⟩ hj ⟨e1, w1, f1⟩
    simp only at e1 w1 f1
    subst e1
    refine ⟨(nI (j + 1), upL K 126 j 0), ?_, rfl, ?_, f1.trans (frL.up rfl)⟩
    · show f_X11_isTimes_b2 N x (nI j) K = _
      unfold f_X11_isTimes_b2
      rw [nl196, if_pos ((nI_ltI (by omega) (by omega)).mpr hj), if_pos (inb_nI hj (by decide)), nI_clamp (by omega)]
      simp only [letv]
      rw [nI_1]
    · intro i hi
      show upL K 126 j 0 126 i = 0
      rw [upL_at]
      by_cases q : i = j
      · rw [if_pos q]
      · rw [if_neg q]; exact w1 i (by omega)
  · rintro ⟨c, K⟩ ⟨e1, w1, f1⟩
    simp only at e1 w1 f1
    subst e1
    refine ⟨K, ?_, w1, f1⟩
    show f_X11_isTimes_b2 N x (nI 196) K = _
    unfold f_X11_isTimes_b2
    rw [if_neg (by decide)]
theorem nrow {N i : Nat} {x : Int32} {L : ML} {n : Nat → Nat → Int64} (hx : x = 0 ∨ x = 1) (hi : i < 13) (hn : ∀ a b, a < 14 → b < 14 → L 125 (14 * a + b) = n a b) (hG : ∀ a b, a < 14 → b < 14 → L 126 (14 * a + b) = nxp x n i 0 a b) (hN : 20 ≤ N) : ∃ K, f_X11_isTimes_l32 N x (nI i) 0 L = some K ∧ (∀ a b, a < 14 → b < 14 → K 126 (14 * a + b) = nxp x n i 13 a b) ∧ frL (fun b j => b = 126) L K := by
  refine loop_inv (f := fun s => f_X11_isTimes_b32 N x (nI i) s.1 s.2) (fun k st => st.1 = nI k ∧ (∀ a b, a < 14 → b < 14 → st.2 126 (14 * a + b) = nxp x n i k a b) ∧ frL (fun b j => b = 126) L st.2) _ 13 ?_ ?_ N 0 (0, L) (Nat.zero_le _) (by omega) ⟨nl0, hG, frL.rfl⟩
  · rintro k ⟨c, K⟩ hk ⟨e1, w1, f1⟩
    simp only at e1 w1 f1
    subst e1
    have hnk : K 125 (14 * i + k) = n i k := (f1 125 _ (by omega)).trans (hn i k (by omega) (by omega))
    have lt : nI k < (13 : Int32) := by rw [nl13]; exact (nI_ltI (by omega) (by omega)).mpr hk
    rcases hx with rfl | rfl
    · have e6 : 14 * (nI i + 1) + nI k = nI (14 * (i + 1) + k) := by rw [nI_1, m14]
      have w2 := w1 (i + 1) k (by omega) (by omega)
      have w4 : K 126 (14 * (i + 1) + k) + n i k = nxp 0 n i (k + 1) (i + 1) k := by
        rw [w2, nxp0, nxp0, if_neg (by omega), if_neg (by omega), if_pos (by omega), if_neg (by omega)]
        simp
      by_cases z : 0 < k
      · have e7 : 14 * nI i + nI k - 1 = nI (14 * i + (k - 1)) := by rw [m14, nl1, nI_sub (by omega)]; congr 1; omega
        have w3 := w1 i (k - 1) (by omega) (by omega)
        have w5 : K 126 (14 * i + (k - 1)) + Int32.toInt64 (nI k) * n i k = nxp 0 n i (k + 1) i (k - 1) := by
          rw [w3, nxp0, nxp0, if_neg (c := i < 13 ∧ k - 1 < 12 ∧ (i < i ∨ (i = i ∧ k - 1 + 1 < k))) (by omega), if_pos (c := i < 13 ∧ k - 1 < 12 ∧ (i < i ∨ (i = i ∧ k - 1 + 1 < k + 1))) (by omega), show k - 1 + 1 = k by omega]
          have ec : (0 < i ∧ k - 1 < 13 ∧ (i - 1 < i ∨ (i - 1 = i ∧ k - 1 < k))) ↔ (0 < i ∧ k - 1 < 13 ∧ (i - 1 < i ∨ (i - 1 = i ∧ k - 1 < k + 1))) := by omega
          by_cases y : 0 < i ∧ k - 1 < 13 ∧ (i - 1 < i ∨ (i - 1 = i ∧ k - 1 < k))
          · rw [if_pos y, if_pos (ec.mp y)]; simp
          · rw [if_neg y, if_neg (fun v => y (ec.mpr v))]; simp
        refine ⟨(nI (k + 1), upL (upL K 126 (14 * (i + 1) + k) (nxp 0 n i (k + 1) (i + 1) k)) 126 (14 * i + (k - 1)) (nxp 0 n i (k + 1) i (k - 1))), ?_, rfl, fun a b ha hb => ?_, f1.trans ((frL.up (S := fun b _ => b = 126) rfl).trans (frL.up (S := fun b _ => b = 126) rfl))⟩
        · show f_X11_isTimes_b32 N 0 (nI i) (nI k) K = _
          unfold f_X11_isTimes_b32
          have z0 : (0 : Int32) < nI k := by rw [nl0]; exact (nI_ltI (by omega) (by omega)).mpr z
          rw [if_pos lt, e7, e6, m14, if_pos (inb_nI (by omega) (by decide)), nI_clamp (by omega), hnk]
          simp only [letv]
          rw [if_neg (by decide), if_pos (inb_nI (by omega) (by decide)), if_pos (inb_nI (by omega) (by decide)), if_pos z0, if_pos (inb_nI (by omega) (by decide)), if_pos (inb_nI (by omega) (by decide)), nI_clamp (by omega), nI_clamp (by omega), w4, upL_ne 126 (14 * i + (k - 1)) (Or.inr (by omega)), w5, nI_1]
        · show upL (upL K 126 _ _) 126 _ _ 126 (14 * a + b) = _
          rw [upL_at, upL_at]
          by_cases y1 : 14 * a + b = 14 * i + (k - 1)
          · have ya : a = i := by omega
            have yb : b = k - 1 := by omega
            rw [if_pos y1, ya, yb]
          · rw [if_neg y1]
            by_cases y2 : 14 * a + b = 14 * (i + 1) + k
            · have ya : a = i + 1 := by omega
              have yb : b = k := by omega
              rw [if_pos y2, ya, yb]
            · rw [if_neg y2, w1 a b ha hb]
              rw [nxp0, nxp0]
              have c1 : (0 < a ∧ b < 13 ∧ (a - 1 < i ∨ (a - 1 = i ∧ b < k))) ↔ (0 < a ∧ b < 13 ∧ (a - 1 < i ∨ (a - 1 = i ∧ b < k + 1))) := by omega
              have c2 : (a < 13 ∧ b < 12 ∧ (a < i ∨ (a = i ∧ b + 1 < k))) ↔ (a < 13 ∧ b < 12 ∧ (a < i ∨ (a = i ∧ b + 1 < k + 1))) := by omega
              simp only [c1, c2]
      · have hk0 : k = 0 := by omega
        subst hk0
        refine ⟨(nI (0 + 1), upL K 126 (14 * (i + 1) + 0) (nxp 0 n i (0 + 1) (i + 1) 0)), ?_, rfl, fun a b ha hb => ?_, f1.trans (frL.up rfl)⟩
        · show f_X11_isTimes_b32 N 0 (nI i) (nI 0) K = _
          unfold f_X11_isTimes_b32
          rw [if_pos lt, e6, m14, if_pos (inb_nI (by omega) (by decide)), nI_clamp (by omega), hnk]
          simp only [letv]
          rw [if_neg (by decide), if_pos (inb_nI (by omega) (by decide)), if_pos (inb_nI (by omega) (by decide)), if_neg (by decide), nI_clamp (by omega), w4, nI_1]
        · show upL K 126 _ _ 126 (14 * a + b) = _
          rw [upL_at]
          by_cases y2 : 14 * a + b = 14 * (i + 1) + 0
          · have ya : a = i + 1 := by omega
            have yb : b = 0 := by omega
            rw [if_pos y2, ya, yb]
          · rw [if_neg y2, w1 a b ha hb]
            rw [nxp0, nxp0]
            have c1 : (0 < a ∧ b < 13 ∧ (a - 1 < i ∨ (a - 1 = i ∧ b < 0))) ↔ (0 < a ∧ b < 13 ∧ (a - 1 < i ∨ (a - 1 = i ∧ b < 0 + 1))) := by omega
            have c2 : (a < 13 ∧ b < 12 ∧ (a < i ∨ (a = i ∧ b + 1 < 0))) ↔ (a < 13 ∧ b < 12 ∧ (a < i ∨ (a = i ∧ b + 1 < 0 + 1))) := by omega
            simp only [c1, c2]
    · have w2 := w1 i (k + 1) (by omega) (by omega)
      have w4 : K 126 (14 * i + k + 1) + n i k = nxp 1 n i (k + 1) i (k + 1) := by
        rw [show 14 * i + k + 1 = 14 * i + (k + 1) from rfl, w2, nxp1, nxp1, if_neg (by omega), if_pos (by omega)]
        simp
      refine ⟨(nI (k + 1), upL K 126 (14 * i + k + 1) (nxp 1 n i (k + 1) i (k + 1))), ?_, rfl, fun a b ha hb => ?_, f1.trans (frL.up rfl)⟩
      · show f_X11_isTimes_b32 N 1 (nI i) (nI k) K = _
        unfold f_X11_isTimes_b32
        rw [if_pos lt, m14, if_pos (inb_nI (by omega) (by decide)), nI_1, nI_1, nI_clamp (by omega), hnk]
        simp only [letv]
        rw [if_pos trivial, if_pos (inb_nI (by omega) (by decide)), if_pos (inb_nI (by omega) (by decide)), nI_clamp (by omega), w4]
      · show upL K 126 _ _ 126 (14 * a + b) = _
        rw [upL_at]
        by_cases y2 : 14 * a + b = 14 * i + k + 1
        · have ya : a = i := by omega
          have yb : b = k + 1 := by omega
          rw [if_pos y2, ya, yb]
        · rw [if_neg y2, w1 a b ha hb]
          rw [nxp1, nxp1]
          have c1 : (a < 13 ∧ 0 < b ∧ (a < i ∨ (a = i ∧ b - 1 < k))) ↔ (a < 13 ∧ 0 < b ∧ (a < i ∨ (a = i ∧ b - 1 < k + 1))) := by omega
          simp only [c1]
  · rintro ⟨c, K⟩ ⟨e1, w1, f1⟩
    simp only at e1 w1 f1
    subst e1
    refine ⟨K, ?_, w1, f1⟩
    show f_X11_isTimes_b32 N x (nI i) (nI 13) K = _
    unfold f_X11_isTimes_b32
    rw [if_neg (by decide)]
theorem nall {N : Nat} {x : Int32} {L : ML} {n : Nat → Nat → Int64} (hx : x = 0 ∨ x = 1) (hn : ∀ a b, a < 14 → b < 14 → L 125 (14 * a + b) = n a b) (hz : ∀ i, i < 196 → L 126 i = 0) (hN : 20 ≤ N) : ∃ K, f_X11_isTimes_l24 N x 0 L = some K ∧ (∀ a b, a < 14 → b < 14 → K 126 (14 * a + b) = nxt x n a b) ∧ frL (fun b j => b = 126) L K := by
  refine loop_inv (f := fun s => f_X11_isTimes_b24 N x s.1 s.2) (fun k st => st.1 = nI k ∧ (∀ a b, a < 14 → b < 14 → st.2 126 (14 * a + b) = nxp x n k 0 a b) ∧ frL (fun b j => b = 126) L st.2) _ 13 ?_ ?_ N 0 (0, L) (Nat.zero_le _) (by omega) ⟨nl0, fun a b ha hb => ?_, frL.rfl⟩
  · rintro k ⟨c, K⟩ hk ⟨e1, w1, f1⟩
    simp only at e1 w1 f1
    subst e1
    obtain ⟨K', g1, g2, g3⟩ := nrow (N := N) (i := k) (L := K) hx hk (fun a b ha hb => (f1 125 _ (by omega)).trans (hn a b ha hb)) w1 hN
    refine ⟨(nI (k + 1), K'), ?_, rfl, fun a b ha hb => ?_, f1.trans g3⟩
    · show f_X11_isTimes_b24 N x (nI k) K = _
      unfold f_X11_isTimes_b24
      rw [nl13, if_pos ((nI_ltI (by omega) (by omega)).mpr hk), bnd1_some g1, nI_1]
    · show K' 126 (14 * a + b) = _
      rw [g2 a b ha hb]
      unfold nxp
      have c1 : (a < 13 ∧ 0 < b ∧ (a < k ∨ (a = k ∧ b - 1 < 13))) ↔ (a < 13 ∧ 0 < b ∧ (a < k + 1 ∨ (a = k + 1 ∧ b - 1 < 0))) := by omega
      have c2 : (0 < a ∧ b < 13 ∧ (a - 1 < k ∨ (a - 1 = k ∧ b < 13))) ↔ (0 < a ∧ b < 13 ∧ (a - 1 < k + 1 ∨ (a - 1 = k + 1 ∧ b < 0))) := by omega
      have c3 : (a < 13 ∧ b < 12 ∧ (a < k ∨ (a = k ∧ b + 1 < 13))) ↔ (a < 13 ∧ b < 12 ∧ (a < k + 1 ∨ (a = k + 1 ∧ b + 1 < 0))) := by omega
      simp only [c1, c2, c3]
  · rintro ⟨c, K⟩ ⟨e1, w1, f1⟩
    simp only at e1 w1 f1
    subst e1
    refine ⟨K, ?_, fun a b ha hb => ?_, f1⟩
    · show f_X11_isTimes_b24 N x (nI 13) K = _
      unfold f_X11_isTimes_b24
      rw [if_neg (by decide)]
    · rw [w1 a b ha hb]
      unfold nxp nxt
      have c1 : (a < 13 ∧ 0 < b ∧ (a < 13 ∨ (a = 13 ∧ b - 1 < 0))) ↔ (a < 13 ∧ 0 < b) := by omega
      have c2 : (0 < a ∧ b < 13 ∧ (a - 1 < 13 ∨ (a - 1 = 13 ∧ b < 0))) ↔ (0 < a ∧ b < 13) := by omega
      have c3 : (a < 13 ∧ b < 12 ∧ (a < 13 ∨ (a = 13 ∧ b + 1 < 0))) ↔ (a < 13 ∧ b < 12) := by omega
      simp only [c1, c2, c3]
  · show L 126 (14 * a + b) = _
    rw [hz _ (by omega)]
    unfold nxp
    by_cases q : x = 1
    · rw [if_pos q, if_neg (by omega)]
    · rw [if_neg q, if_neg (by omega), if_neg (by omega)]; decide
def good (x : Int64) (i j : Nat) : Prop := SB x ∧ (x = 0 ∨ (i < 13 ∧ j < 13))
def allg (e : Nat → Nat → Int64) (i j : Nat) : Prop := ∀ a b, a < 14 → b < 14 → (a < i ∨ (a = i ∧ b < j)) → good (e a b) a b
theorem allg_step {e : Nat → Nat → Int64} {i j : Nat} (hi : i < 14) (hj : j < 14) : allg e i (j + 1) ↔ (allg e i j ∧ good (e i j) i j) := by
  constructor
  · intro h
    exact ⟨fun a b ha hb q => h a b ha hb (by omega), h i j hi hj (by omega)⟩
  · rintro ⟨h1, h2⟩ a b ha hb q
    by_cases z : a = i ∧ b = j
    · rw [z.1, z.2]; exact h2
    · exact h1 a b ha hb (by omega)
def flg (v : Int32) (P : Prop) : Prop := (v = 1 ∧ P) ∨ (v = 0 ∧ ¬ P)
theorem gstep {N i j : Nat} {v : Int32} {K : ML} {x : Int64} {P : Prop} (hi : i < 14) (hj : j < 14) (hx : K 126 (14 * i + j) = x) (hv : flg v P) : ∃ v', f_X11_isTimes_b145 N (nI i) v (nI j) K = some (.inl (v', nI (j + 1), upL K 125 (14 * i + j) x)) ∧ flg v' (P ∧ good x i j) := by
  have h208 : f_X11_isTimes_b145_j208 N (nI i) (nI j) x K = some (.inl (0, nI (j + 1), upL K 125 (14 * i + j) x)) := by
    unfold f_X11_isTimes_b145_j208
    rw [m14, if_pos (inb_nI (by omega) (by decide)), nI_clamp (by omega), nI_1]; rfl
  have h204 : f_X11_isTimes_b145_j204 N (nI i) (nI j) x K = some (.inl (1, nI (j + 1), upL K 125 (14 * i + j) x)) := by
    unfold f_X11_isTimes_b145_j204
    rw [m14, if_pos (inb_nI (by omega) (by decide)), nI_clamp (by omega), nI_1]; rfl
  have l14 : nI j < (14 : Int32) := by rw [nl14]; exact (nI_ltI (by omega) (by omega)).mpr hj
  have li : nI i < (13 : Int32) ↔ i < 13 := by rw [nl13]; exact nI_ltI (by omega) (by omega)
  have lj : nI j < (13 : Int32) ↔ j < 13 := by rw [nl13]; exact nI_ltI (by omega) (by omega)
  unfold f_X11_isTimes_b145
  rw [if_pos l14, m14, if_pos (inb_nI (by omega) (by decide)), nI_clamp (by omega), hx]
  simp only [letv]
  rcases hv with ⟨rfl, hp⟩ | ⟨rfl, hp⟩
  · rw [if_neg (by decide)]
    rcases in64 x with ⟨s1, s2, _⟩ | ⟨s1, s2, _⟩
    · rw [bnd1_some s2, if_neg (by decide)]
      by_cases z : x = 0
      · rw [if_pos z]
        exact ⟨1, h204, Or.inl ⟨rfl, hp, s1, Or.inl z⟩⟩
      · rw [if_neg z]
        by_cases yi : i < 13
        · rw [if_pos (li.mpr yi)]
          by_cases yj : j < 13
          · rw [if_pos (lj.mpr yj)]
            exact ⟨1, h204, Or.inl ⟨rfl, hp, s1, Or.inr ⟨yi, yj⟩⟩⟩
          · rw [if_neg (fun q => yj (lj.mp q))]
            exact ⟨0, h208, Or.inr ⟨rfl, fun q => q.2.2.elim z (fun w => yj w.2)⟩⟩
        · rw [if_neg (fun q => yi (li.mp q))]
          exact ⟨0, h208, Or.inr ⟨rfl, fun q => q.2.2.elim z (fun w => yi w.1)⟩⟩
    · rw [bnd1_some s2, if_pos rfl]
      exact ⟨0, h208, Or.inr ⟨rfl, fun q => s1 q.2.1⟩⟩
  · rw [if_pos rfl]
    exact ⟨0, h208, Or.inr ⟨rfl, fun q => hp q.1⟩⟩
theorem flg_iff {v : Int32} {P Q : Prop} (h : P ↔ Q) (hv : flg v P) : flg v Q := by
  rcases hv with ⟨e, p⟩ | ⟨e, p⟩
  · exact Or.inl ⟨e, h.mp p⟩
  · exact Or.inr ⟨e, fun q => p (h.mpr q)⟩
theorem grow {N i : Nat} {v : Int32} {L : ML} {e n : Nat → Nat → Int64} (hi : i < 14) (he : ∀ a b, a < 14 → b < 14 → L 126 (14 * a + b) = e a b) (hn : ∀ a b, a < 14 → b < 14 → L 125 (14 * a + b) = if a < i then e a b else n a b) (hv : flg v (allg e i 0)) (hN : 20 ≤ N) : ∃ r, f_X11_isTimes_l145 N (nI i) v 0 L = some r ∧ flg r.1 (allg e i 14) ∧ (∀ a b, a < 14 → b < 14 → r.2 125 (14 * a + b) = if a < i + 1 then e a b else n a b) ∧ frL (fun b j => b = 125) L r.2 := by
  refine loop_inv (f := fun s => f_X11_isTimes_b145 N (nI i) s.1 s.2.1 s.2.2) (fun k st => st.2.1 = nI k ∧ flg st.1 (allg e i k) ∧ (∀ a b, a < 14 → b < 14 → st.2.2 125 (14 * a + b) = if a < i ∨ (a = i ∧ b < k) then e a b else n a b) ∧ frL (fun b j => b = 125) L st.2.2) _ 14 ?_ ?_ N 0 (v, 0, L) (Nat.zero_le _) (by omega) ⟨nl0, hv, fun a b ha hb => ?_, frL.rfl⟩
  · rintro k ⟨c, d, K⟩ hk ⟨e1, w1, w2, f1⟩
    simp only at e1 w1 w2 f1
    subst e1
    obtain ⟨v', g1, g2⟩ := gstep (N := N) (K := K) (x := e i k) hi hk ((f1 126 _ (by omega)).trans (he i k hi hk)) w1
    refine ⟨_, g1, rfl, flg_iff (allg_step hi hk).symm g2, fun a b ha hb => ?_, f1.trans (frL.up rfl)⟩
    show upL K 125 (14 * i + k) (e i k) 125 (14 * a + b) = _
    rw [upL_at]
    by_cases z : 14 * a + b = 14 * i + k
    · have za : a = i := by omega
      have zb : b = k := by omega
      rw [if_pos z, if_pos (by omega), za, zb]
    · rw [if_neg z, w2 a b ha hb]
      have c1 : (a < i ∨ (a = i ∧ b < k)) ↔ (a < i ∨ (a = i ∧ b < k + 1)) := by omega
      simp only [c1]
  · rintro ⟨c, d, K⟩ ⟨e1, w1, w2, f1⟩
    simp only at e1 w1 w2 f1
    subst e1
    refine ⟨(c, K), ?_, w1, fun a b ha hb => ?_, f1⟩
    · show f_X11_isTimes_b145 N (nI i) c (nI 14) K = _
      unfold f_X11_isTimes_b145
      rw [if_neg (by decide)]
    · show K 125 (14 * a + b) = _
      rw [w2 a b ha hb]
      have c1 : (a < i ∨ (a = i ∧ b < 14)) ↔ (a < i + 1) := by omega
      simp only [c1]
  · show L 125 (14 * a + b) = _
    rw [hn a b ha hb]
    have c1 : (a < i) ↔ (a < i ∨ (a = i ∧ b < 0)) := by omega
    simp only [← c1]
theorem gall {N : Nat} {L : ML} {e n : Nat → Nat → Int64} (he : ∀ a b, a < 14 → b < 14 → L 126 (14 * a + b) = e a b) (hn : ∀ a b, a < 14 → b < 14 → L 125 (14 * a + b) = n a b) (hN : 20 ≤ N) : ∃ r, f_X11_isTimes_l136 N 1 0 L = some r ∧ flg r.1 (allg e 14 0) ∧ (∀ a b, a < 14 → b < 14 → r.2 125 (14 * a + b) = e a b) ∧ frL (fun b j => b = 125) L r.2 := by
  refine loop_inv (f := fun s => f_X11_isTimes_b136 N s.1 s.2.1 s.2.2) (fun k st => st.2.1 = nI k ∧ flg st.1 (allg e k 0) ∧ (∀ a b, a < 14 → b < 14 → st.2.2 125 (14 * a + b) = if a < k then e a b else n a b) ∧ frL (fun b j => b = 125) L st.2.2) _ 14 ?_ ?_ N 0 (1, 0, L) (Nat.zero_le _) (by omega) ⟨nl0, Or.inl ⟨rfl, fun a b _ _ q => absurd q (by omega)⟩, fun a b ha hb => by rw [if_neg (by omega)]; exact hn a b ha hb, frL.rfl⟩
  · rintro k ⟨c, d, K⟩ hk ⟨e1, w1, w2, f1⟩
    simp only at e1 w1 w2 f1
    subst e1
    obtain ⟨⟨v', K'⟩, g1, g2, g3, g4⟩ := grow (N := N) (L := K) (e := e) (n := n) hk (fun a b ha hb => (f1 126 _ (by omega)).trans (he a b ha hb)) w2 w1 hN
    refine ⟨(v', nI (k + 1), K'), ?_, rfl, flg_iff ?_ g2, g3, f1.trans g4⟩
    · show f_X11_isTimes_b136 N c (nI k) K = _
      unfold f_X11_isTimes_b136
      rw [nl14, if_pos ((nI_ltI (by omega) (by omega)).mpr hk), bnd2_some g1, nI_1]
    · constructor
      · intro h a b ha hb q; exact h a b ha hb (by omega)
      · intro h a b ha hb q; exact h a b ha hb (by omega)
  · rintro ⟨c, d, K⟩ ⟨e1, w1, w2, f1⟩
    simp only at e1 w1 w2 f1
    subst e1
    refine ⟨(c, K), ?_, w1, fun a b ha hb => ?_, f1⟩
    · show f_X11_isTimes_b136 N c (nI 14) K = _
      unfold f_X11_isTimes_b136
      rw [if_neg (by decide)]
    · show K 125 (14 * a + b) = _
      rw [w2 a b ha hb, if_pos ha]
theorem isTimes_spec {N : Nat} {x : Int32} {L : ML} {n : Nat → Nat → Int64} (hx : x = 0 ∨ x = 1) (hn : ∀ a b, a < 14 → b < 14 → L 125 (14 * a + b) = n a b) (hN : 1000 ≤ N) : ∃ r, f_X11_isTimes N x L = some r ∧ flg r.1 (allg (nxt x n) 14 0) ∧ (∀ a b, a < 14 → b < 14 → r.2 125 (14 * a + b) = nxt x n a b) ∧ frL (fun b j => b = 125 ∨ b = 126) L r.2 := by
  obtain ⟨L1, a1, a2, a3⟩ := zero126 (N := N) (x := x) (L := L) hN
  obtain ⟨L2, b1, b2, b3⟩ := nall (N := N) (L := L1) hx (fun a b ha hb => (a3 125 _ (by omega)).trans (hn a b ha hb)) a2 (by omega)
  obtain ⟨⟨v, L3⟩, c1, c2, c3, c4⟩ := gall (N := N) (L := L2) (e := nxt x n) (n := n) b2 (fun a b ha hb => (b3 125 _ (by omega)).trans ((a3 125 _ (by omega)).trans (hn a b ha hb))) (by omega)
  refine ⟨(v, L3), ?_, c2, c3, (a3.mono (fun b j h => Or.inr h)).trans ((b3.mono (fun b j h => Or.inr h)).trans (c4.mono (fun b j h => Or.inl h)))⟩
  unfold f_X11_isTimes
  rw [bnd1_some a1, bnd1_some b1, bnd2_some c1, if_pos]
  rcases c2 with ⟨e, _⟩ | ⟨e, _⟩
  · exact Or.inr e
  · exact Or.inl e
def ext (H : Nat → Nat → Int64) (a b : Nat) : Int64 := if a < 13 ∧ b < 13 then H a b else 0
theorem ext_in {H : Nat → Nat → Int64} {a b : Nat} (ha : a < 13) (hb : b < 13) : ext H a b = H a b := if_pos ⟨ha, hb⟩
theorem ext_out {H : Nat → Nat → Int64} {a b : Nat} (h : ¬ (a < 13 ∧ b < 13)) : ext H a b = 0 := if_neg h
theorem nxt0 (n : Nat → Nat → Int64) (a b : Nat) : nxt 0 n a b = (if 0 < a ∧ b < 13 then n (a - 1) b else 0) + (if a < 13 ∧ b < 12 then Int32.toInt64 (nI (b + 1)) * n a (b + 1) else 0) := if_neg (by decide)
theorem nxt1 (n : Nat → Nat → Int64) (a b : Nat) : nxt 1 n a b = (if a < 13 ∧ 0 < b then n a (b - 1) else 0) := if_pos rfl
theorem nxtU_in {H : Nat → Nat → Int64} {a b : Nat} (ha : a < 13) (hb : b < 13) : nxt 0 (ext H) a b = upN H a b := by
  rw [nxt0]; unfold upN
  congr 1
  · by_cases q : 0 < a
    · rw [if_pos ⟨q, hb⟩, if_pos q, ext_in (by omega) hb]
    · rw [if_neg (fun z => q z.1), if_neg q]
  · by_cases q : b < 12
    · rw [if_pos ⟨ha, q⟩, if_pos q, ext_in ha (by omega)]
    · rw [if_neg (fun z => q z.2), if_neg q]
theorem nxtU_13 {H : Nat → Nat → Int64} {b : Nat} (hb : b < 13) : nxt 0 (ext H) 13 b = H 12 b := by
  rw [nxt0, if_pos (by omega), if_neg (by omega), ext_in (by omega) hb]; simp
theorem nxtU_c {H : Nat → Nat → Int64} {a : Nat} : nxt 0 (ext H) a 13 = 0 := by
  rw [nxt0, if_neg (by omega), if_neg (by omega)]; decide
theorem nxtD_in {H : Nat → Nat → Int64} {a b : Nat} (ha : a < 13) (hb : b < 13) : nxt 1 (ext H) a b = dnN H a b := by
  rw [nxt1]; unfold dnN
  by_cases q : 0 < b
  · rw [if_pos ⟨ha, q⟩, if_pos q, ext_in ha (by omega)]
  · rw [if_neg (fun z => q z.2), if_neg q]
theorem nxtD_13 {H : Nat → Nat → Int64} {b : Nat} : nxt 1 (ext H) 13 b = 0 := by rw [nxt1, if_neg (by omega)]
theorem nxtD_c {H : Nat → Nat → Int64} {a : Nat} (ha : a < 13) : nxt 1 (ext H) a 13 = H a 12 := by
  rw [nxt1, if_pos (by omega), ext_in ha (by omega)]
theorem okU {H : Nat → Nat → Int64} : allg (nxt 0 (ext H)) 14 0 ↔ upOK H := by
  constructor
  · intro h
    refine ⟨fun j hj => ?_, fun i j hi hj => ?_⟩
    · have g := (h 13 j (by omega) (by omega) (by omega)).2
      rw [nxtU_13 hj] at g
      exact g.resolve_right (by omega)
    · have g := (h i j (by omega) (by omega) (by omega)).1
      rwa [nxtU_in hi hj] at g
  · intro h a b ha hb _
    by_cases hb' : b = 13
    · rw [hb', nxtU_c]; exact ⟨SB0, Or.inl rfl⟩
    · by_cases ha' : a = 13
      · rw [ha', nxtU_13 (by omega), h.1 b (by omega)]; exact ⟨SB0, Or.inl rfl⟩
      · rw [nxtU_in (by omega) (by omega)]; exact ⟨h.2 a b (by omega) (by omega), Or.inr ⟨by omega, by omega⟩⟩
theorem SB_dn {H : Nat → Nat → Int64} (hs : ∀ a b, a < 13 → b < 13 → SB (H a b)) {a b : Nat} (ha : a < 13) (hb : b < 13) : SB (dnN H a b) := by
  unfold dnN
  by_cases q : 0 < b
  · rw [if_pos q]; exact hs a (b - 1) ha (by omega)
  · rw [if_neg q]; exact SB0
theorem okD {H : Nat → Nat → Int64} (hs : ∀ a b, a < 13 → b < 13 → SB (H a b)) : allg (nxt 1 (ext H)) 14 0 ↔ dnOK H := by
  constructor
  · intro h i hi
    have g := (h i 13 (by omega) (by omega) (by omega)).2
    rw [nxtD_c hi] at g
    exact g.resolve_right (by omega)
  · intro h a b ha hb _
    by_cases ha' : a = 13
    · rw [ha', nxtD_13]; exact ⟨SB0, Or.inl rfl⟩
    · by_cases hb' : b = 13
      · rw [hb', nxtD_c (by omega), h a (by omega)]; exact ⟨SB0, Or.inl rfl⟩
      · rw [nxtD_in (by omega) (by omega)]; exact ⟨SB_dn hs (by omega) (by omega), Or.inr ⟨by omega, by omega⟩⟩
theorem eqU {H : Nat → Nat → Int64} (h : upOK H) {a b : Nat} (ha : a < 14) (hb : b < 14) : nxt 0 (ext H) a b = ext (upN H) a b := by
  by_cases hb' : b = 13
  · rw [hb', nxtU_c, ext_out (by omega)]
  · by_cases ha' : a = 13
    · rw [ha', nxtU_13 (by omega), h.1 b (by omega), ext_out (by omega)]
    · rw [nxtU_in (by omega) (by omega), ext_in (by omega) (by omega)]
theorem eqD {H : Nat → Nat → Int64} (h : dnOK H) {a b : Nat} (ha : a < 14) (hb : b < 14) : nxt 1 (ext H) a b = ext (dnN H) a b := by
  by_cases ha' : a = 13
  · rw [ha', nxtD_13, ext_out (by omega)]
  · by_cases hb' : b = 13
    · rw [hb', nxtD_c (by omega), h a (by omega), ext_out (by omega)]
    · rw [nxtD_in (by omega) (by omega), ext_in (by omega) (by omega)]
theorem mulM {N w : Nat} {I : MI} {L : ML} {l : List Int32} {G : Nat → Nat → Int64} (hw : w < 6) (hm : WM I 100 101 w l) (hl : l.length ≤ 12) (hb : bits l) (hs : ∀ a b, a < 13 → b < 13 → SB (G a b)) (hG : ∀ a b, a < 14 → b < 14 → L 125 (14 * a + b) = ext G a b) (hN : 1000 ≤ N) : ∃ r, f_X11_times_l77 N (nI w) 0 I L = some r ∧ ((∃ K, r = .inl K ∧ mOK l G ∧ (∀ a b, a < 13 → b < 13 → SB (mN l G a b)) ∧ (∀ a b, a < 13 → b < 13 → K 125 (14 * a + b) = mN l G a b) ∧ frL (fun b j => b = 125 ∨ b = 126) L K) ∨ (∃ K, r = .inr (-6, K) ∧ ¬ mOK l G ∧ frL (fun b j => b = 125 ∨ b = 126) L K)) := by
  have iw : inb (nI w) 6 = true := inb_nI hw (by decide)
  have cw : Int32.toNatClampNeg (nI w) = w := nI_clamp (by omega)
  refine loop_inv2 (f := fun s => f_X11_times_b77 N (nI w) s.1 I s.2) (fun k st => st.1 = nI k ∧ (∃ H, (mOK l G ↔ mOK (l.drop k) H) ∧ mN l G = mN (l.drop k) H ∧ (∀ a b, a < 13 → b < 13 → SB (H a b)) ∧ ∀ a b, a < 14 → b < 14 → st.2 125 (14 * a + b) = ext H a b) ∧ frL (fun b j => b = 125 ∨ b = 126) L st.2) _ l.length ?_ N 0 (0, L) (Nat.zero_le _) (by omega) ⟨nl0, ⟨G, Iff.rfl, rfl, hs, hG⟩, frL.rfl⟩
  rintro k ⟨c, K⟩ hk ⟨e1, ⟨H, w1, w2, w4, w3⟩, f1⟩
  simp only at e1 w1 w2 w3 f1
  subst e1
  by_cases q : k < l.length
  · obtain ⟨x, hx⟩ := get_some q
    have hxb : x = 0 ∨ x = 1 := hb x (List.mem_of_getElem? hx)
    rw [drop_one q hx] at w1 w2
    obtain ⟨⟨v, K'⟩, g1, g2, g3, g4⟩ := isTimes_spec (N := N) (L := K) (n := ext H) hxb w3 hN
    have hf : f_X11_times_b77 N (nI w) (nI k) I K = (if v = 0 then some (.inr (.inr ((-6), K'))) else some (.inl (nI (k + 1), K'))) := by
      unfold f_X11_times_b77
      rw [if_pos iw, cw, hm.1, if_pos ((nI_ltI (by omega) (by omega)).mpr q), w12, if_pos (inb_nI (by omega) (by decide)), nI_clamp (by omega), hm.2 k x hx, bnd2_some g1, nI_1]
    simp only at g2 g3 g4
    rcases hxb with rfl | rfl
    · rw [mOK, if_pos rfl] at w1
      rw [mN, if_pos rfl] at w2
      rcases flg_iff okU g2 with ⟨rfl, ok⟩ | ⟨rfl, nok⟩
      · left
        exact ⟨_, hf.trans (if_neg (by decide)), ⟨rfl, ⟨upN H, w1.trans ⟨fun h => h.2, fun h => ⟨ok, h⟩⟩, w2, fun a b ha hb => ok.2 a b ha hb, fun a b ha hb => (g3 a b ha hb).trans (eqU ok ha hb)⟩, f1.trans g4⟩, q⟩
      · right
        exact ⟨_, hf.trans (if_pos rfl), Or.inr ⟨K', rfl, fun h => nok (w1.mp h).1, f1.trans g4⟩⟩
    · rw [mOK, if_neg (by decide)] at w1
      rw [mN, if_neg (by decide)] at w2
      rcases flg_iff (okD w4) g2 with ⟨rfl, ok⟩ | ⟨rfl, nok⟩
      · left
        exact ⟨_, hf.trans (if_neg (by decide)), ⟨rfl, ⟨dnN H, w1.trans ⟨fun h => h.2, fun h => ⟨ok, h⟩⟩, w2, fun a b ha hb => SB_dn w4 ha hb, fun a b ha hb => (g3 a b ha hb).trans (eqD ok ha hb)⟩, f1.trans g4⟩, q⟩
      · right
        exact ⟨_, hf.trans (if_pos rfl), Or.inr ⟨K', rfl, fun h => nok (w1.mp h).1, f1.trans g4⟩⟩
  · have : k = l.length := by omega
    subst this
    rw [List.drop_length] at w1 w2
    right
    refine ⟨.inl K, ?_, Or.inl ⟨K, rfl, w1.mpr trivial, fun a b ha hb => ?_, fun a b ha hb => ?_, f1⟩⟩
    · show f_X11_times_b77 N (nI w) (nI l.length) I K = _
      unfold f_X11_times_b77
      rw [if_pos iw, cw, hm.1, if_neg (nI_le0 (by omega) (Nat.le_refl _))]
    · rw [w2]; exact w4 a b ha hb
    · rw [w3 a b (by omega) (by omega), w2, ext_in ha hb]; rfl
