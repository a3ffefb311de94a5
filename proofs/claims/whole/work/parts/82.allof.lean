/-! ===== all, of ===== -/
section AO
variable {N n : Nat} {X : MX} {I : MI} {L : ML}
/-- both sides have their table of this SIDE -/
theorem sides {n : Nat} (n1 : 1 ≤ n) (n6 : n ≤ 6) (hI : Inv0 PL0 PA0 X I L) (hN : 1000 ≤ N) : ∃ q X' I' L', f_X10_ladderOf N (nI n) X I L = some (q, X', I', L') ∧ LD n q I' L' ∧ 138 ≤ q ∧ fr (fun b j => 138 ≤ b) I I' ∧ Inv0 PL0 PA0 X' I' L' ∧ ∀ J, fr (fun b j => scr b j) I' J → ∃ K, f_X11_layAll N (nI n) J = some K ∧ TA n K ∧ fr fA J K ∧ (∀ K2, fr (fun b j => scr b j) K K2 → Inv0 PL0 PA0 X' K2 L') := by
  obtain ⟨q, X', I', L', a1, a2, a3, a4, a5, a6, a7, a8⟩ := lad_both (N := N) n1 n6 hI.1 hI.2.1 hI.2.2.2.2.2.2.2.2.2.2.2.2.2.2.2.2.2.1 hN
  have inv := inv_lad frPA0 hI a2 a3 a4 a7 a8
  refine ⟨q, X', I', L', a1, a5, a6, a7, inv, fun J hJ => ?_⟩
  have invJ : Inv0 PL0 PA0 X' J L' := inv_scr frPL0 frPA0 inv hJ frL.rfl
  obtain ⟨K, b1, b2, b3, b4⟩ := allM (N := N) n1 n6 invJ.2.2.2.2.2.2.2.2.2.2.2.2.2.2.2.2.2.2 hN
  exact ⟨K, b1, b3, b4, fun K2 hK2 => inv_scr frPL0 frPA0 (inv_all invJ (b4.mono (fun b j h => Or.inr h)) n1 n6 b2 b3) hK2 frL.rfl⟩
theorem hh9 (n1 : 1 ≤ n) (n6 : n ≤ 6) {j : Nat} (hj : j < sz n) : ∀ i, i < n → hh n j i ≤ 9 := fun i hi => by have := (row_ok n1 n6 hj).2.1 i hi; omega
theorem p10n : ∀ n, n < 7 → 10 ^ n ≤ 1000000 := by decide +kernel
theorem s_all (hN : 1000 ≤ N) : S_all N (Inv0 PL0 PA0) := by
  intro X I L x1 x2 x3 hI
  rcases side_cases x1 with ⟨n, n1, n6, rfl, e1, e2⟩ | ⟨e1, e2⟩
  · have s9 := sz_le n (by omega)
    have cn : Int32.toNatClampNeg (nI n) = n := nI_clamp (by omega)
    have ts : Int32.toNatClampNeg (tabI 3 (Int32.toNatClampNeg (nI n))) = sz n := by rw [cn, tab3n n (by omega), nI_clamp (by omega)]
    obtain ⟨q, X', I', L', a1, a2, a3, a4, inv, ref⟩ := sides (N := N) n1 n6 hI hN
    obtain ⟨K, b1, b2, b3, b4⟩ := ref I' fr.rfl
    have bad : (x3 < -1 ∨ ¬ x3 < nI n) → f_X10_all N (nI n) x2 x3 X I L = some (-1, X, I, L) := fun h => by
      unfold f_X10_all
      rw [bnd1_some e1, if_neg (by decide)]
      by_cases z : x3 < -1
      · rw [if_pos z]
      · rw [if_neg z, if_neg (h.resolve_left z)]
    rcases row_cases x3 n1 n6 with ⟨rfl, e3⟩ | ⟨x, hx, rfl, e3⟩ | ⟨h3, e3⟩
    · have lt : (-1 : Int32) < nI n := by
        rw [Int32.lt_iff_toInt_lt, nI_toInt (by omega)]
        have a1 : (-1 : Int32).toInt = -1 := by decide
        omega
      refine ⟨nI (sz n), X', I', L', K, ?_, ?_, b4 K fr.rfl⟩
      · unfold f_X10_all
        rw [bnd1_some e1, if_neg (by decide), if_neg (by decide), if_pos lt, bnd4_some a1, if_pos rfl, a2.1]
      · unfold f_X11_all
        rw [bnd1_some e2, if_neg (by decide), bnd1_some e3, if_neg (by decide), bnd1_some b1, if_pos rfl, b2.1]
    · have nx1 : ¬ nI x < (-1 : Int32) := fun h => by
        have := nI_pos (show x < 2 ^ 31 by omega)
        rw [Int32.lt_iff_toInt_lt] at h this
        have a1 : (-1 : Int32).toInt = -1 := by decide
        have a0 : (0 : Int32).toInt = 0 := by decide
        omega
      have ne1 : ¬ nI x = (-1 : Int32) := fun h => neg_nI (show x < 2 ^ 31 by omega) h.symm
      have lt := (nI_ltI (show x < 2 ^ 31 by omega) (show n < 2 ^ 31 by omega)).mpr hx
      rcases below_in (n := sz n) x2 (by omega) with ⟨j, hj, rfl, e4⟩ | ⟨h4, e4⟩
      · have d1 := dgs_lt (hh9 n1 n6 hj) (Nat.le_refl n)
        have d2 := p10n n (by omega)
        have h9 := hh9 n1 n6 hj x hx
        refine ⟨nI (hh n j x), X', I', L', K, ?_, ?_, b4 K fr.rfl⟩
        · unfold f_X10_all
          rw [bnd1_some e1, if_neg (by decide), if_neg nx1, if_pos lt, bnd4_some a1, if_neg ne1, if_neg (nI_pos (by omega)), a2.1, if_pos ((nI_ltI (by omega) (by omega)).mpr hj), ts, if_pos (inb_nI hj (by omega)), nI_clamp (by omega), (a2.2.1 j hj).1, dn2 n1, nI_sub (by omega), bnd1_some (digC (by omega) (by omega) (by omega)), dgs_at (hh9 n1 n6 hj) (Nat.le_refl n) hx]
        · unfold f_X11_all
          rw [bnd1_some e2, if_neg (by decide), bnd1_some e3, if_neg (by decide), bnd1_some b1, if_neg ne1, b2.1, bnd1_some e4, if_neg (by decide), m6, if_pos (inb_nI (by omega) (by decide)), nI_clamp (by omega), (b2.2 j hj).1 x hx]
      · refine ⟨-5, X', I', L', K, ?_, ?_, b4 K fr.rfl⟩
        · unfold f_X10_all
          rw [bnd1_some e1, if_neg (by decide), if_neg nx1, if_pos lt, bnd4_some a1, if_neg ne1, a2.1]
          by_cases z : x2 < 0
          · rw [if_pos z]
          · rw [if_neg z, if_neg (h4.resolve_left z)]
        · unfold f_X11_all
          rw [bnd1_some e2, if_neg (by decide), bnd1_some e3, if_neg (by decide), bnd1_some b1, if_neg ne1, b2.1, bnd1_some e4, if_pos rfl]
    · refine ⟨-1, X, I, L, I, bad h3, ?_, hI⟩
      unfold f_X11_all
      rw [bnd1_some e2, if_neg (by decide), bnd1_some e3, if_pos rfl]
  · refine ⟨-2, X, I, L, I, ?_, ?_, hI⟩
    · unfold f_X10_all; rw [bnd1_some e1, if_pos rfl]
    · unfold f_X11_all; rw [bnd1_some e2, if_pos rfl]
end AO
section OF
variable {N n w q : Nat} {r : Nat → Nat}
theorem bcn_full : ∀ h, h < 7 → bcn 6 (2 ^ h - 1) = h := by decide +kernel
theorem pow_inj {a b : Nat} (ha : a < 7) (hb : b < 7) (h : 2 ^ a - 1 = 2 ^ b - 1) : a = b := by
  have := bcn_full a ha
  rw [h, bcn_full b hb] at this
  exact this.symm
/-- the row of the table that the BOARD has -/
def Mt (r : Nat → Nat) (n j : Nat) : Prop := ∀ i, i < n → r i = 2 ^ hh n j i - 1
theorem hdigC {I : MI} {a : Nat} (n6 : n ≤ 6) (hr : ∀ i, i < n → r i < 2 ^ n) (hc : BC I a n r) (hN : 20 ≤ N) : f_X0_heightDigits N a I = some (nI (dgs (fun i => bcn 6 (r i)) n)) := by
  have key := loop_inv (f := fun s : Int32 × Int32 => f_X0_heightDigits_b4 N a s.1 s.2 I) (fun i st => st.1 = nI (dgs (fun i => bcn 6 (r i)) i) ∧ st.2 = nI i) (fun z => z = nI (dgs (fun i => bcn 6 (r i)) n)) n ?_ ?_ N 0 (0, 0) (Nat.zero_le _) (by omega) ⟨nl0, nl0⟩
  · obtain ⟨z, e, rfl⟩ := key
    unfold f_X0_heightDigits f_X0_heightDigits_l4
    exact bnd1_some e
  · rintro i ⟨x, y⟩ hi ⟨e1, e2⟩
    simp only at e1 e2
    subst e1; subst e2
    refine ⟨(nI (dgs (fun i => bcn 6 (r i)) (i + 1)), nI (i + 1)), ?_, rfl, rfl⟩
    show f_X0_heightDigits_b4 N a _ (nI i) I = _
    unfold f_X0_heightDigits_b4
    rw [hc.1, if_pos ((nI_ltI (by omega) (by omega)).mpr hi), bnd1_some (heightC hc n6 hi hr), nl10, nI_mul, nI_add, nI_1]
    rfl
  · rintro ⟨x, y⟩ ⟨e1, e2⟩
    simp only at e1 e2
    subst e1; subst e2
    refine ⟨_, ?_, rfl⟩
    show f_X0_heightDigits_b4 N a _ (nI n) I = _
    unfold f_X0_heightDigits_b4
    rw [hc.1, if_neg (nI_le0 (by omega) (Nat.le_refl _))]
theorem numC {I : MI} {L : ML} (n1 : 1 ≤ n) (n6 : n ≤ 6) (hr : ∀ i, i < n → r i < 2 ^ n) (hs : isStp r n) (hd : LD n q I L) (hN : 1000 ≤ N) : (∃ j, j < sz n ∧ Mt r n j ∧ (∀ x, x < j → ¬ Mt r n x) ∧ f_X2_numberOf N q (sz n) (nI (dgs (fun i => bcn 6 (r i)) n)) I = some (nI j)) ∨ ((∀ j, j < sz n → ¬ Mt r n j) ∧ f_X2_numberOf N q (sz n) (nI (dgs (fun i => bcn 6 (r i)) n)) I = some (-5)) := by
  have s9 := sz_le n (by omega)
  have t6 := two_le n6
  have b9 : ∀ i, i < n → bcn 6 (r i) ≤ 9 := fun i hi => by have := bcn_le (r i) (by have := hr i hi; omega); omega
  have p10 := p10n n (by omega)
  have bl := dgs_lt (h := fun i => bcn 6 (r i)) b9 (Nat.le_refl n)
  have eqv : ∀ j, j < sz n → ((dgs (hh n j) n = dgs (fun i => bcn 6 (r i)) n) ↔ Mt r n j) := fun j hj => by
    constructor
    · intro e i hi
      have a1 := dgs_at (hh9 n1 n6 hj) (Nat.le_refl n) hi
      have a2 := dgs_at (h := fun i => bcn 6 (r i)) b9 (Nat.le_refl n) hi
      rw [e, a2] at a1
      rw [← a1]; exact hs.1 i hi
    · intro m
      have : ∀ k, k ≤ n → dgs (hh n j) k = dgs (fun i => bcn 6 (r i)) k := by
        intro k
        induction k with
        | zero => intro _; rfl
        | succ k ih =>
          intro hk
          have b6 := bcn_le (r k) (by have := hr k (by omega); omega)
          have h6 := (row_ok n1 n6 hj).2.1 k (by omega)
          rw [dgs, dgs, ih (by omega), pow_inj (show hh n j k < 7 by omega) (show bcn 6 (r k) < 7 by omega) ((m k (by omega)).symm.trans (hs.1 k (by omega)))]
      exact this n (Nat.le_refl n)
  have key := loop_inv2 (f := fun s : Int32 => f_X2_numberOf_b2 N q (sz n) (nI (dgs (fun i => bcn 6 (r i)) n)) s I) (fun j s => s = nI j ∧ ∀ x, x < j → ¬ Mt r n x) (fun z => (∃ j, j < sz n ∧ Mt r n j ∧ (∀ x, x < j → ¬ Mt r n x) ∧ z = .inr (nI j)) ∨ ((∀ j, j < sz n → ¬ Mt r n j) ∧ z = .inl ())) (sz n) ?_ N 0 0 (Nat.zero_le _) (by omega) ⟨nl0, fun x hx => by omega⟩
  · obtain ⟨z, e, h⟩ := key
    unfold f_X2_numberOf f_X2_numberOf_l2
    rcases h with ⟨j, h1, h2, h3, rfl⟩ | ⟨h1, rfl⟩
    · left; exact ⟨j, h1, h2, h3, bns1_inr e⟩
    · right; exact ⟨h1, bns1_inl e⟩
  · rintro j s hj ⟨rfl, H⟩
    show (∃ s', f_X2_numberOf_b2 N q (sz n) _ (nI j) I = _ ∧ _) ∨ (∃ z, f_X2_numberOf_b2 N q (sz n) _ (nI j) I = _ ∧ _)
    unfold f_X2_numberOf_b2
    rw [hd.1]
    by_cases z : j < sz n
    · have d1 := dgs_lt (hh9 n1 n6 z) (Nat.le_refl n)
      rw [if_pos ((nI_ltI (by omega) (by omega)).mpr z), if_pos (inb_nI z (by omega)), nI_clamp (by omega), (hd.2.1 j z).1]
      by_cases y : Mt r n j
      · right
        rw [if_pos (by rw [(eqv j z).mpr y])]
        exact ⟨_, rfl, Or.inl ⟨j, z, y, H, rfl⟩⟩
      · left
        rw [if_neg (by rw [nI_eq (by omega) (by omega)]; exact fun e => y ((eqv j z).mp e))]
        refine ⟨_, rfl, ⟨nI_1 _, fun x hx => ?_⟩, z⟩
        by_cases v : x = j
        · rw [v]; exact y
        · exact H x (by omega)
    · right
      rw [if_neg (nI_le0 (by omega) (by omega))]
      exact ⟨_, rfl, Or.inr ⟨fun x hx => H x (by omega), rfl⟩⟩
theorem numM {K : MI} (hw : w < 6) (n1 : 1 ≤ n) (n6 : n ≤ 6) (hr : ∀ i, i < n → r i < 2 ^ n) (hm : BM K 103 104 w n r) (ht : TA n K) (hN : 1000 ≤ N) : (∃ j, j < sz n ∧ Mt r n j ∧ (∀ x, x < j → ¬ Mt r n x) ∧ f_X11_numberOf_l14 N (nI w) (nI n) 0 K = some (.inr (nI j, K))) ∨ ((∀ j, j < sz n → ¬ Mt r n j) ∧ f_X11_numberOf_l14 N (nI w) (nI n) 0 K = some (.inl ())) := by
  have s9 := sz_le n (by omega)
  have t6 := two_le n6
  have inner : ∀ j, j < sz n → (Mt r n j ∧ f_X11_numberOf_l28 N (nI w) (nI n) (nI j) 1 0 K = some 1) ∨ (¬ Mt r n j ∧ f_X11_numberOf_l28 N (nI w) (nI n) (nI j) 1 0 K = some 0) := fun j hj => by
    obtain ⟨z, e, h⟩ := loop_inv (f := fun s : Int32 × Int32 => f_X11_numberOf_b28 N (nI w) (nI n) (nI j) s.1 s.2 K) (fun i st => st.2 = nI i ∧ ((st.1 = 1 ∧ ∀ x, x < i → r x = 2 ^ hh n j x - 1) ∨ (st.1 = 0 ∧ ¬ ∀ x, x < i → r x = 2 ^ hh n j x - 1))) (fun z => (z = 1 ∧ Mt r n j) ∨ (z = 0 ∧ ¬ Mt r n j)) n (by
      rintro i ⟨x, y⟩ hi ⟨e1, h⟩
      simp only at e1 h
      subst e1
      show ∃ s', f_X11_numberOf_b28 N (nI w) (nI n) (nI j) x (nI i) K = _ ∧ _
      unfold f_X11_numberOf_b28
      have h6 := (row_ok n1 n6 hj).2.1 i hi
      have hri := hr i hi
      have ph := two_le (show hh n j i ≤ 6 by omega)
      rw [if_pos ((nI_ltI (by omega) (by omega)).mpr hi)]
      rcases h with ⟨rfl, h⟩ | ⟨rfl, h⟩
      · rw [if_neg (by decide), m6, m6, if_pos (inb_nI (by omega) (by decide)), if_pos (inb_nI (by omega) (by decide)), nI_clamp (by omega), nI_clamp (by omega), hm.2 i hi, (ht.2 j hj).1 i hi, fullm _ (by omega)]
        by_cases z : r i = 2 ^ hh n j i - 1
        · rw [if_pos (by rw [z])]
          refine ⟨_, rfl, nI_1 _, Or.inl ⟨rfl, fun x hx => ?_⟩⟩
          by_cases v : x = i
          · rw [v]; exact z
          · exact h x (by omega)
        · rw [if_neg (by rw [nI_eq (by omega) (by omega)]; exact z)]
          exact ⟨_, rfl, nI_1 _, Or.inr ⟨rfl, fun w => z (w i (by omega))⟩⟩
      · rw [if_pos rfl]
        exact ⟨_, rfl, nI_1 _, Or.inr ⟨rfl, fun w => h (fun x hx => w x (by omega))⟩⟩) (by
      rintro ⟨x, y⟩ ⟨e1, h⟩
      simp only at e1 h
      subst e1
      refine ⟨x, ?_, h⟩
      show f_X11_numberOf_b28 N (nI w) (nI n) (nI j) x (nI n) K = _
      unfold f_X11_numberOf_b28
      rw [if_neg (nI_le0 (by omega) (Nat.le_refl _))]) N 0 (1, 0) (Nat.zero_le _) (by omega) ⟨nl0, Or.inl ⟨rfl, fun x hx => by omega⟩⟩
    rcases h with ⟨rfl, h⟩ | ⟨rfl, h⟩
    · exact Or.inl ⟨h, e⟩
    · exact Or.inr ⟨h, e⟩
  have key := loop_inv2 (f := fun s : Int32 => f_X11_numberOf_b14 N (nI w) (nI n) s K) (fun j s => s = nI j ∧ ∀ x, x < j → ¬ Mt r n x) (fun z => (∃ j, j < sz n ∧ Mt r n j ∧ (∀ x, x < j → ¬ Mt r n x) ∧ z = .inr (nI j, K)) ∨ ((∀ j, j < sz n → ¬ Mt r n j) ∧ z = .inl ())) (sz n) ?_ N 0 0 (Nat.zero_le _) (by omega) ⟨nl0, fun x hx => by omega⟩
  · obtain ⟨z, e, h⟩ := key
    rcases h with ⟨j, h1, h2, h3, rfl⟩ | ⟨h1, rfl⟩
    · left; exact ⟨j, h1, h2, h3, e⟩
    · right; exact ⟨h1, e⟩
  · rintro j s hj ⟨rfl, H⟩
    show (∃ s', f_X11_numberOf_b14 N (nI w) (nI n) (nI j) K = _ ∧ _) ∨ (∃ z, f_X11_numberOf_b14 N (nI w) (nI n) (nI j) K = _ ∧ _)
    unfold f_X11_numberOf_b14
    rw [ht.1]
    by_cases z : j < sz n
    · rw [if_pos ((nI_ltI (by omega) (by omega)).mpr z)]
      rcases inner j z with ⟨m, e⟩ | ⟨m, e⟩
      · right
        rw [bnd1_some e, if_neg (by decide)]
        exact ⟨_, rfl, Or.inl ⟨j, z, m, H, rfl⟩⟩
      · left
        rw [bnd1_some e, if_pos rfl]
        refine ⟨_, rfl, ⟨nI_1 _, fun x hx => ?_⟩, z⟩
        by_cases v : x = j
        · rw [v]; exact m
        · exact H x (by omega)
    · right
      rw [if_neg (nI_le0 (by omega) (by omega))]
      exact ⟨_, rfl, Or.inr ⟨fun x hx => H x (by omega), rfl⟩⟩
theorem mt_stp (n1 : 1 ≤ n) (n6 : n ≤ 6) {j : Nat} (hj : j < sz n) (h : Mt r n j) : isStp r n := by
  obtain ⟨_, r2, r3⟩ := row_ok n1 n6 hj
  have b : ∀ i, i < n → bcn 6 (r i) = hh n j i := fun i hi => by rw [h i hi]; exact bcn_full _ (by have := r2 i hi; omega)
  exact ⟨fun i hi => by rw [b i hi]; exact h i hi, fun i hi => by rw [b i (by omega), b (i + 1) hi]; exact r3 i hi⟩
def grt (c : Nat → Int32) : Nat → Nat
  | 0 => 0
  | m + 1 => if c (m + 1) = 0 then grt c m else m + 1
theorem grt_le {c : Nat → Int32} : ∀ m, grt c m ≤ m
  | 0 => Nat.le_refl _
  | m + 1 => by
    rw [grt]
    have := grt_le (c := c) m
    split <;> omega
theorem grC {J : MI} {c : Nat → Int32} (h : ∀ k, k < 7 → J 93 k = c k) (hN : 20 ≤ N) : f_X10_greatestStanding N 93 7 J = some (nI (grt c 6)) := by
  have key := loop_inv (f := fun s : Int32 × Int32 => f_X10_greatestStanding_b4 N 93 7 s.1 s.2 J) (fun k st => st.1 = nI (grt c k) ∧ st.2 = nI (k + 1)) (fun z => z = nI (grt c 6)) 6 ?_ ?_ N 0 (0, 1) (Nat.zero_le _) (by omega) ⟨nl0, nl1⟩
  · obtain ⟨z, e, rfl⟩ := key
    unfold f_X10_greatestStanding f_X10_greatestStanding_l4
    exact bnd1_some e
  · rintro k ⟨x, y⟩ hk ⟨e1, e2⟩
    simp only at e1 e2
    subst e1; subst e2
    refine ⟨(nI (grt c (k + 1)), nI (k + 1 + 1)), ?_, rfl, rfl⟩
    show f_X10_greatestStanding_b4 N 93 7 (nI (grt c k)) (nI (k + 1)) J = _
    unfold f_X10_greatestStanding_b4
    rw [ofNatI, if_pos ((nI_ltI (by omega) (by omega)).mpr (by omega)), if_pos (inb_nI (by omega) (by decide)), nI_clamp (by omega), h _ (by omega), nI_1, grt]
    by_cases z : c (k + 1) = 0
    · rw [if_pos z, if_pos z]
    · rw [if_neg z, if_neg z]
  · rintro ⟨x, y⟩ ⟨e1, e2⟩
    simp only at e1 e2
    subst e1; subst e2
    refine ⟨_, ?_, rfl⟩
    show f_X10_greatestStanding_b4 N 93 7 (nI (grt c 6)) (nI (6 + 1)) J = _
    unfold f_X10_greatestStanding_b4
    rw [if_neg (by decide)]
theorem grM {K : MI} {c : Nat → Int32} (h : ∀ k, k < 7 → K 130 k = c k) (h0 : ¬ c 0 = 0) (hN : 20 ≤ N) : f_X11_of_l93 N 6 K = some (nI (grt c 6)) := by
  have key := loop_inv2 (f := fun s : Int32 => f_X11_of_b93 N s K) (fun d s => s = nI (6 - d) ∧ grt c 6 = grt c (6 - d)) (fun z => z = nI (grt c 6)) 6 ?_ N 0 6 (Nat.zero_le _) (by omega) ⟨nl6, rfl⟩
  · obtain ⟨z, e, rfl⟩ := key
    exact e
  · rintro d s hd ⟨rfl, hg⟩
    show (∃ s', f_X11_of_b93 N (nI (6 - d)) K = _ ∧ _) ∨ (∃ z, f_X11_of_b93 N (nI (6 - d)) K = _ ∧ _)
    unfold f_X11_of_b93
    rw [if_pos (inb_nI (by omega) (by decide)), nI_clamp (by omega), h _ (by omega)]
    by_cases z : c (6 - d) = 0
    · left
      have : d < 6 := by
        apply Nat.lt_of_not_le
        intro w
        rw [show 6 - d = 0 by omega] at z
        exact h0 z
      rw [if_pos z, dn3 (by omega)]
      refine ⟨_, rfl, ⟨by rw [show 6 - d - 1 = 6 - (d + 1) by omega], ?_⟩, this⟩
      rw [hg, show 6 - d = (6 - (d + 1)) + 1 by omega, grt, if_pos (by rw [show 6 - (d + 1) + 1 = 6 - d by omega]; exact z)]
    · right
      rw [if_neg z]
      refine ⟨_, rfl, ?_⟩
      rw [hg]
      by_cases y : 6 - d = 0
      · rw [y]; rfl
      · rw [show 6 - d = (6 - d - 1) + 1 by omega, grt, if_neg (by rw [show 6 - d - 1 + 1 = 6 - d by omega]; exact z)]
theorem W0 : ∀ i, Wy r n i 0 = 1
  | 0 => by rw [Wy, if_pos rfl]
  | i + 1 => by rw [Wy_zero]; exact W0 i
theorem ct0 (n6 : n ≤ 6) : ct (Wy r n n) (2 ^ n) 0 = 1 := by
  have p1 := Nat.two_pow_pos n
  have t6 := two_le n6
  have : ∀ m, 1 ≤ m → m ≤ 64 → ct (Wy r n n) m 0 = 1 := by
    intro m
    induction m with
    | zero => intro h; omega
    | succ m ih =>
      intro _ h2
      rw [ct]
      by_cases z : m = 0
      · subst z
        rw [ct, if_pos (by decide), W0]; decide
      · rw [ih (by omega) (by omega), if_neg (by have := bcn_pos m (by omega) (by omega); omega), Int32.add_zero]
  exact this _ p1 t6
theorem s_of (hN : 1000 ≤ N) : S_of N (Inv0 PL0 PA0) := by
  intro X I L x1 x2 hI
  rcases (six_cases x1).symm with ⟨e1, e2⟩ | ⟨w, hw, rfl, e1, e2⟩
  · refine ⟨-1, X, I, L, I, ?_, ?_, hI⟩
    · unfold f_X10_of; rw [bnd1_some e1, if_pos rfl]
    · unfold f_X11_of; rw [bnd1_some e2, if_pos rfl]
  have iw : inb (nI w) 6 = true := inb_nI hw (by decide)
  have cw : Int32.toNatClampNeg (nI w) = w := nI_clamp (by omega)
  rcases rng_cases x2 4 (by decide) (hi := 4) (by decide) with ⟨x, hx, rfl, e3⟩ | ⟨h1, e3⟩
  · obtain ⟨n, r, n1, n6, hr, hc, hm⟩ := hI.b hw
    have t6 := two_le n6
    have l0 : ¬ nI x < 0 := nI_pos (by omega)
    have l4 : ¬ (4 : Int32) < nI x := by rw [nl4]; exact nI_le0 (by omega) hx
    have ne : ∀ k, k ≤ 4 → k ≠ x → ¬ nI x = nI k := fun k hk h => by rw [nI_eq (by omega) (by omega)]; omega
    have cx : x = 0 ∨ x = 1 ∨ x = 2 ∨ x = 3 ∨ x = 4 := by omega
    rcases cx with rfl | rfl | rfl | rfl | rfl
    · refine ⟨nI n, X, I, L, I, ?_, ?_, hI⟩
      · unfold f_X10_of; rw [bnd1_some e1, if_neg (by decide), if_neg l0, if_neg l4, if_pos iw, cw, if_pos nl0.symm, hc.1]
      · unfold f_X11_of; rw [bnd1_some e2, if_neg (by decide), bnd1_some e3, if_neg (by decide), if_pos nl0.symm, if_pos iw, cw, hm.1]
    · have k1 := cellsC (N := N) hc n6 (fun i hi => by have := hr i hi; omega) (by omega)
      have k2 := cellsM (N := N) hw hm n6 (fun i hi => by have := hr i hi; omega) (by omega)
      refine ⟨nI (cs r n), X, I, L, I, ?_, ?_, hI⟩
      · unfold f_X10_of; rw [bnd1_some e1, if_neg (by decide), if_neg l0, if_neg l4, if_pos iw, cw, if_neg (by decide), if_pos nl1.symm, bnd1_some k1]
      · unfold f_X11_of; rw [bnd1_some e2, if_neg (by decide), bnd1_some e3, if_neg (by decide), if_neg (by decide), if_pos nl1.symm, bnd1_some k2]
    · rcases steps_both (N := N) hw n6 hr hc hm (by omega) with ⟨_, s1, s2⟩ | ⟨_, s1, s2⟩
      · refine ⟨1, X, I, L, I, ?_, ?_, hI⟩
        · unfold f_X10_of; rw [bnd1_some e1, if_neg (by decide), if_neg l0, if_neg l4, if_pos iw, cw, if_neg (by decide), if_neg (by decide), if_pos nl2.symm, bnd1_some s1, if_neg (by decide)]
        · unfold f_X11_of; rw [bnd1_some e2, if_neg (by decide), bnd1_some e3, if_neg (by decide), if_neg (by decide), if_neg (by decide), if_pos nl2.symm, bnd1_some s2, if_neg (by decide)]
      · refine ⟨0, X, I, L, I, ?_, ?_, hI⟩
        · unfold f_X10_of; rw [bnd1_some e1, if_neg (by decide), if_neg l0, if_neg l4, if_pos iw, cw, if_neg (by decide), if_neg (by decide), if_pos nl2.symm, bnd1_some s1, if_pos rfl]
        · unfold f_X11_of; rw [bnd1_some e2, if_neg (by decide), bnd1_some e3, if_neg (by decide), if_neg (by decide), if_neg (by decide), if_pos nl2.symm, bnd1_some s2, if_pos rfl]
    · have s9 := sz_le n (by omega)
      have cn : Int32.toNatClampNeg (nI n) = n := nI_clamp (by omega)
      have ts : Int32.toNatClampNeg (tabI 3 (Int32.toNatClampNeg (nI n))) = sz n := by rw [cn, tab3n n (by omega), nI_clamp (by omega)]
      rcases steps_both (N := N) hw n6 hr hc hm (by omega) with ⟨st, s1, s2⟩ | ⟨st, s1, s2⟩
      · obtain ⟨q, X', I', L', a1, a2, a3, a4, inv, ref⟩ := sides (N := N) n1 n6 hI hN
        obtain ⟨K, b1, b2, b3, b4⟩ := ref I' fr.rfl
        have hcI : BC I' (12 + 4 * w) n r := BC_fr a4 (fun _ => by omega) (fun _ => by omega) hc
        have hmI : BM I' 103 104 w n r := BM_fr a4 (fun _ => by omega) (fun _ => by omega) hm
        have hmK : BM K 103 104 w n r := BM_fr b3 (fun _ => by unfold fA depA; omega) (fun _ => by unfold fA depA; omega) hmI
        have A : ∀ z, f_X2_numberOf N q (sz n) (nI (dgs (fun i => bcn 6 (r i)) n)) I' = some z → f_X10_of N (nI w) (nI 3) X I L = some (z, X', I', L') := fun z hz => by
          unfold f_X10_of
          rw [bnd1_some e1, if_neg (by decide), if_neg l0, if_neg l4, if_pos iw, cw, if_neg (by decide), if_neg (by decide), if_neg (by decide), if_pos nl3.symm, bnd1_some s1, if_neg (by decide), hc.1, bnd4_some a1, bnd1_some (hdigC n6 hr hcI (by omega)), ts, bnd1_some hz]
        have B : ∀ z, f_X11_numberOf_l14 N (nI w) (nI n) 0 K = z → f_X11_of N (nI w) (nI 3) I' = bnd2 (bns1 z (fun u13 => some ((-5), K)) (fun q15 => some q15)) fun r17 I18 => some (r17, I18) := fun z hz => by
          unfold f_X11_of f_X11_numberOf
          rw [bnd1_some e2, if_neg (by decide), bnd1_some e3, if_neg (by decide), if_neg (by decide), if_neg (by decide), if_neg (by decide), if_pos nl3.symm, if_pos iw, cw, hmI.1, bnd1_some b1, hz]
        rcases numC (N := N) n1 n6 hr st a2 hN with ⟨j, j1, j2, j3, j4⟩ | ⟨j1, j4⟩
        · rcases numM (N := N) hw n1 n6 hr hmK b2 hN with ⟨j', k1, k2, k3, k4⟩ | ⟨k1, k4⟩
          · have : j = j' := by
              apply Nat.le_antisymm
              · exact Nat.le_of_not_lt (fun h => j3 j' h k2)
              · exact Nat.le_of_not_lt (fun h => k3 j h j2)
            subst this
            exact ⟨nI j, X', I', L', K, A _ j4, B _ k4, b4 K fr.rfl⟩
          · exact absurd j2 (k1 j j1)
        · rcases numM (N := N) hw n1 n6 hr hmK b2 hN with ⟨j', k1, k2, k3, k4⟩ | ⟨k1, k4⟩
          · exact absurd k2 (j1 j' k1)
          · exact ⟨-5, X', I', L', K, A _ j4, B _ k4, b4 K fr.rfl⟩
      · obtain ⟨K, b1, b2, b3, b4⟩ := allM (N := N) n1 n6 hI.2.2.2.2.2.2.2.2.2.2.2.2.2.2.2.2.2.2 hN
        have hmK : BM K 103 104 w n r := BM_fr b4 (fun _ => by unfold fA depA; omega) (fun _ => by unfold fA depA; omega) hm
        rcases numM (N := N) hw n1 n6 hr hmK b3 hN with ⟨j', k1, k2, k3, k4⟩ | ⟨k1, k4⟩
        · exact absurd (mt_stp n1 n6 k1 k2) st
        · refine ⟨-5, X, I, L, K, ?_, ?_, inv_all hI (b4.mono (fun b j h => Or.inr h)) n1 n6 b2 b3⟩
          · unfold f_X10_of
            rw [bnd1_some e1, if_neg (by decide), if_neg l0, if_neg l4, if_pos iw, cw, if_neg (by decide), if_neg (by decide), if_neg (by decide), if_pos nl3.symm, bnd1_some s1, if_pos rfl]
          · unfold f_X11_of f_X11_numberOf
            rw [bnd1_some e2, if_neg (by decide), bnd1_some e3, if_neg (by decide), if_neg (by decide), if_neg (by decide), if_neg (by decide), if_pos nl3.symm, if_pos iw, cw, hm.1, bnd1_some b1, bns1_inl k4, bnd2_some rfl]
    · obtain ⟨n', r', J, K, b1, b6, hr', hc', hm', a1, k1, a3, k3, a4, k4⟩ := counts_both (N := N) hI hw hN
      have h0 : ¬ ct (Wy r' n' n') (2 ^ n') 0 = 0 := by rw [ct0 b6]; decide
      refine ⟨nI (grt (ct (Wy r' n' n') (2 ^ n')) 6), X, J, L, K, ?_, ?_, inv_scr frPL0 frPA0 hI ((a4.mono (S' := scr) (fun b j h => by unfold scr; omega)).trans (k4.mono (fun b j h => by unfold scr; omega))) frL.rfl⟩
      · unfold f_X10_of
        rw [bnd1_some e1, if_neg (by decide), if_neg l0, if_neg l4, if_pos iw, cw, if_neg (by decide), if_neg (by decide), if_neg (by decide), if_neg (by decide), bnd1_some a1, bnd1_some (grC a3 (by omega))]
      · unfold f_X11_of
        rw [bnd1_some e2, if_neg (by decide), bnd1_some e3, if_neg (by decide), if_neg (by decide), if_neg (by decide), if_neg (by decide), if_neg (by decide), bnd1_some k1, bnd1_some (grM k3 h0 (by omega))]
  · refine ⟨-1, X, I, L, I, ?_, ?_, hI⟩
    · unfold f_X10_of
      rw [bnd1_some e1, if_neg (by decide)]
      by_cases q : x2 < 0
      · rw [if_pos q]
      · rw [if_neg q, nl4, if_pos (h1.resolve_left q)]
    · unfold f_X11_of; rw [bnd1_some e2, if_neg (by decide), bnd1_some e3, if_pos rfl]
end OF
