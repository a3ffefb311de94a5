/-! ===== boards: turned ===== -/
theorem hasT : ∀ r, r < 64 → ∀ j, j < 6 → (jshr (nI r) (nI j) &&& 1) = if r.testBit j then 1 else 0 := by decide +kernel
def orow (r : Nat → Nat) (a : Nat) : Nat → Nat
  | 0 => 0
  | k + 1 => orow r a k ||| (if (r k).testBit a then 2 ^ k else 0)
theorem orow_lt (r : Nat → Nat) (a : Nat) : ∀ k, orow r a k < 2 ^ k
  | 0 => by simp [orow]
  | k + 1 => by
    unfold orow
    have h := orow_lt r a k
    have p := Nat.two_pow_pos k
    have e : 2 ^ (k + 1) = 2 ^ k * 2 := Nat.pow_succ 2 k
    refine Nat.or_lt_two_pow (by omega) ?_
    by_cases q : (r k).testBit a
    · rw [if_pos q]; omega
    · rw [if_neg q]; omega
theorem orow_bit (r : Nat → Nat) (a : Nat) : ∀ k b, (orow r a k).testBit b = (decide (b < k) && (r b).testBit a)
  | 0, b => by simp [orow]
  | k + 1, b => by
    rw [orow, Nat.testBit_or, orow_bit r a k b]
    by_cases e : b = k
    · subst e
      by_cases q : (r b).testBit a
      · simp [q]
      · simp [q]
    · have h1 : (decide (b < k + 1)) = decide (b < k) := by simp; omega
      rw [h1]
      by_cases q : (r k).testBit a
      · rw [if_pos q, Nat.testBit_two_pow]
        have : decide (k = b) = false := by simp; omega
        rw [this]; simp
      · rw [if_neg q]; simp
theorem bits_eq {s t n : Nat} (hs : s < 2 ^ n) (ht : t < 2 ^ n) (h : ∀ b, b < n → s.testBit b = t.testBit b) : s = t := by
  refine Nat.eq_of_testBit_eq (fun b => ?_)
  by_cases q : b < n
  · exact h b q
  · have p : 2 ^ n ≤ 2 ^ b := Nat.pow_le_pow_right (by decide) (by omega)
    rw [Nat.testBit_lt_two_pow (by omega), Nat.testBit_lt_two_pow (by omega)]

theorem hasC {a n i j : Nat} {s : Nat → Nat} {I : MI} (hs : ∀ i, i < n → I (a + 1) i = nI (s i)) (hl : ∀ i, i < n → s i < 64) (hn : n ≤ 6) (hi : i < n) (hj : j < n) : f_X0_has a (nI i) (nI j) I = some (if (s i).testBit j then 1 else 0) := by
  unfold f_X0_has
  rw [if_pos (inb_nI (by omega) (by decide)), nI_clamp (by omega), hs i hi, hasT _ (hl i hi) j (by omega)]
  by_cases q : (s i).testBit j
  · rw [if_pos q, if_neg (by decide)]
  · rw [if_neg q, if_pos rfl]
theorem hasM {w n i j : Nat} {s : Nat → Nat} {I : MI} (hw : w < 6) (hs : ∀ i, i < n → I 104 (6 * w + i) = nI (s i)) (hl : ∀ i, i < n → s i < 64) (hn : n ≤ 6) (hi : i < n) (hj : j < n) : f_X11_has (nI w) (nI i) (nI j) I = some (if (s i).testBit j then 1 else 0) := by
  unfold f_X11_has
  rw [m6, if_pos (inb_nI (by omega) (by decide)), nI_clamp (by omega), hs i hi, hasT _ (hl i hi) j (by omega)]
  by_cases q : (s i).testBit j
  · rw [if_pos q, if_pos rfl]
  · rw [if_neg q, if_neg (by decide)]
theorem toggle_spec {a i j x : Nat} {I : MI} (hi : i < 6) (hj : j < 6) (hx : I (a + 1) i = nI x) : f_X0_toggle a (nI i) (nI j) I = some (upI I (a + 1) i (nI (x ^^^ 2 ^ j))) := by
  unfold f_X0_toggle
  rw [if_pos (inb_nI hi (by decide)), if_pos (inb_nI hi (by decide)), nI_clamp (by omega), hx, shl1 j (by omega), nI_xor]; rfl
/-- the pairs of places that have been changed for one another -/
def swp (i j a b : Nat) : Prop := (b < a ∧ (a < i ∨ (a = i ∧ b < j))) ∨ (a < b ∧ (b < i ∨ (b = i ∧ a < j)))
def half (r s : Nat → Nat) (n i j : Nat) : Prop := ∀ a b, a < n → b < n → (swp i j a b → (s a).testBit b = (r b).testBit a) ∧ (¬ swp i j a b → (s a).testBit b = (r a).testBit b)
theorem half_step {r s : Nat → Nat} {n i j : Nat} (hi : i < n) (hj : j < i) (h : half r s n i j) (e : (s i).testBit j = (s j).testBit i) : half r s n i (j + 1) := by
  intro a b ha hb
  have h1 := h a b ha hb
  have hij := (h i j hi (by omega)).2 (by unfold swp; omega)
  have hji := (h j i (by omega) hi).2 (by unfold swp; omega)
  constructor
  · intro q
    by_cases z1 : a = i ∧ b = j
    · rw [z1.1, z1.2, e, hji]
    · by_cases z2 : a = j ∧ b = i
      · rw [z2.1, z2.2, ← e, hij]
      · exact h1.1 (by unfold swp at q ⊢; omega)
  · intro q; exact h1.2 (by unfold swp at q ⊢; omega)
theorem half_flip {r s : Nat → Nat} {n i j : Nat} (hi : i < n) (hj : j < i) (h : half r s n i j) (e : ¬ (s i).testBit j = (s j).testBit i) : half r (fun a => if a = i then s i ^^^ 2 ^ j else if a = j then s j ^^^ 2 ^ i else s a) n i (j + 1) := by
  intro a b ha hb
  have h1 := h a b ha hb
  have hij := (h i j hi (by omega)).2 (by unfold swp; omega)
  have hji := (h j i (by omega) hi).2 (by unfold swp; omega)
  simp only
  by_cases za : a = i
  · subst za
    rw [if_pos rfl, Nat.testBit_xor, Nat.testBit_two_pow]
    by_cases zb : j = b
    · subst zb
      refine ⟨fun _ => ?_, fun q => absurd (show swp a (j + 1) a j by unfold swp; omega) q⟩
      rw [decide_eq_true rfl, ← hji]
      revert e
      cases (s a).testBit j <;> cases (s j).testBit a <;> simp
    · rw [decide_eq_false zb, Bool.xor_false]
      exact ⟨fun q => h1.1 (by unfold swp at q ⊢; omega), fun q => h1.2 (by unfold swp at q ⊢; omega)⟩
  · rw [if_neg za]
    by_cases zj : a = j
    · subst zj
      rw [if_pos rfl, Nat.testBit_xor, Nat.testBit_two_pow]
      by_cases zb : i = b
      · subst zb
        refine ⟨fun _ => ?_, fun q => absurd (show swp i (a + 1) a i by unfold swp; omega) q⟩
        rw [decide_eq_true rfl, ← hij]
        revert e
        cases (s i).testBit a <;> cases (s a).testBit i <;> simp
      · rw [decide_eq_false zb, Bool.xor_false]
        exact ⟨fun q => h1.1 (by unfold swp at q ⊢; omega), fun q => h1.2 (by unfold swp at q ⊢; omega)⟩
    · rw [if_neg zj]
      exact ⟨fun q => h1.1 (by unfold swp at q ⊢; omega), fun q => h1.2 (by unfold swp at q ⊢; omega)⟩
def rowsC (I : MI) (a n : Nat) (s : Nat → Nat) : Prop := ∀ i, i < n → I (a + 1) i = nI (s i) ∧ s i < 2 ^ n
theorem turnedRow {N a n i : Nat} {r s : Nat → Nat} {I : MI} (hn : n ≤ 6) (hi : i < n) (hs : rowsC I a n s) (hh : half r s n i 0) (hN : 20 ≤ N) : ∃ J, f_X0_becomeTurned_l12 N a (nI i) 0 I = some J ∧ (∃ s', rowsC J a n s' ∧ half r s' n i i) ∧ fr (fun b j => b = a + 1) I J := by
  have t6 := two_le hn
  refine loop_inv (f := fun st : Int32 × MI => f_X0_becomeTurned_b12 N a (nI i) st.1 st.2) (fun k st => st.1 = nI k ∧ (∃ s', rowsC st.2 a n s' ∧ half r s' n i k) ∧ fr (fun b j => b = a + 1) I st.2) _ i ?_ ?_ N 0 (0, I) (Nat.zero_le _) (by omega) ⟨nl0, ⟨s, hs, hh⟩, fr.rfl⟩
  · rintro k ⟨c, J⟩ hk ⟨e1, ⟨s', w1, w2⟩, f1⟩
    simp only at e1 w1 f1
    subst e1
    have hb := hasC (a := a) (i := i) (j := k) (I := J) (fun q hq => (w1 q hq).1) (fun q hq => by have := (w1 q hq).2; omega) hn hi (by omega)
    have hb' := hasC (a := a) (i := k) (j := i) (I := J) (fun q hq => (w1 q hq).1) (fun q hq => by have := (w1 q hq).2; omega) hn (by omega) hi
    have lt : nI k < nI i := (nI_ltI (by omega) (by omega)).mpr hk
    by_cases e : (s' i).testBit k = (s' k).testBit i
    · refine ⟨(nI (k + 1), J), ?_, rfl, ⟨s', w1, half_step hi hk w2 e⟩, f1⟩
      show f_X0_becomeTurned_b12 N a (nI i) (nI k) J = _
      unfold f_X0_becomeTurned_b12
      rw [if_pos lt, bnd1_some hb, bnd1_some hb', e, if_pos rfl, nI_1]
    · have t1 := toggle_spec (a := a) (i := i) (j := k) (I := J) (by omega) (by omega) (w1 i hi).1
      have t2 := toggle_spec (a := a) (i := k) (j := i) (x := s' k) (I := upI J (a + 1) i (nI (s' i ^^^ 2 ^ k))) (by omega) (by omega) (by rw [upI_ne _ _ (Or.inr (by omega))]; exact (w1 k (by omega)).1)
      refine ⟨(nI (k + 1), upI (upI J (a + 1) i (nI (s' i ^^^ 2 ^ k))) (a + 1) k (nI (s' k ^^^ 2 ^ i))), ?_, rfl, ⟨fun a => if a = i then s' i ^^^ 2 ^ k else if a = k then s' k ^^^ 2 ^ i else s' a, fun q hq => ?_, half_flip hi hk w2 e⟩, f1.trans ((fr.up (S := fun b _ => b = a + 1) (a := a + 1) (k := i) rfl).trans (fr.up (S := fun b _ => b = a + 1) (a := a + 1) (k := k) rfl))⟩
      · show f_X0_becomeTurned_b12 N a (nI i) (nI k) J = _
        unfold f_X0_becomeTurned_b12
        have ne : ¬ (if (s' i).testBit k then (1 : Int32) else 0) = (if (s' k).testBit i then 1 else 0) := by
          revert e
          cases (s' i).testBit k <;> cases (s' k).testBit i <;> decide
        rw [if_pos lt, bnd1_some hb, bnd1_some hb', if_neg ne, bnd1_some t1, bnd1_some t2, nI_1]
      · show upI (upI J (a + 1) i _) (a + 1) k _ (a + 1) q = nI (if q = i then s' i ^^^ 2 ^ k else if q = k then s' k ^^^ 2 ^ i else s' q) ∧ (if q = i then s' i ^^^ 2 ^ k else if q = k then s' k ^^^ 2 ^ i else s' q) < 2 ^ n
        have pk : 2 ^ k < 2 ^ n := Nat.pow_lt_pow_right (by decide) (by omega)
        have pi : 2 ^ i < 2 ^ n := Nat.pow_lt_pow_right (by decide) (by omega)
        rw [upI_at, upI_at]
        by_cases z1 : q = i
        · rw [if_neg (by omega), if_pos z1, if_pos z1]
          exact ⟨rfl, Nat.xor_lt_two_pow (w1 i hi).2 pk⟩
        · by_cases z2 : q = k
          · rw [if_pos z2, if_neg z1, if_pos z2]
            exact ⟨rfl, Nat.xor_lt_two_pow (w1 k (by omega)).2 pi⟩
          · rw [if_neg z2, if_neg z1, if_neg z1, if_neg z2]
            exact w1 q hq
  · rintro ⟨c, J⟩ ⟨e1, w1, f1⟩
    simp only at e1 w1 f1
    subst e1
    refine ⟨J, ?_, w1, f1⟩
    show f_X0_becomeTurned_b12 N a (nI i) (nI i) J = _
    unfold f_X0_becomeTurned_b12
    rw [if_neg (nI_le0 (by omega) (Nat.le_refl _))]
theorem turnedC {N a n : Nat} {r : Nat → Nat} {I : MI} (hn : n ≤ 6) (h0 : I a 0 = nI n) (hs : rowsC I a n r) (hN : 20 ≤ N) : ∃ J, f_X0_becomeTurned N a I = some J ∧ (∀ i, i < n → J (a + 1) i = nI (orow r i n)) ∧ fr (fun b j => b = a + 1) I J := by
  have key := loop_inv (f := fun st : Int32 × MI => f_X0_becomeTurned_b2 N a st.1 st.2) (fun k st => st.1 = nI k ∧ (∃ s', rowsC st.2 a n s' ∧ half r s' n k 0) ∧ fr (fun b j => b = a + 1) I st.2) (fun J => (∀ i, i < n → J (a + 1) i = nI (orow r i n)) ∧ fr (fun b j => b = a + 1) I J) n ?_ ?_ N 0 (0, I) (Nat.zero_le _) (by omega) ⟨nl0, ⟨r, hs, fun a b _ _ => ⟨fun q => absurd q (by unfold swp; omega), fun _ => rfl⟩⟩, fr.rfl⟩
  · obtain ⟨J, e, q1, q2⟩ := key
    refine ⟨J, ?_, q1, q2⟩
    unfold f_X0_becomeTurned f_X0_becomeTurned_l2
    exact bnd1_some e
  · rintro k ⟨c, J⟩ hk ⟨e1, ⟨s', w1, w2⟩, f1⟩
    simp only at e1 w1 f1
    subst e1
    obtain ⟨K, g1, ⟨s2, g2, g3⟩, g4⟩ := turnedRow (N := N) (r := r) hn hk w1 w2 hN
    refine ⟨(nI (k + 1), K), ?_, rfl, ⟨s2, g2, fun x y hx hy => ⟨fun q => (g3 x y hx hy).1 (by unfold swp at q ⊢; omega), fun q => (g3 x y hx hy).2 (by unfold swp at q ⊢; omega)⟩⟩, f1.trans g4⟩
    show f_X0_becomeTurned_b2 N a (nI k) J = _
    unfold f_X0_becomeTurned_b2
    rw [f1 a 0 (by omega), h0, if_pos ((nI_ltI (by omega) (by omega)).mpr hk), bnd1_some g1, nI_1]
  · rintro ⟨c, J⟩ ⟨e1, ⟨s', w1, w2⟩, f1⟩
    simp only at e1 w1 f1
    subst e1
    refine ⟨J, ?_, fun i hi => ?_, f1⟩
    · show f_X0_becomeTurned_b2 N a (nI n) J = _
      unfold f_X0_becomeTurned_b2
      rw [f1 a 0 (by omega), h0, if_neg (nI_le0 (by omega) (Nat.le_refl _))]
    · rw [(w1 i hi).1]
      congr 1
      refine bits_eq (w1 i hi).2 (orow_lt r i n) (fun b hb => ?_)
      rw [orow_bit, decide_eq_true hb, Bool.true_and]
      by_cases q : swp n 0 i b
      · exact (w2 i b hi hb).1 q
      · rw [(w2 i b hi hb).2 q]
        have : i = b := by unfold swp at q; omega
        rw [this]
theorem turnedMrow {N w n i : Nat} {r : Nat → Nat} {I : MI} (hw : w < 6) (hn : n ≤ 6) (hi : i < n) (hs : ∀ i, i < n → I 104 (6 * w + i) = nI (r i)) (hr : ∀ i, i < n → r i < 64) (h0 : I 128 i = 0) (hN : 20 ≤ N) : ∃ J, f_X11_turned_l33 N (nI w) (nI n) (nI i) 0 I = some J ∧ J 128 i = nI (orow r i n) ∧ fr (fun b j => b = 128 ∧ j = i) I J := by
  refine loop_inv (f := fun st : Int32 × MI => f_X11_turned_b33 N (nI w) (nI n) (nI i) st.1 st.2) (fun k st => st.1 = nI k ∧ st.2 128 i = nI (orow r i k) ∧ fr (fun b j => b = 128 ∧ j = i) I st.2) _ n ?_ ?_ N 0 (0, I) (Nat.zero_le _) (by omega) ⟨nl0, h0.trans nl0, fr.rfl⟩
  · rintro k ⟨c, J⟩ hk ⟨e1, w1, f1⟩
    simp only at e1 w1 f1
    subst e1
    have hb := hasM (w := w) (i := k) (j := i) (I := J) hw (fun q hq => (f1 _ _ (by omega)).trans (hs q hq)) hr hn hk hi
    refine ⟨(nI (k + 1), upI J 128 i (nI (orow r i (k + 1)))), ?_, rfl, upI_eq _ _ _ _, f1.trans (fr.up ⟨rfl, rfl⟩)⟩
    show f_X11_turned_b33 N (nI w) (nI n) (nI i) (nI k) J = _
    have i12 : inb (nI i) 12 = true := inb_nI (by omega) (by decide)
    unfold f_X11_turned_b33
    rw [if_pos ((nI_ltI (by omega) (by omega)).mpr hk), if_pos i12, bnd1_some hb, nI_clamp (by omega), w1, nI_1, orow]
    by_cases q : (r k).testBit i
    · rw [if_pos q, if_neg (by decide), if_pos i12, if_pos q, shl1 k (by omega), nI_or]; rfl
    · rw [if_neg q, if_pos rfl, if_pos i12, if_neg q, nl0, nI_or]; rfl
  · rintro ⟨c, J⟩ ⟨e1, w1, f1⟩
    simp only at e1 w1 f1
    subst e1
    refine ⟨J, ?_, w1, f1⟩
    show f_X11_turned_b33 N (nI w) (nI n) (nI i) (nI n) J = _
    unfold f_X11_turned_b33
    rw [if_neg (nI_le0 (by omega) (Nat.le_refl _))]
theorem turnedM {N w n : Nat} {r : Nat → Nat} {I : MI} (hw : w < 6) (hn : n ≤ 6) (hs : ∀ i, i < n → I 104 (6 * w + i) = nI (r i)) (hr : ∀ i, i < n → r i < 64) (hN : 20 ≤ N) : ∃ K, (bnd1 (f_X11_turned_l18 N (nI w) (nI n) 0 I) fun I19 => f_X11_turned_l81 N (nI w) (nI n) 0 I19) = some K ∧ (∀ i, i < n → K 104 (6 * w + i) = nI (orow r i n)) ∧ fr (fun b j => b = 128 ∨ (b = 104 ∧ 6 * w ≤ j ∧ j < 6 * w + 6)) I K := by
  have key := loop_inv (f := fun st : Int32 × MI => f_X11_turned_b18 N (nI w) (nI n) st.1 st.2) (fun k st => st.1 = nI k ∧ (∀ i, i < k → st.2 128 i = nI (orow r i n)) ∧ fr (fun b j => b = 128) I st.2) (fun J => (∀ i, i < n → J 128 i = nI (orow r i n)) ∧ fr (fun b j => b = 128) I J) n ?_ ?_ N 0 (0, I) (Nat.zero_le _) (by omega) ⟨nl0, fun i hi => absurd hi (by omega), fr.rfl⟩
  · obtain ⟨J, e, q1, q2⟩ := key
    have key2 := loop_inv (f := fun st : Int32 × MI => f_X11_turned_b81 N (nI w) (nI n) st.1 st.2) (fun k st => st.1 = nI k ∧ (∀ i, i < k → st.2 104 (6 * w + i) = nI (orow r i n)) ∧ fr (fun b j => b = 104 ∧ 6 * w ≤ j ∧ j < 6 * w + 6) J st.2) (fun K => (∀ i, i < n → K 104 (6 * w + i) = nI (orow r i n)) ∧ fr (fun b j => b = 104 ∧ 6 * w ≤ j ∧ j < 6 * w + 6) J K) n ?_ ?_ N 0 (0, J) (Nat.zero_le _) (by omega) ⟨nl0, fun i hi => absurd hi (by omega), fr.rfl⟩
    · obtain ⟨K, e', p1, p2⟩ := key2
      refine ⟨K, ?_, p1, (q2.mono (fun b j h => Or.inl h)).trans (p2.mono (fun b j h => Or.inr h))⟩
      unfold f_X11_turned_l18 f_X11_turned_l81
      rw [bnd1_some e, e']
    · rintro k ⟨c, K⟩ hk ⟨e1, w1, f1⟩
      simp only at e1 w1 f1
      subst e1
      refine ⟨(nI (k + 1), upI K 104 (6 * w + k) (nI (orow r k n))), ?_, rfl, fun i hi => ?_, f1.trans (fr.up ⟨rfl, by omega, by omega⟩)⟩
      · show f_X11_turned_b81 N (nI w) (nI n) (nI k) K = _
        unfold f_X11_turned_b81
        rw [if_pos ((nI_ltI (by omega) (by omega)).mpr hk), if_pos (inb_nI (by omega) (by decide)), m6, if_pos (inb_nI (by omega) (by decide)), nI_clamp (by omega), nI_clamp (by omega), f1 128 k (by omega), q1 k hk, nI_1]; rfl
      · show upI K 104 (6 * w + k) _ 104 (6 * w + i) = _
        rw [upI_at]
        by_cases q : i = k
        · rw [if_pos (by omega), q]
        · rw [if_neg (by omega)]; exact w1 i (by omega)
    · rintro ⟨c, K⟩ ⟨e1, w1, f1⟩
      simp only at e1 w1 f1
      subst e1
      refine ⟨K, ?_, w1, f1⟩
      show f_X11_turned_b81 N (nI w) (nI n) (nI n) K = _
      unfold f_X11_turned_b81
      rw [if_neg (nI_le0 (by omega) (Nat.le_refl _))]
  · rintro k ⟨c, J⟩ hk ⟨e1, w1, f1⟩
    simp only at e1 w1 f1
    subst e1
    obtain ⟨K, g1, g2, g3⟩ := turnedMrow (N := N) (I := upI J 128 k 0) (i := k) hw hn hk (fun i hi => by rw [upI_ne _ _ (Or.inl (by omega)), f1 _ _ (by omega)]; exact hs i hi) hr (upI_eq _ _ _ _) hN
    refine ⟨(nI (k + 1), K), ?_, rfl, fun i hi => ?_, f1.trans ((fr.up (S := fun b _ => b = 128) rfl).trans (g3.mono (fun b j h => h.1)))⟩
    · show f_X11_turned_b18 N (nI w) (nI n) (nI k) J = _
      unfold f_X11_turned_b18
      rw [if_pos ((nI_ltI (by omega) (by omega)).mpr hk), if_pos (inb_nI (by omega) (by decide)), nI_clamp (by omega)]
      simp only [letv]
      rw [bnd1_some g1, nI_1]
    · show K 128 i = _
      by_cases q : i = k
      · rw [q]; exact g2
      · rw [g3 _ _ (by omega), upI_ne _ _ (Or.inr q)]; exact w1 i (by omega)
  · rintro ⟨c, J⟩ ⟨e1, w1, f1⟩
    simp only at e1 w1 f1
    subst e1
    refine ⟨J, ?_, w1, f1⟩
    show f_X11_turned_b18 N (nI w) (nI n) (nI n) J = _
    unfold f_X11_turned_b18
    rw [if_neg (nI_le0 (by omega) (Nat.le_refl _))]
section BS3
variable {PL : MX → MI → ML → Prop} {PA : MI → Prop} {N : Nat}
theorem s_turned (hPL : frPL PL) (hPA : frPA PA) (hN : 20 ≤ N) : S_turned N (Inv0 PL PA) := by
  intro X I L x1 hI
  rcases six_cases x1 with ⟨w, hw, rfl, e1, e2⟩ | ⟨e1, e2⟩
  · have iw : inb (nI w) 6 = true := inb_nI hw (by decide)
    have cw : Int32.toNatClampNeg (nI w) = w := nI_clamp (by omega)
    obtain ⟨n, r, n1, n6, hr, hc, hm⟩ := hI.b hw
    have t6 := two_le n6
    obtain ⟨cc, J, K, e103, a1, a2, a3, a4, a5⟩ := become (N := N) hPL hPA hN hI hw (r' := fun i => orow r i n) n1 n6 (fun i hi => orow_lt r i n) hc hm (F := f_X0_becomeTurned N (12 + 4 * w)) (G := fun M => bnd1 (f_X11_turned_l18 N (nI w) (nI n) 0 M) fun I19 => f_X11_turned_l81 N (nI w) (nI n) 0 I19) (by
      obtain ⟨J, g1, g2, g3⟩ := turnedC (N := N) n6 hc.1 (fun i hi => ⟨hc.2 i hi, hr i hi⟩) hN
      exact ⟨J, g1, fun i hi => by rw [show 13 + 4 * w = 12 + 4 * w + 1 by omega]; exact g2 i hi, g3.mono (fun b j h => by omega)⟩) (by
      intro M hmM
      exact turnedM hw n6 hmM.2 (fun i hi => by have := hr i hi; omega) hN)
    refine ⟨cc, upI J 67 4 0, upI K 99 9 0, ?_, ?_, a5⟩
    · unfold f_X10_turned
      rw [bnd1_some e1, if_neg (by decide), if_pos iw, cw, bnd1_some a1]
      show bnd1 (f_X1_forget J) _ = _
      rw [bnd1_some (show f_X1_forget J = some (upI J 67 4 0) from rfl), bnd1_some a2]
    · unfold f_X11_turned
      rw [bnd1_some e2, if_neg (by decide), if_pos iw, cw, e103]
      cases hq : f_X11_turned_l18 N (nI w) (nI n) 0 (upI J 67 4 0) with
      | none => simp only [hq] at a3; exact absurd a3 (by intro h; cases h)
      | some Q =>
        simp only [hq] at a3
        have a3' : f_X11_turned_l81 N (nI w) (nI n) 0 Q = some K := a3
        rw [bnd1_some rfl, bnd1_some a3']
        simp only [letv]
        rw [bnd1_some a4]
  · refine ⟨-1, I, I, ?_, ?_, hI⟩
    · unfold f_X10_turned; rw [bnd1_some e1, if_pos rfl]
    · unfold f_X11_turned; rw [bnd1_some e2, if_pos rfl]
end BS3
