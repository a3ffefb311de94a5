/-! ===== steps ===== -/
def dg (h k : Nat) : Nat := h / 10 ^ k % 10
theorem p10_le (h k : Nat) : h / 10 ^ k ≤ h := Nat.div_le_self _ _
theorem p10_s (h k : Nat) : h / 10 ^ k / 10 = h / 10 ^ (k + 1) := by rw [Nat.div_div_eq_div_mul, Nat.pow_succ]
theorem dn1 {m : Nat} (h : 1 ≤ m) : nI m - 1 + -1 = nI (m - 1) - 1 := by rw [show nI m - 1 = nI (m - 1) by rw [nl1, nI_sub h], ← Int32.sub_eq_add_neg]
theorem dn2 {m : Nat} (h : 1 ≤ m) : nI m - 1 = nI (m - 1) := by rw [nl1, nI_sub h]
theorem digC {N h k : Nat} (hh : h < 2 ^ 31) (hk : k ≤ 10) (hN : 20 ≤ N) : f_X10_digit N (nI h) (nI k) = some (nI (dg h k)) := by
  have key := loop_for (f := fun s : Int32 × Int32 => f_X10_digit_b4 N (nI k) s.1 s.2) (fun t => (nI (h / 10 ^ t), nI t)) k (r := nI (h / 10 ^ k)) (fun t ht => by
    have := p10_le h t
    show f_X10_digit_b4 N (nI k) (nI (h / 10 ^ t)) (nI t) = _
    unfold f_X10_digit_b4
    rw [if_pos ((nI_ltI (by omega) (by omega)).mpr ht), nl10, nI_div (by omega) (by omega), p10_s, nI_1]) (by
    show f_X10_digit_b4 N (nI k) (nI (h / 10 ^ k)) (nI k) = _
    unfold f_X10_digit_b4
    rw [if_neg (nI_le0 (by omega) (Nat.le_refl _))]) N 0 (Nat.zero_le _) (by omega)
  unfold f_X10_digit f_X10_digit_l4
  have e0 : (nI (h / 10 ^ 0), nI 0) = ((nI h, 0) : Int32 × Int32) := by rw [Nat.pow_zero, Nat.div_one, ← nl0]
  rw [e0] at key
  have := p10_le h k
  rw [bnd1_some key, nl10, nI_rem (by omega) (by omega)]
  rfl
def okH (n h : Nat) : Prop := (∀ k, k < n → dg h k ≤ n) ∧ (∀ k, k + 1 < n → dg h (k + 1) ≤ dg h k) ∧ h / 10 ^ n = 0
theorem areH {N n h : Nat} (n6 : n ≤ 6) (hh : h < 2 ^ 31) (hN : 20 ≤ N) : (okH n h ∧ f_X10_areHeights N (nI n) (nI h) = some 1) ∨ (¬ okH n h ∧ f_X10_areHeights N (nI n) (nI h) = some 0) := by
  let ab : Nat → Nat := fun k => if k = 0 then n else dg h (k - 1)
  have key := loop_inv2 (f := fun s : Int32 × Int32 × Int32 => f_X10_areHeights_b15 N s.1 s.2.1 s.2.2) (fun k st => st.1 = nI (h / 10 ^ k) ∧ st.2.1 = nI (ab k) ∧ st.2.2 = nI (n - k) - 1 ∧ ∀ t, t < k → dg h t ≤ ab t) (fun r => (r = .inl (nI (h / 10 ^ n)) ∧ ∀ t, t < n → dg h t ≤ ab t) ∨ (r = .inr 0 ∧ ∃ t, t < n ∧ ab t < dg h t)) n ?_ N 0 (nI h, nI n, nI n - 1) (Nat.zero_le _) (by omega) ⟨by show nI h = _; rw [Nat.pow_zero, Nat.div_one], rfl, rfl, fun t ht => absurd ht (by omega)⟩
  · obtain ⟨r, e, hr⟩ := key
    have up : (∀ t, t < n → dg h t ≤ ab t) → ∀ t, t < n → dg h t ≤ n := fun H t => by
      induction t with
      | zero => intro ht; exact H 0 ht
      | succ t ih => intro ht; exact Nat.le_trans (H (t + 1) ht) (ih (by omega))
    have a1 : ¬ nI h < 0 := nI_pos hh
    rcases hr with ⟨er, H⟩ | ⟨er, t, ht, H⟩
    · subst er
      by_cases z : h / 10 ^ n = 0
      · left
        refine ⟨⟨up H, fun k hk => H (k + 1) hk, z⟩, ?_⟩
        unfold f_X10_areHeights f_X10_areHeights_l15
        rw [if_neg a1, bns1_inl e, z, if_pos nl0.symm]
      · right
        refine ⟨fun q => z q.2.2, ?_⟩
        have := p10_le h n
        unfold f_X10_areHeights f_X10_areHeights_l15
        rw [if_neg a1, bns1_inl e, if_neg (by rw [nl0, nI_eq (by omega) (by omega)]; exact z)]
    · subst er
      right
      refine ⟨fun q => ?_, ?_⟩
      · have : dg h t ≤ ab t := by
          cases t with
          | zero => exact q.1 0 ht
          | succ t => exact q.2.1 t ht
        omega
      · unfold f_X10_areHeights f_X10_areHeights_l15
        rw [if_neg a1, bns1_inr e]
  · rintro k ⟨a, b, c⟩ hk ⟨e1, e2, e3, H⟩
    simp only at e1 e2 e3
    subst e1; subst e2; subst e3
    show (∃ s', f_X10_areHeights_b15 N (nI (h / 10 ^ k)) (nI (ab k)) (nI (n - k) - 1) = _ ∧ _) ∨ (∃ r, f_X10_areHeights_b15 N (nI (h / 10 ^ k)) (nI (ab k)) (nI (n - k) - 1) = _ ∧ _)
    have := p10_le h k
    have abl : ab k ≤ 9 := by
      show (if k = 0 then n else dg h (k - 1)) ≤ 9
      split
      · omega
      · unfold dg; omega
    have dgl : dg h k ≤ 9 := by unfold dg; omega
    unfold f_X10_areHeights_b15
    rw [nl10, nI_rem (by omega) (by omega), nI_div (by omega) (by omega), p10_s, show h / 10 ^ k % 10 = dg h k from rfl]
    rcases Nat.lt_or_ge k n with q | q
    · rw [dn1 (m := n - k) (by omega), dn2 (m := n - k) (by omega), if_neg (nI_pos (by omega))]
      by_cases z : ab k < dg h k
      · right
        rw [if_pos ((nI_ltI (by omega) (by omega)).mpr z)]
        exact ⟨_, rfl, Or.inr ⟨rfl, k, q, z⟩⟩
      · left
        rw [if_neg (fun w => z ((nI_ltI (by omega) (by omega)).mp w))]
        refine ⟨_, rfl, ⟨rfl, rfl, ?_, fun t ht => ?_⟩, q⟩
        · show nI (n - k - 1) - 1 = _
          rw [show n - k - 1 = n - (k + 1) by omega]
        · by_cases w : t = k
          · subst w; omega
          · exact H t (by omega)
    · right
      have : k = n := by omega
      subst this
      rw [show k - k = 0 by omega, if_pos (by decide)]
      exact ⟨_, rfl, Or.inl ⟨rfl, H⟩⟩
theorem stH {N n h : Nat} {v1 : Int32} {I : MI} (n1 : 1 ≤ n) (n6 : n ≤ 6) (hh : h < 2 ^ 31) (hN : 20 ≤ N) : ∃ J, f_X11_steps_l36 N v1 (nI n) (nI h) (nI n - 1) I = some (nI (h / 10 ^ n), J) ∧ (∀ i, i < n → J 127 i = nI (dg h (n - 1 - i))) ∧ fr (fun b j => b = 127) I J := by
  have key := loop_inv (f := fun s : Int32 × Int32 × MI => f_X11_steps_b36 N v1 (nI n) s.1 s.2.1 s.2.2) (fun k st => st.1 = nI (h / 10 ^ k) ∧ st.2.1 = nI (n - k) - 1 ∧ (∀ i, i < n → n ≤ i + k → st.2.2 127 i = nI (dg h (n - 1 - i))) ∧ fr (fun b j => b = 127) I st.2.2) (fun r => r.1 = nI (h / 10 ^ n) ∧ (∀ i, i < n → r.2 127 i = nI (dg h (n - 1 - i))) ∧ fr (fun b j => b = 127) I r.2) n ?_ ?_ N 0 (nI h, nI n - 1, I) (Nat.zero_le _) (by omega) ⟨by show nI h = _; rw [Nat.pow_zero, Nat.div_one], rfl, fun i hi hk => absurd hk (by omega), fr.rfl⟩
  · obtain ⟨⟨r, J⟩, e, e1, e2, e3⟩ := key
    simp only at e1
    subst e1
    exact ⟨J, e, e2, e3⟩
  · rintro k ⟨a, b, J⟩ hk ⟨e1, e2, w1, f1⟩
    simp only at e1 e2 w1 f1
    subst e1; subst e2
    have := p10_le h k
    refine ⟨(nI (h / 10 ^ (k + 1)), nI (n - (k + 1)) - 1, upI J 127 (n - k - 1) (nI (dg h k))), ?_, rfl, rfl, fun i hi hik => ?_, f1.trans (fr.up rfl)⟩
    · show f_X11_steps_b36 N v1 (nI n) (nI (h / 10 ^ k)) (nI (n - k) - 1) J = _
      unfold f_X11_steps_b36
      rw [nl10, nI_rem (by omega) (by omega), nI_div (by omega) (by omega), p10_s, dn1 (m := n - k) (by omega), dn2 (m := n - k) (by omega), if_neg (nI_pos (by omega)), if_pos (inb_nI (by omega) (by decide)), nI_clamp (by omega), show n - k - 1 = n - (k + 1) by omega]
      rfl
    · show upI J 127 (n - k - 1) _ 127 i = _
      rw [upI_at]
      by_cases q : i = n - k - 1
      · rw [if_pos q, show n - 1 - i = k by omega]
      · rw [if_neg q]; exact w1 i hi (by omega)
  · rintro ⟨a, b, J⟩ ⟨e1, e2, w1, f1⟩
    simp only at e1 e2 w1 f1
    subst e1; subst e2
    refine ⟨(nI (h / 10 ^ n), J), ?_, rfl, fun i hi => w1 i hi (by omega), f1⟩
    show f_X11_steps_b36 N v1 (nI n) (nI (h / 10 ^ n)) (nI (n - n) - 1) J = _
    unfold f_X11_steps_b36
    rw [show n - n = 0 by omega, if_pos (by decide)]
theorem stC {N n h : Nat} {v1 s0 : Int32} {I : MI} (n1 : 1 ≤ n) (n6 : n ≤ 6) (hI : ∀ i, i < n → I 127 i = nI (dg h (n - 1 - i))) (h0 : (s0 = 1 ∧ h / 10 ^ n = 0) ∨ (s0 = 0 ∧ ¬ h / 10 ^ n = 0)) (hN : 20 ≤ N) : (okH n h ∧ f_X11_steps_l81 N v1 (nI n) s0 0 I = some 1) ∨ (¬ okH n h ∧ f_X11_steps_l81 N v1 (nI n) s0 0 I = some 0) := by
  let cond : Nat → Prop := fun i => h / 10 ^ n = 0 ∧ ∀ t, t < i → dg h (n - 1 - t) ≤ n ∧ (t = 0 ∨ dg h (n - t) ≤ dg h (n - 1 - t))
  have dgl : ∀ k, dg h k ≤ 9 := fun k => by unfold dg; omega
  have key := loop_inv (f := fun s : Int32 × Int32 => f_X11_steps_b81 N v1 (nI n) s.1 s.2 I) (fun i st => st.2 = nI i ∧ ((st.1 = 1 ∧ cond i) ∨ (st.1 = 0 ∧ ¬ cond i))) (fun r => (r = 1 ∧ cond n) ∨ (r = 0 ∧ ¬ cond n)) n ?_ ?_ N 0 (s0, 0) (Nat.zero_le _) (by omega) ⟨nl0, ?_⟩
  · obtain ⟨r, e, H⟩ := key
    have hk : cond n ↔ okH n h := by
      constructor
      · rintro ⟨z, H⟩
        refine ⟨fun k hk => ?_, fun k hk => ?_, z⟩
        · have := (H (n - 1 - k) (by omega)).1
          rwa [show n - 1 - (n - 1 - k) = k by omega] at this
        · have := (H (n - 1 - k) (by omega)).2
          rcases this with q | q
          · omega
          · rwa [show n - (n - 1 - k) = k + 1 by omega, show n - 1 - (n - 1 - k) = k by omega] at q
      · rintro ⟨a, b, z⟩
        refine ⟨z, fun t ht => ⟨a _ (by omega), ?_⟩⟩
        by_cases q : t = 0
        · exact Or.inl q
        · right
          have := b (n - 1 - t) (by omega)
          rwa [show n - 1 - t + 1 = n - t by omega] at this
    rw [← hk]
    rcases H with ⟨rfl, H⟩ | ⟨rfl, H⟩
    · exact Or.inl ⟨H, e⟩
    · exact Or.inr ⟨H, e⟩
  · rintro i ⟨a, b⟩ hi ⟨e1, H⟩
    simp only at e1 H
    subst e1
    show ∃ s', f_X11_steps_b81 N v1 (nI n) a (nI i) I = _ ∧ _
    have ii : inb (nI i) 6 = true := inb_nI (by omega) (by decide)
    unfold f_X11_steps_b81
    rw [if_pos ((nI_ltI (by omega) (by omega)).mpr hi)]
    rcases H with ⟨rfl, H⟩ | ⟨rfl, H⟩
    · rw [if_neg (by decide), if_pos ii, nI_clamp (by omega), hI i hi]
      have d1 := dgl (n - 1 - i)
      by_cases q : n < dg h (n - 1 - i)
      · rw [if_pos ((nI_ltI (by omega) (by omega)).mpr q)]
        exact ⟨_, rfl, nI_1 _, Or.inr ⟨rfl, fun w => by have := (w.2 i (by omega)).1; omega⟩⟩
      · rw [if_neg (nI_le0 (by omega) (by omega))]
        by_cases z : i = 0
        · subst z
          rw [if_pos nl0.symm]
          exact ⟨_, rfl, nI_1 _, Or.inl ⟨rfl, H.1, fun t ht => ⟨by rw [show t = 0 by omega]; omega, Or.inl (by omega)⟩⟩⟩
        · have em : nI i - 1 = nI (i - 1) := dn2 (by omega)
          have d2 := dgl (n - i)
          rw [if_neg (by rw [nl0, nI_eq (by omega) (by omega)]; exact z), if_pos ii, em, if_pos (inb_nI (by omega) (by decide)), nI_clamp (by omega), hI (i - 1) (by omega), show n - 1 - (i - 1) = n - i by omega]
          by_cases w : dg h (n - 1 - i) < dg h (n - i)
          · rw [if_pos ((nI_ltI (by omega) (by omega)).mpr w)]
            exact ⟨_, rfl, nI_1 _, Or.inr ⟨rfl, fun u => by have := (u.2 i (by omega)).2; omega⟩⟩
          · rw [if_neg (nI_le0 (by omega) (by omega))]
            refine ⟨_, rfl, nI_1 _, Or.inl ⟨rfl, H.1, fun t ht => ?_⟩⟩
            by_cases u : t = i
            · subst u; exact ⟨by omega, Or.inr (by omega)⟩
            · exact H.2 t (by omega)
    · rw [if_pos rfl]
      exact ⟨_, rfl, nI_1 _, Or.inr ⟨rfl, fun w => H ⟨w.1, fun t ht => w.2 t (by omega)⟩⟩⟩
  · rintro ⟨a, b⟩ ⟨e1, H⟩
    simp only at e1 H
    subst e1
    refine ⟨a, ?_, H⟩
    show f_X11_steps_b81 N v1 (nI n) a (nI n) I = _
    unfold f_X11_steps_b81
    rw [if_neg (nI_le0 (by omega) (Nat.le_refl _))]
  · rcases h0 with ⟨a, b⟩ | ⟨a, b⟩
    · exact Or.inl ⟨a, b, fun t ht => absurd ht (by omega)⟩
    · exact Or.inr ⟨a, fun w => b w.1⟩
theorem stR {N n h w : Nat} {I : MI} (hw : w < 6) (n6 : n ≤ 6) (hI : ∀ i, i < n → I 127 i = nI (dg h (n - 1 - i))) (hk : ∀ k, k < n → dg h k ≤ n) (hN : 20 ≤ N) : ∃ J, f_X11_steps_l157 N (nI w) (nI n) 0 I = some J ∧ (∀ i, i < n → J 104 (6 * w + i) = nI (2 ^ dg h (n - 1 - i) - 1)) ∧ fr (fun b j => b = 104 ∧ 6 * w ≤ j ∧ j < 6 * w + 6) I J := by
  refine loop_inv (f := fun s : Int32 × MI => f_X11_steps_b157 N (nI w) (nI n) s.1 s.2) (fun k st => st.1 = nI k ∧ (∀ i, i < k → st.2 104 (6 * w + i) = nI (2 ^ dg h (n - 1 - i) - 1)) ∧ fr (fun b j => b = 104 ∧ 6 * w ≤ j ∧ j < 6 * w + 6) I st.2) _ n ?_ ?_ N 0 (0, I) (Nat.zero_le _) (by omega) ⟨nl0, fun i hi => absurd hi (by omega), fr.rfl⟩
  · rintro k ⟨c, J⟩ hk' ⟨e1, w1, f1⟩
    simp only at e1 w1 f1
    subst e1
    refine ⟨(nI (k + 1), upI J 104 (6 * w + k) (nI (2 ^ dg h (n - 1 - k) - 1))), ?_, rfl, fun i hi => ?_, f1.trans (fr.up ⟨rfl, by omega, by omega⟩)⟩
    · show f_X11_steps_b157 N (nI w) (nI n) (nI k) J = _
      have := hk (n - 1 - k) (by omega)
      unfold f_X11_steps_b157
      rw [if_pos ((nI_ltI (by omega) (by omega)).mpr hk'), if_pos (inb_nI (by omega) (by decide)), m6, if_pos (inb_nI (by omega) (by decide)), nI_clamp (by omega), nI_clamp (by omega), f1 127 k (by omega), hI k hk', fullm _ (by omega), nI_1]
      rfl
    · show upI J 104 (6 * w + k) _ 104 (6 * w + i) = _
      rw [upI_at]
      by_cases q : i = k
      · rw [if_pos (by omega), q]
      · rw [if_neg (by omega)]; exact w1 i (by omega)
  · rintro ⟨c, J⟩ ⟨e1, w1, f1⟩
    simp only at e1 w1 f1
    subst e1
    refine ⟨J, ?_, w1, f1⟩
    show f_X11_steps_b157 N (nI w) (nI n) (nI n) J = _
    unfold f_X11_steps_b157
    rw [if_neg (nI_le0 (by omega) (Nat.le_refl _))]
theorem stB {N n h a : Nat} {I : MI} (ha : a < 49) (n1 : 1 ≤ n) (n6 : n ≤ 6) (hh : h < 2 ^ 31) (hk : ∀ k, k < n → dg h k ≤ n) (hN : 20 ≤ N) : ∃ J, f_X0_becomeSteps N a (nI n) (nI h) I = some J ∧ BC J a n (fun i => 2 ^ dg h (n - 1 - i) - 1) ∧ fr (fun b j => b = a ∨ b = a + 1) I J := by
  obtain ⟨I1, a1, a2, a3, a4⟩ := clean_spec (N := N) (n := n) (a := a) (v := nI n) (I := I) hN (by omega)
  have key := loop_inv (f := fun s : Int32 × MI => f_X0_becomeSteps_b7 N a (nI n) (nI h) s.1 s.2) (fun k st => st.1 = nI k ∧ (∀ i, i < k → st.2 (a + 1) i = nI (2 ^ dg h (n - 1 - i) - 1)) ∧ fr (fun b j => b = a + 1) I1 st.2) (fun J => (∀ i, i < n → J (a + 1) i = nI (2 ^ dg h (n - 1 - i) - 1)) ∧ fr (fun b j => b = a + 1) I1 J) n ?_ ?_ N 0 (0, I1) (Nat.zero_le _) (by omega) ⟨nl0, fun i hi => absurd hi (by omega), fr.rfl⟩
  · obtain ⟨J, e, q1, q2⟩ := key
    refine ⟨J, ?_, ⟨by rw [q2 _ _ (by omega), a2], q1⟩, a4.trans (q2.mono (fun b j h => Or.inr h))⟩
    unfold f_X0_becomeSteps f_X0_becomeSteps_l7
    rw [bnd1_some a1, bnd1_some e]
  · rintro k ⟨c, J⟩ hk' ⟨e1, w1, f1⟩
    simp only at e1 w1 f1
    subst e1
    refine ⟨(nI (k + 1), upI J (a + 1) k (nI (2 ^ dg h (n - 1 - k) - 1))), ?_, rfl, fun i hi => ?_, f1.trans (fr.up rfl)⟩
    · show f_X0_becomeSteps_b7 N a (nI n) (nI h) (nI k) J = _
      have := hk (n - 1 - k) (by omega)
      unfold f_X0_becomeSteps_b7
      rw [if_pos ((nI_ltI (by omega) (by omega)).mpr hk'), dn2 n1, nI_sub (by omega), bnd1_some (digC hh (by omega) hN), if_pos (inb_nI (by omega) (by decide)), nI_clamp (by omega), fullm _ (by omega), nI_1]
      rfl
    · show upI J (a + 1) k _ (a + 1) i = _
      rw [upI_at]
      by_cases q : i = k
      · rw [if_pos q, q]
      · rw [if_neg q]; exact w1 i (by omega)
  · rintro ⟨c, J⟩ ⟨e1, w1, f1⟩
    simp only at e1 w1 f1
    subst e1
    refine ⟨J, ?_, w1, f1⟩
    show f_X0_becomeSteps_b7 N a (nI n) (nI h) (nI n) J = _
    unfold f_X0_becomeSteps_b7
    rw [if_neg (nI_le0 (by omega) (Nat.le_refl _))]
section SB2
variable {PL : MX → MI → ML → Prop} {PA : MI → Prop} {N : Nat} {X : MX} {I I' : MI} {L : ML}
/-- a BOARD is made anew on both sides -/
theorem become2 (hPL : frPL PL) (hPA : frPA PA) (hN : 20 ≤ N) (hI : Inv0 PL PA X I L) {w : Nat} (hw : w < 6) {n : Nat} {r : Nat → Nat} (n1 : 1 ≤ n) (n6 : n ≤ 6) (hr : ∀ i, i < n → r i < 2 ^ n) {J K : MI} (hc : BC J (12 + 4 * w) n r) (hf : fr (fun b j => b = 12 + 4 * w ∨ b = 13 + 4 * w) I J) (hm : BM K 103 104 w n r) (z : K 99 9 = 0)
    (hk : fr (fun b j => scr b j ∨ (b = 103 ∧ j = w) ∨ (b = 104 ∧ 6 * w ≤ j ∧ j < 6 * w + 6) ∨ (b = 99 ∧ j = 9)) (upI J 67 4 0) K) : f_X0_cells N (12 + 4 * w) (upI J 67 4 0) = some (nI (cs r n)) ∧ f_X11_cells N (nI w) K = some (nI (cs r n)) ∧ Inv0 PL PA X K L := by
  have t6 := two_le n6
  have hc2 : BC (upI J 67 4 0) (12 + 4 * w) n r := ⟨by rw [upI_ne _ _ (by omega)]; exact hc.1, fun i hi => by rw [upI_ne _ _ (by omega)]; exact hc.2 i hi⟩
  refine ⟨cellsC hc2 n6 (fun i hi => by have := hr i hi; omega) hN, cellsM hw hm n6 (fun i hi => by have := hr i hi; omega) hN, inv_board hPL hPA hI hw ((hf.mono (S' := fun b j => scr b j ∨ sB w b j) (fun b j h => by unfold sB; omega)).trans ((fr.up (by unfold sB; omega)).trans (hk.mono (fun b j h => by unfold scr sB at *; omega)))) ⟨n, r, n1, n6, hr, ⟨?_, fun i hi => ?_⟩, hm⟩ ?_ z⟩
  · rw [hk _ _ (by unfold scr; omega)]; exact hc2.1
  · rw [hk _ _ (by unfold scr; omega)]; exact hc2.2 i hi
  · rw [hk _ _ (by unfold scr; omega), upI_eq]
theorem s_steps (hPL : frPL PL) (hPA : frPA PA) (hN : 20 ≤ N) : S_steps N (Inv0 PL PA) := by
  intro X I L x1 x2 x3 hI
  rcases six_cases x1 with ⟨w, hw, rfl, e1, e2⟩ | ⟨e1, e2⟩
  · have iw : inb (nI w) 6 = true := inb_nI hw (by decide)
    have cw : Int32.toNatClampNeg (nI w) = w := nI_clamp (by omega)
    rcases side_cases x2 with ⟨n, n1, n6, rfl, e3, e4⟩ | ⟨e3, e4⟩
    · by_cases h0 : x3 < 0
      · refine ⟨-2, I, I, ?_, ?_, hI⟩
        · unfold f_X10_steps f_X10_areHeights; rw [bnd1_some e1, if_neg (by decide), bnd1_some e3, if_neg (by decide), if_pos h0, bnd1_some rfl, if_pos rfl]
        · unfold f_X11_steps; rw [bnd1_some e2, if_neg (by decide), bnd1_some e4, if_neg (by decide), if_pos h0]
      · obtain ⟨h, hh, rfl⟩ := nI_of h0
        have pl := p10_le h n
        rcases areH (N := N) n6 hh hN with ⟨ok, b1⟩ | ⟨no, b1⟩
        · obtain ⟨J, c1, c2, c3⟩ := stB (N := N) (a := 12 + 4 * w) (I := I) (by omega) n1 n6 hh ok.1 hN
          obtain ⟨K1, d1, d2, d3⟩ := stH (N := N) (v1 := nI w) (I := upI J 67 4 0) n1 n6 hh hN
          have g1 : f_X11_steps_l81 N (nI w) (nI n) 1 0 K1 = some 1 := by
            rcases stC (N := N) (v1 := nI w) (s0 := 1) n1 n6 d2 (Or.inl ⟨rfl, ok.2.2⟩) hN with ⟨_, g⟩ | ⟨g, _⟩
            · exact g
            · exact absurd ok g
          obtain ⟨K2, k1, k2, k3, k4, k5⟩ := bare_spec (N := N) (w := w) (v := nI n) (I := K1) hw hN
          obtain ⟨K3, l1, l2, l3⟩ := stR (N := N) (h := h) (I := K2) hw n6 (fun i hi => by rw [k5 _ _ (by omega)]; exact d2 i hi) ok.1 hN
          obtain ⟨m1, m2, m3⟩ := become2 (N := N) hPL hPA hN hI hw (r := fun i => 2 ^ dg h (n - 1 - i) - 1) (J := J) (K := K3) n1 n6 (fun i hi => by
            have := Nat.pow_le_pow_right (show 0 < 2 by omega) (ok.1 (n - 1 - i) (by omega))
            have := Nat.two_pow_pos (dg h (n - 1 - i))
            show 2 ^ dg h (n - 1 - i) - 1 < 2 ^ n
            omega) c2 (c3.mono (fun b j q => by omega)) ⟨by rw [l3 _ _ (by omega)]; exact k2, l2⟩ (by rw [l3 _ _ (by omega)]; exact k4) ((d3.mono (fun b j q => by unfold scr; omega)).trans ((k5.mono (fun b j q => by omega)).trans (l3.mono (fun b j q => by omega))))
          refine ⟨nI (cs (fun i => 2 ^ dg h (n - 1 - i) - 1) n), upI J 67 4 0, K3, ?_, ?_, m3⟩
          · unfold f_X10_steps
            rw [bnd1_some e1, if_neg (by decide), bnd1_some e3, if_neg (by decide), bnd1_some b1, if_neg (by decide), if_pos iw, cw, bnd1_some c1, bnd1_some (show f_X1_forget J = some (upI J 67 4 0) from rfl), bnd1_some m1]
          · unfold f_X11_steps f_X11_steps_j76
            rw [bnd1_some e2, if_neg (by decide), bnd1_some e4, if_neg (by decide), if_neg h0, bnd2_some d1, ok.2.2, if_pos nl0.symm, bnd1_some g1, if_neg (by decide), bnd1_some k1, bnd1_some l1, bnd1_some m2]
        · obtain ⟨K1, d1, d2, d3⟩ := stH (N := N) (v1 := nI w) (I := I) n1 n6 hh hN
          refine ⟨-2, I, K1, ?_, ?_, inv_scr hPL hPA hI (d3.mono (fun b j q => by unfold scr; omega)) frL.rfl⟩
          · unfold f_X10_steps; rw [bnd1_some e1, if_neg (by decide), bnd1_some e3, if_neg (by decide), bnd1_some b1, if_pos rfl]
          · unfold f_X11_steps f_X11_steps_j76
            rw [bnd1_some e2, if_neg (by decide), bnd1_some e4, if_neg (by decide), if_neg h0, bnd2_some d1]
            by_cases z : h / 10 ^ n = 0
            · have g1 : f_X11_steps_l81 N (nI w) (nI n) 1 0 K1 = some 0 := by
                rcases stC (N := N) (v1 := nI w) (s0 := 1) n1 n6 d2 (Or.inl ⟨rfl, z⟩) hN with ⟨g, _⟩ | ⟨_, g⟩
                · exact absurd g no
                · exact g
              rw [z, if_pos nl0.symm, bnd1_some g1, if_pos rfl]
            · have g1 : f_X11_steps_l81 N (nI w) (nI n) 0 0 K1 = some 0 := by
                rcases stC (N := N) (v1 := nI w) (s0 := 0) n1 n6 d2 (Or.inr ⟨rfl, z⟩) hN with ⟨g, _⟩ | ⟨_, g⟩
                · exact absurd g no
                · exact g
              rw [if_neg (by rw [nl0, nI_eq (by omega) (by omega)]; exact z), bnd1_some g1, if_pos rfl]
    · refine ⟨-2, I, I, ?_, ?_, hI⟩
      · unfold f_X10_steps; rw [bnd1_some e1, if_neg (by decide), bnd1_some e3, if_pos rfl]
      · unfold f_X11_steps; rw [bnd1_some e2, if_neg (by decide), bnd1_some e4, if_pos rfl]
  · refine ⟨-1, I, I, ?_, ?_, hI⟩
    · unfold f_X10_steps; rw [bnd1_some e1, if_pos rfl]
    · unfold f_X11_steps; rw [bnd1_some e2, if_pos rfl]
end SB2
