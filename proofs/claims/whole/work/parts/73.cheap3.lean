/-! ===== cheapest ===== -/
section CH3
variable {r W : Nat → Nat} {N n k w : Nat} {e : Nat → Nat} {K : MI}
theorem fl_mono : ∀ {a b : Nat}, a ≤ b → fl n a ≤ fl n b
  | 0, b, _ => Nat.zero_le _
  | a + 1, 0, h => by omega
  | a + 1, b + 1, h => by
    rw [fl, fl]
    have := Nat.mul_le_mul_left (n + 1) (Nat.add_le_add_left (fl_mono (a := a) (b := b) (by omega)) 1)
    omega
theorem mu_le : ∀ {m : Nat}, m ≤ n → mu n e m ≤ m * fl n n
  | 0, _ => Nat.zero_le _
  | m + 1, h => by
    rw [mu, Nat.succ_mul]
    have h1 := mu_le (m := m) (by omega)
    have h2 : (n + 1 - e m) * (1 + fl n (n - (m + 1))) ≤ (n + 1) * (1 + fl n (n - (m + 1))) := Nat.mul_le_mul_right _ (by omega)
    have h3 : fl n (n - (m + 1) + 1) ≤ fl n n := fl_mono (by omega)
    rw [fl] at h3
    omega
theorem goes {i : Nat} (hw : w < 6) (n1 : 1 ≤ n) (n6 : n ≤ 6) (hk : k < 2 ^ 31) (hr : ∀ i, i < n → r i < 2 ^ n) (hW : ∀ p, W p ≤ 9) (hi : i < n) (ho : okW r W n w K) (hg : GS n W e i K) (hN : 1000000 ≤ N) : (Qs r n k e (i + 1) = [] ∧ ∃ K', f_X11_goesOn N (nI w) (nI k) K = some (0, K') ∧ fr fG K K') ∨ (∃ e' K', Qs r n k e (i + 1) = pre e' n :: Qs r n k e' n ∧ f_X11_goesOn N (nI w) (nI k) K = some (1, K') ∧ GS n W e' (n - 1) K' ∧ (∀ j, j < n → 1 ≤ e' j) ∧ fr fG K K') := by
  have iw : inb (nI w) 6 = true := inb_nI hw (by decide)
  have cw : Int32.toNatClampNeg (nI w) = w := nI_clamp (by omega)
  have m1 := mu_le (n := n) (e := e) (m := i + 1) (by omega)
  have m2 := fl_le n (by omega)
  have m3 : (i + 1) * fl n n ≤ 6 * 156864 := Nat.mul_le_mul (by omega) m2
  unfold f_X11_goesOn f_X11_goesOn_l7
  rw [if_pos iw, cw, ho.1.1]
  rcases go_loop (N := N) (k := k) hw n1 n6 hk hr hW (by omega) (mu n e (i + 1)) i e K N hi ho hg (Nat.le_refl _) (by omega) with ⟨c1, K', c2, _, c4⟩ | ⟨e', K', c1, c2, c3, c4, c5⟩
  · left
    rw [bns1_inl c2]
    exact ⟨c1, K', rfl, c4⟩
  · right
    rw [bns1_inr c2]
    exact ⟨e', K', c1, rfl, c3, c4, c5⟩
theorem pre_len : ∀ {m : Nat}, (pre e m).length = m
  | 0 => rfl
  | m + 1 => by rw [pre, List.length_append, pre_len]; rfl
theorem pre_get : ∀ {m j : Nat}, j < m → (pre e m).getD j 0 = e j - 1
  | 0, j, h => by omega
  | m + 1, j, h => by
    have pl := pre_len (e := e) (m := m)
    rw [pre, List.getD_eq_getElem?_getD]
    by_cases z : j < m
    · rw [List.getElem?_append_left (by omega), ← List.getD_eq_getElem?_getD]
      exact pre_get z
    · rw [List.getElem?_append_right (by omega), show j - (pre e m).length = 0 by omega, show j = m by omega]
      rfl
theorem wl_end {l : List Nat} : ∀ {j : Nat} {c : Nat}, wl n W j (l ++ [c]) = wl n W j l + (if c < n then W (6 * (j + l.length) + c) else 0) := by
  induction l with
  | nil => intro j c; simp [wl]
  | cons d l ih =>
    intro j c
    rw [List.cons_append, wl, wl, ih, List.length_cons, show j + 1 + l.length = j + (l.length + 1) by omega]
    omega
theorem wl_pre : ∀ {m : Nat}, (∀ j, j < m → 1 ≤ e j) → wl n W 0 (pre e m) = wt n W e m
  | 0, _ => rfl
  | m + 1, h => by
    have := h m (by omega)
    rw [pre, wl_end, wl_pre (fun j hj => h j (by omega)), wt, pre_len, Nat.zero_add]
    by_cases z : e m ≤ n
    · rw [if_pos (by omega), if_pos ⟨this, z⟩]
    · rw [if_neg (by omega), if_neg (by omega)]
theorem madeM (n6 : n ≤ 6) (hN : 20 ≤ N) : ∃ K', f_X11_layMade N (nI n) K = some K' ∧ (∀ j, j < n → K' 128 j = K 134 j) ∧ fr (fun b j => b = 128) K K' := by
  have key := loop_inv (f := fun s : Int32 × MI => f_X11_layMade_b2 N (nI n) s.1 s.2) (fun m st => st.1 = nI m ∧ (∀ j, j < m → st.2 128 j = K 134 j) ∧ fr (fun b j => b = 128) K st.2) (fun K' => (∀ j, j < n → K' 128 j = K 134 j) ∧ fr (fun b j => b = 128) K K') n ?_ ?_ N 0 (0, K) (Nat.zero_le _) (by omega) ⟨nl0, fun j hj => absurd hj (by omega), fr.rfl⟩
  · obtain ⟨K', e, p1, p2⟩ := key
    refine ⟨K', ?_, p1, p2⟩
    unfold f_X11_layMade f_X11_layMade_l2
    exact bnd1_some e
  · rintro m ⟨c, J⟩ hm ⟨e1, w1, f1⟩
    simp only at e1 w1 f1
    subst e1
    refine ⟨(nI (m + 1), upI J 128 m (K 134 m)), ?_, rfl, fun j hj => ?_, f1.trans (fr.up rfl)⟩
    · show f_X11_layMade_b2 N (nI n) (nI m) J = _
      unfold f_X11_layMade_b2
      rw [if_pos ((nI_ltI (by omega) (by omega)).mpr hm), if_pos (inb_nI (by omega) (by decide)), if_pos (inb_nI (by omega) (by decide)), nI_clamp (by omega), f1 134 m (by omega), nI_1]
      rfl
    · show upI J 128 m (K 134 m) 128 j = _
      rw [upI_at]
      by_cases z : j = m
      · rw [if_pos z, z]
      · rw [if_neg z]; exact w1 j (by omega)
  · rintro ⟨c, J⟩ ⟨e1, w1, f1⟩
    simp only at e1 w1 f1
    subst e1
    refine ⟨J, ?_, w1, f1⟩
    show f_X11_layMade_b2 N (nI n) (nI n) J = _
    unfold f_X11_layMade_b2
    rw [if_neg (nI_le0 (by omega) (Nat.le_refl _))]
def fH (b j : Nat) : Prop := fG b j ∨ b = 128
def bst (n : Nat) (W : Nat → Nat) (b : Option (List Nat)) (v : Int32) (K : MI) : Prop := (b = none ∧ v = -1) ∨ ∃ p, b = some p ∧ p.length = n ∧ v = nI (wl n W 0 p) ∧ ∀ j, j < n → K 128 j = nI (p.getD j 0)
theorem GS_fr {i : Nat} {K' : MI} (h : GS n W e i K) (f : fr (fun b j => b = 128) K K') : GS n W e i K' := by
  obtain ⟨h1, h2, h3, h4, h5, h6, h7⟩ := h
  exact ⟨by rw [f _ _ (by omega)]; exact h1, fun j hj => by rw [f _ _ (by omega)]; exact h2 j hj, h3, by rw [f _ _ (by omega)]; exact h4, by rw [f _ _ (by omega)]; exact h5, by rw [f _ _ (by omega)]; exact h6, h7⟩
theorem chM (hw : w < 6) (n1 : 1 ≤ n) (n6 : n ≤ 6) (hk : k ≤ n) (hr : ∀ i, i < n → r i < 2 ^ n) (hW : ∀ p, W p ≤ 9) (hN : 1000000 ≤ N) {v3 : Int32} : ∀ (Q : List (List Nat)) (i : Nat) (e : Nat → Nat) (K : MI) (b : Option (List Nat)) (v5 : Int32) (M : Nat), i < n → okW r W n w K → GS n W e i K → Qs r n k e (i + 1) = Q → Q.length < M → bst n W b v5 K → ∃ v' K', loopN (fun s : Int32 × MI => f_X11_cheapest_b51 N (nI w) (nI k) v3 (nI n) s.1 s.2) M (v5, K) = some (v', K') ∧ bst n W (fsm (wl n W 0) b Q) v' K' ∧ fr fH K K' := by
  intro Q
  induction Q with
  | nil =>
    intro i e K b v5 M hi ho hg hQ hM hb
    obtain ⟨M', rfl⟩ : ∃ M', M = M' + 1 := ⟨M - 1, by omega⟩
    rcases goes (N := N) (k := k) hw n1 n6 (by omega) hr hW hi ho hg hN with ⟨c1, K', c2, c3⟩ | ⟨e', K', c1, _⟩
    · refine ⟨v5, K', loopN_inr ?_, ?_, c3.mono (fun b j h => Or.inl h)⟩
      · show f_X11_cheapest_b51 N (nI w) (nI k) v3 (nI n) v5 K = _
        unfold f_X11_cheapest_b51
        rw [if_neg (nI_le0 (by omega) hk), bnd2_some c2, if_pos rfl]
      · have : fsm (wl n W 0) b [] = b := by cases b <;> rfl
        rw [this]
        rcases hb with hb | ⟨p, p1, p2, p3, p4⟩
        · exact Or.inl hb
        · exact Or.inr ⟨p, p1, p2, p3, fun j hj => by rw [c3 _ _ (by unfold fG; omega)]; exact p4 j hj⟩
    · rw [c1] at hQ; exact absurd hQ (by simp)
  | cons q Q ih =>
    intro i e K b v5 M hi ho hg hQ hM hb
    obtain ⟨M', rfl⟩ : ∃ M', M = M' + 1 := ⟨M - 1, by omega⟩
    rw [List.length_cons] at hM
    rcases goes (N := N) (k := k) hw n1 n6 (by omega) hr hW hi ho hg hN with ⟨c1, _⟩ | ⟨e', K1, c1, c2, c3, c4, c5⟩
    · rw [c1] at hQ; exact absurd hQ (by simp)
    · rw [c1] at hQ
      injection hQ with hq hQ'
      subst hq
      have ho1 := okW_fr ho c5
      obtain ⟨h1, h2, h3, h4, h5, h6, h7⟩ := c3
      have en : n - 1 + 1 = n := by omega
      have e45 : K1 99 45 = nI (wl n W 0 (pre e' n)) := by rw [h6, en, wl_pre c4]
      have wb := wl_le (n := n) hW (q := pre e' n) (j := 0)
      rw [pre_len] at wb
      obtain ⟨K2, d1, d2, d3⟩ := madeM (N := N) (K := K1) n6 (by omega)
      have d2' : ∀ j, j < n → K2 128 j = nI ((pre e' n).getD j 0) := fun j hj => by
        rw [d2 j hj, (h2 j (by omega)).1, pre_get hj, dn2 (c4 j hj)]
      have ho2 : okW r W n w K2 := ⟨BM_fr d3 (fun _ => by omega) (fun _ => by omega) ho1.1, fun p hp => by rw [d3 _ _ (by omega)]; exact ho1.2 p hp⟩
      have g2 : GS n W e' (n - 1) K2 := GS_fr ⟨h1, h2, h3, h4, h5, h6, h7⟩ d3
      have f2 : fr fH K K2 := (c5.mono (fun b j h => Or.inl h)).trans (d3.mono (fun b j h => Or.inr h))
      have f1 : fr fH K K1 := c5.mono (fun b j h => Or.inl h)
      have new : bst n W (some (pre e' n)) (nI (wl n W 0 (pre e' n))) K2 := Or.inr ⟨_, rfl, pre_len, rfl, d2'⟩
      have take : f_X11_cheapest_b51 N (nI w) (nI k) v3 (nI n) v5 K = some (.inl (nI (wl n W 0 (pre e' n)), K2)) → ∃ v' K', loopN (fun s : Int32 × MI => f_X11_cheapest_b51 N (nI w) (nI k) v3 (nI n) s.1 s.2) (M' + 1) (v5, K) = some (v', K') ∧ bst n W (fsm (wl n W 0) (some (pre e' n)) Q) v' K' ∧ fr fH K K' := fun hb => by
        rw [loopN_inl hb]
        obtain ⟨v', K', y1, y2, y3⟩ := ih (n - 1) e' K2 (some (pre e' n)) _ M' (by omega) ho2 g2 (by rw [en]; exact hQ') (by omega) new
        exact ⟨v', K', y1, y2, f2.trans y3⟩
      rcases hb with ⟨rfl, rfl⟩ | ⟨p, rfl, p2, rfl, p4⟩
      · refine take ?_
        unfold f_X11_cheapest_b51
        rw [if_neg (nI_le0 (by omega) hk), bnd2_some c2, if_neg (by decide), if_pos (by decide), bnd1_some d1, e45]
      · have wb2 := wl_le (n := n) hW (q := p) (j := 0)
        by_cases z : wl n W 0 (pre e' n) < wl n W 0 p
        · obtain ⟨v', K', y1, y2, y3⟩ := take (by
            unfold f_X11_cheapest_b51
            rw [if_neg (nI_le0 (by omega) hk), bnd2_some c2, if_neg (by decide), if_neg (nI_pos (by omega)), e45, if_pos ((nI_ltI (by omega) (by omega)).mpr z), bnd1_some d1])
          refine ⟨v', K', y1, ?_, y3⟩
          show bst n W (if wl n W 0 (pre e' n) < wl n W 0 p then fsm (wl n W 0) (some (pre e' n)) Q else fsm (wl n W 0) (some p) Q) v' K'
          rw [if_pos z]; exact y2
        · have hb' : f_X11_cheapest_b51 N (nI w) (nI k) v3 (nI n) (nI (wl n W 0 p)) K = some (.inl (nI (wl n W 0 p), K1)) := by
            unfold f_X11_cheapest_b51
            rw [if_neg (nI_le0 (by omega) hk), bnd2_some c2, if_neg (by decide), if_neg (nI_pos (by omega)), e45, if_neg (nI_le0 (by omega) (by omega))]
          rw [loopN_inl hb']
          obtain ⟨v', K', y1, y2, y3⟩ := ih (n - 1) e' K1 (some p) _ M' (by omega) ho1 ⟨h1, h2, h3, h4, h5, h6, h7⟩ (by rw [en]; exact hQ') (by omega) (Or.inr ⟨p, rfl, p2, rfl, fun j hj => by rw [c5 _ _ (by unfold fG; omega)]; exact p4 j hj⟩)
          refine ⟨v', K', y1, ?_, f1.trans y3⟩
          show bst n W (if wl n W 0 (pre e' n) < wl n W 0 p then fsm (wl n W 0) (some (pre e' n)) Q else fsm (wl n W 0) (some p) Q) v' K'
          rw [if_neg z]; exact y2
/-- the walk's beginning -/
theorem begin_both (n1 : 1 ≤ n) (K : MI) : ∃ K', f_X11_begin K = some K' ∧ GS n W (fun _ => 0) 0 K' ∧ fr fG K K' := by
  refine ⟨upI (upI (upI (upI (upI K 99 43 0) 99 44 0) 99 45 0) 99 46 0) 134 0 (-1), ?_, ⟨?_, fun j hj => ?_, fun j hj => absurd hj (by omega), ?_, ?_, ?_, fun j hj h => absurd h.1 (by show ¬ 1 ≤ 0; omega)⟩, ?_⟩
  · unfold f_X11_begin
    simp only [letv]
    rw [if_pos (by decide), show Int32.toNatClampNeg 0 = 0 by decide]
  · rw [upI_ne _ _ (by omega), upI_eq]; exact nl0
  · rw [show j = 0 by omega, upI_eq]; exact ⟨by decide, Nat.zero_le _⟩
  · rw [upI_ne _ _ (by omega), upI_ne _ _ (by omega), upI_ne _ _ (by omega), upI_ne _ _ (by omega), upI_eq]; exact nl0
  · rw [upI_ne _ _ (by omega), upI_ne _ _ (by omega), upI_ne _ _ (by omega), upI_eq]; exact nl0
  · rw [upI_ne _ _ (by omega), upI_ne _ _ (by omega), upI_eq]; exact nl0
  · exact (fr.up (S := fG) (by unfold fG; omega)).trans ((fr.up (S := fG) (by unfold fG; omega)).trans ((fr.up (S := fG) (by unfold fG; omega)).trans ((fr.up (S := fG) (by unfold fG; omega)).trans (fr.up (S := fG) (by unfold fG; omega)))))
theorem Qs_start (n1 : 1 ≤ n) : Qs r n k (fun _ => 0) (0 + 1) = al r n k n 0 := by
  obtain ⟨m, rfl⟩ : ∃ m, n = m + 1 := ⟨n - 1, by omega⟩
  rw [Qs, Qs, al_blk, List.append_nil]
  simp only [mk, pre, Nat.sub_zero, Nat.zero_add, Nat.add_sub_cancel]
  simp
theorem al_length : ∀ {rem mask : Nat}, (al r n k rem mask).length ≤ (n + 1) ^ rem
  | 0, mask => by rw [al]; split <;> simp
  | rem + 1, mask => by
    rw [al_blk]
    have bl : ∀ c, (blk r n k rem mask c).length ≤ (n + 1) ^ rem := fun c => by
      unfold blk
      split
      · split
        · rw [List.length_map]; exact al_length
        · exact Nat.zero_le _
      · rw [List.length_map]; exact al_length
    have : ∀ m c, (seg (blk r n k rem mask) c m).length ≤ m * (n + 1) ^ rem := by
      intro m
      induction m with
      | zero => intro c; simp [seg]
      | succ m ih =>
        intro c
        rw [seg, List.length_append, Nat.succ_mul]
        have := ih (c + 1)
        have := bl c
        omega
    rw [Nat.pow_succ, Nat.mul_comm]
    exact this (n + 1) 0
theorem pow_small : ∀ n, n < 7 → (n + 1) ^ n ≤ 117649 := by decide +kernel
end CH3
section SCH
variable {PL : MX → MI → ML → Prop} {PA : MI → Prop} {N : Nat}
theorem Inv0.t' {X : MX} {I : MI} {L : ML} (hI : Inv0 PL PA X I L) : ∃ W : Nat → Nat, (∀ p, W p ≤ 9) ∧ ∀ p, p < 36 → I 7 p = nI (W p) ∧ I 105 p = nI (W p) := by
  refine ⟨fun p => if p < 36 then Int32.toNatClampNeg (I 7 p) else 0, fun p => ?_, fun p hp => ?_⟩
  · show (if p < 36 then _ else _) ≤ 9
    split
    · rename_i hp
      obtain ⟨k, hk, k1, _⟩ := hI.t p hp
      rw [k1, nI_clamp (by omega)]; exact hk
    · omega
  · obtain ⟨k, hk, k1, k2⟩ := hI.t p hp
    show I 7 p = nI (if p < 36 then _ else _) ∧ I 105 p = nI (if p < 36 then _ else _)
    rw [if_pos hp, k1, nI_clamp (by omega)]
    exact ⟨rfl, k2⟩
/-- an argument that may be -1 or a row -/
theorem row_cases {n : Nat} (v : Int32) (n1 : 1 ≤ n) (n6 : n ≤ 6) : (v = -1 ∧ f_X11_in (Int32.toInt64 v) (-1) (Int32.toInt64 (nI n - 1)) = some 1) ∨ (∃ x, x < n ∧ v = nI x ∧ f_X11_in (Int32.toInt64 v) (-1) (Int32.toInt64 (nI n - 1)) = some 1) ∨ ((v < -1 ∨ ¬ v < nI n) ∧ f_X11_in (Int32.toInt64 v) (-1) (Int32.toInt64 (nI n - 1)) = some 0) := by
  have e : (Int32.toInt64 (nI n - 1)).toInt = (n : Int) - 1 := by
    rw [dn2 n1, to64 (by omega)]
    unfold qL
    rw [Int64.toInt_ofNat_of_lt (by omega)]
    omega
  have h1 : v < -1 ↔ v.toInt < -1 := by rw [Int32.lt_iff_toInt_lt]; rfl
  have h2 : v < nI n ↔ v.toInt < n := by rw [Int32.lt_iff_toInt_lt, nI_toInt (by omega)]
  rw [in_of (a := -1) (b := (n : Int) - 1) (by decide) e]
  by_cases a : v.toInt = -1
  · left
    refine ⟨Int32.toInt_inj.mp (by rw [a]; rfl), by rw [if_pos (by omega)]⟩
  · by_cases b : 0 ≤ v.toInt ∧ v.toInt < n
    · right; left
      have : ¬ v < 0 := by rw [Int32.lt_iff_toInt_lt]; show ¬ v.toInt < 0; omega
      obtain ⟨x, hx, rfl⟩ := nI_of this
      rw [nI_toInt hx] at b ⊢
      exact ⟨x, by omega, rfl, by rw [if_pos (by omega)]⟩
    · right; right
      refine ⟨?_, by rw [if_neg (by omega)]⟩
      rw [h1, h2]; omega
theorem s_cheapest (hPL : frPL PL) (hPA : frPA PA) (hN : 1000000 ≤ N) : S_cheapest N (Inv0 PL PA) := by
  intro X I L x1 x2 x3 hI
  rcases (six_cases x1).symm with ⟨e1, e2⟩ | ⟨w, hw, rfl, e1, e2⟩
  · refine ⟨-1, I, I, ?_, ?_, hI⟩
    · unfold f_X10_cheapest; rw [bnd1_some e1, if_pos rfl]
    · unfold f_X11_cheapest; rw [bnd1_some e2, if_pos rfl]
  have iw : inb (nI w) 6 = true := inb_nI hw (by decide)
  have cw : Int32.toNatClampNeg (nI w) = w := nI_clamp (by omega)
  obtain ⟨n, r, n1, n6, hr, hc, hm⟩ := hI.b hw
  obtain ⟨W, hW, hWW⟩ := Inv0.t' hI
  have prow : (∃ hin : (x3 = -1 ∨ ∃ x, x < n ∧ x3 = nI x), f_X11_in (Int32.toInt64 x3) (-1) (Int32.toInt64 (nI n - 1)) = some 1) ∨ ((x3 < -1 ∨ ¬ x3 < nI n) ∧ f_X11_in (Int32.toInt64 x3) (-1) (Int32.toInt64 (nI n - 1)) = some 0) := by
    rcases row_cases x3 n1 n6 with ⟨a, b⟩ | ⟨x, a, b, c⟩ | ⟨a, b⟩
    · exact Or.inl ⟨Or.inl a, b⟩
    · exact Or.inl ⟨Or.inr ⟨x, a, b⟩, c⟩
    · exact Or.inr ⟨a, b⟩
  rcases prow with ⟨hin, e3⟩ | ⟨h3, e3⟩
  · have l1 : ¬ x3 < -1 := by
      rcases hin with rfl | ⟨x, hx, rfl⟩
      · decide
      · intro h
        have := nI_pos (show x < 2 ^ 31 by omega)
        rw [Int32.lt_iff_toInt_lt] at h this
        have a1 : (-1 : Int32).toInt = -1 := by decide
        have a0 : (0 : Int32).toInt = 0 := by decide
        omega
    have l2 : x3 < nI n := by
      rcases hin with rfl | ⟨x, hx, rfl⟩
      · rw [Int32.lt_iff_toInt_lt, nI_toInt (by omega)]
        have a1 : (-1 : Int32).toInt = -1 := by decide
        omega
      · exact (nI_ltI (by omega) (by omega)).mpr hx
    by_cases h0 : x2 < 0
    · refine ⟨-2, I, I, ?_, ?_, hI⟩
      · unfold f_X10_cheapest; rw [bnd1_some e1, if_neg (by decide), if_neg l1, if_pos iw, cw, hc.1, if_pos l2, if_pos h0]
      · unfold f_X11_cheapest; rw [bnd1_some e2, if_neg (by decide), if_pos iw, cw, hm.1, bnd1_some e3, if_neg (by decide), if_pos h0]
    obtain ⟨k, hk, rfl⟩ := nI_of h0
    obtain ⟨J, a1, a2, a3⟩ := weighC (N := N) (a := 12 + 4 * w) (W := W) (k := k) (I := I) (by omega) n1 n6 hk hr ⟨hc, fun p hp => (hWW p hp).1⟩ hW (by omega)
    have okJ : okC r W n (12 + 4 * w) J := okC_fr (by omega) ⟨hc, fun p hp => (hWW p hp).1⟩ a3
    have hmJ : J 103 w = nI n := by rw [a3 _ _ (by omega)]; exact hm.1
    obtain ⟨K0, b1, b2, b3⟩ := begin_both (W := W) n1 J
    have okK : okW r W n w K0 := ⟨BM_fr b3 (fun _ => by unfold fG; omega) (fun _ => by unfold fG; omega) (BM_fr a3 (fun _ => by omega) (fun _ => by omega) hm), fun p hp => by rw [b3 _ _ (by unfold fG; omega), a3 _ _ (by omega)]; exact (hWW p hp).2⟩
    have main : ∃ v' K, f_X11_cheapest_l51 N (nI w) (nI k) x3 (nI n) (-1) K0 = some (v', K) ∧ bst n W (fir r W n k n 0) v' K ∧ fr fH K0 K := by
      by_cases q : k ≤ n
      · obtain ⟨v', K, y1, y2, y3⟩ := chM (N := N) (k := k) (v3 := x3) hw n1 n6 q hr hW hN (al r n k n 0) 0 (fun _ => 0) K0 none (-1) N (by omega) okK b2 (Qs_start n1) (by have := al_length (r := r) (n := n) (k := k) (rem := n) (mask := 0); have := pow_small n (by omega); omega) (Or.inl ⟨rfl, rfl⟩)
        refine ⟨v', K, y1, ?_, y3⟩
        unfold fir
        rw [Nat.sub_self]; exact y2
      · obtain ⟨N', hN'⟩ : ∃ N', N = N' + 1 := ⟨N - 1, by omega⟩
        have en : fir r W n k n 0 = none := by
          unfold fir
          rw [al_few n6 (Nat.two_pow_pos n) (by rw [show bcn 6 0 = 0 by decide]; omega)]; rfl
        refine ⟨-1, K0, ?_, Or.inl ⟨en, rfl⟩, fr.rfl⟩
        unfold f_X11_cheapest_l51
        rw [hN']
        refine loopN_inr ?_
        show f_X11_cheapest_b51 (N' + 1) (nI w) (nI k) x3 (nI n) (-1) K0 = _
        unfold f_X11_cheapest_b51
        rw [if_pos ((nI_ltI (by omega) hk).mpr (by omega))]
    obtain ⟨v', K, y1, y2, y3⟩ := main
    have inv : Inv0 PL PA X K L := inv_scr hPL hPA hI ((a3.mono (S' := scr) (fun b j h => by unfold scr; omega)).trans ((b3.mono (fun b j h => by unfold fG at h; unfold scr; omega)).trans (y3.mono (fun b j h => by unfold fH fG at h; unfold scr; omega)))) frL.rfl
    have eA : ∀ z, f_X11_cheapest_j95 N x3 (nI n) v' K = z → f_X11_cheapest N (nI w) (nI k) x3 J = z := fun z hz => by
      unfold f_X11_cheapest
      rw [bnd1_some e2, if_neg (by decide), if_pos iw, cw, hmJ, bnd1_some e3, if_neg (by decide), if_neg h0, if_pos iw, bnd1_some b1, bnd2_some y1, hz]
    rcases cheap_id (r := r) (k := k) n6 hW (Nat.le_refl n) (mask := 0) with ⟨z1, z2⟩ | ⟨p, z1, z2⟩
    · rcases y2 with ⟨_, rfl⟩ | ⟨p, hp, _⟩
      · refine ⟨-5, J, K, ?_, eA _ ?_, inv⟩
        · unfold f_X10_cheapest
          rw [bnd1_some e1, if_neg (by decide), if_neg l1, if_pos iw, cw, hc.1, if_pos l2, if_neg h0, if_pos iw, bnd2_some a1, z2, nl1000, if_neg (nI_le0 (by omega) (Nat.le_refl _))]
        · unfold f_X11_cheapest_j95
          rw [if_pos (by decide)]
      · rw [z1] at hp; exact absurd hp (by simp)
    · rcases y2 with ⟨hp, _⟩ | ⟨p', hp, p2, rfl, p4⟩
      · rw [z1] at hp; exact absurd hp (by simp)
      · rw [z1] at hp
        have ep := Option.some.inj hp
        subst ep
        rw [Nat.sub_self] at z2
        have wb := wl_le (n := n) hW (q := p) (j := 0)
        have l1000 : nI (lst r W n k n 0) < (1000 : Int32) := by rw [nl1000]; exact (nI_ltI (by omega) (by omega)).mpr (by omega)
        have nn : ¬ nI (wl n W 0 p) < 0 := nI_pos (by omega)
        rcases hin with rfl | ⟨x, hx, rfl⟩
        · refine ⟨nI (wl n W 0 p), J, K, ?_, eA _ ?_, inv⟩
          · unfold f_X10_cheapest
            rw [bnd1_some e1, if_neg (by decide), if_neg l1, if_pos iw, cw, hc.1, if_pos l2, if_neg h0, if_pos iw, bnd2_some a1, if_pos l1000, if_pos rfl, z2]
          · unfold f_X11_cheapest_j95
            rw [if_neg nn, if_pos rfl]
        · have nx : ¬ nI x = (-1 : Int32) := fun h => by
            have : ¬ nI x < 0 := nI_pos (by omega)
            rw [h] at this
            exact absurd (by decide) this
          have gd : p.getD x 0 ≤ n := by
            rw [List.getD_eq_getElem?_getD, List.getElem?_eq_getElem (by omega)]
            exact (fir_len z1).2 _ (List.getElem_mem _)
          refine ⟨if p.getD x 0 < n then nI (p.getD x 0) else -1, J, K, ?_, eA _ ?_, inv⟩
          · unfold f_X10_cheapest
            rw [bnd1_some e1, if_neg (by decide), if_neg l1, if_pos iw, cw, hc.1, if_pos l2, if_neg h0, if_pos iw, bnd2_some a1, if_pos l1000, if_neg nx, if_pos iw, bnd1_some (findC n6 hr hx okJ hW a2 z1 (by omega))]
          · unfold f_X11_cheapest_j95 f_X11_columnAt
            rw [if_neg nn, if_neg nx, if_pos (inb_nI (by omega) (by decide)), nI_clamp (by omega), p4 x hx, if_pos (inb_nI (by omega) (by decide))]
            by_cases y : p.getD x 0 < n
            · rw [if_pos y, if_neg (by rw [nI_eq (by omega) (by omega)]; omega), bnd1_some rfl]
            · rw [if_neg y, if_pos (by rw [show p.getD x 0 = n by omega]), bnd1_some rfl]
  · refine ⟨-1, I, I, ?_, ?_, hI⟩
    · unfold f_X10_cheapest
      rw [bnd1_some e1, if_neg (by decide)]
      by_cases q : x3 < -1
      · rw [if_pos q]
      · rw [if_neg q, if_pos iw, cw, hc.1, if_neg (h3.resolve_left q)]
    · unfold f_X11_cheapest; rw [bnd1_some e2, if_neg (by decide), if_pos iw, cw, hm.1, bnd1_some e3, if_pos rfl]
end SCH
