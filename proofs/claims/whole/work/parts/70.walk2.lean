/-! ===== one step of the walk ===== -/
def fl (n : Nat) : Nat → Nat
  | 0 => 0
  | d + 1 => (n + 1) * (1 + fl n d) + 1
def mu (n : Nat) (e : Nat → Nat) : Nat → Nat
  | 0 => 0
  | j + 1 => mu n e j + ((n + 1 - e j) * (1 + fl n (n - (j + 1))) + 1)
def setE (e : Nat → Nat) (i v : Nat) : Nat → Nat := fun j => if j = i then v else e j
theorem setE_eq (e : Nat → Nat) (i v : Nat) : setE e i v i = v := if_pos rfl
theorem setE_ne {e : Nat → Nat} {i v j : Nat} (h : j ≠ i) : setE e i v j = e j := if_neg h
theorem mu_congr {n : Nat} {e e' : Nat → Nat} : ∀ {m : Nat}, (∀ j, j < m → e j = e' j) → mu n e m = mu n e' m
  | 0, _ => rfl
  | m + 1, h => by rw [mu, mu, mu_congr (fun j hj => h j (by omega)), h m (by omega)]
theorem fl_le : ∀ n, n < 7 → fl n n ≤ 156864 := by decide +kernel
section GO2
variable {r W : Nat → Nat} {N n k w : Nat} {e : Nat → Nat} {K : MI}
theorem place_spec {i x : Nat} (n6 : n ≤ 6) (hi : i < n) (hx : x ≤ n) (hT : ∀ p, p < 36 → K 105 p = nI (W p)) (h : GL n W e i K) (hok : x < n → (mk n e i).testBit x = false) : ∃ K5, f_X11_goesOn_b7_j55 N (nI w) (nI k) (nI n) (nI x) K = f_X11_goesOn_b7_j138 N (nI w) (nI k) (nI n) K5 ∧ GS n W (setE e i (x + 1)) i K5 ∧ fr fG K K5 := by
  have t6 := two_le n6
  obtain ⟨g1, g2, g3, g4, g5, g6, g7⟩ := h
  have ml := mk_lt (e := e) n6 (m := i)
  have cg : ∀ j, j < i → setE e i (x + 1) j = e j := fun j hj => setE_ne (by omega)
  have c1 := cn_congr (n := n) cg
  have c2 := mk_congr (n := n) cg
  have c3 := wt_congr (n := n) (W := W) cg
  have ok' : okE n (setE e i (x + 1)) (i + 1) := fun j hj hp => by
    by_cases q : j = i
    · rw [q] at hp ⊢
      rw [setE_eq] at hp ⊢
      rw [c2, Nat.add_sub_cancel]
      exact hok (by omega)
    · rw [mk_congr (n := n) (m := j) (e' := e) (fun a ha => setE_ne (by omega)), setE_ne q]
      rw [setE_ne q] at hp
      exact g7 j (by omega) hp
  have g2' : ∀ K' : MI, (∀ j, j ≤ i → K' 134 j = upI K 134 i (nI x) 134 j) → ∀ j, j ≤ i → K' 134 j = nI (setE e i (x + 1) j) - 1 ∧ setE e i (x + 1) j ≤ n + 1 := fun K' hK j hj => by
    rw [hK j hj, upI_at]
    by_cases q : j = i
    · rw [if_pos q, q, setE_eq, dn2 (by omega), Nat.add_sub_cancel]; exact ⟨rfl, by omega⟩
    · rw [if_neg q, setE_ne q]; exact g2 j hj
  have g3' : ∀ j, j < i → 1 ≤ setE e i (x + 1) j := fun j hj => by rw [cg j hj]; exact g3 j hj
  unfold f_X11_goesOn_b7_j55
  rw [if_neg (nI_le0 (by omega) (by omega)), g1, if_pos (inb_nI (by omega) (by decide)), nI_clamp (by omega)]
  simp only [letv]
  by_cases z : x < n
  · have pp : 1 ≤ setE e i (x + 1) i ∧ setE e i (x + 1) i ≤ n := by rw [setE_eq]; omega
    rw [if_pos ((nI_ltI (by omega) (by omega)).mpr z)]
    have a43 : upI K 134 i (nI x) 99 43 = nI (cn n e i) := by rw [upI_ne _ _ (by omega)]; exact g4
    rw [a43]
    have a44 : ∀ v, upI (upI K 134 i (nI x)) 99 43 v 99 44 = nI (mk n e i) := fun v => by rw [upI_ne _ _ (by omega), upI_ne _ _ (by omega)]; exact g5
    rw [a44, shl1 x (by omega), nI_or]
    have a46 : ∀ v v', upI (upI (upI K 134 i (nI x)) 99 43 v) 99 44 v' 99 46 = nI i := fun v v' => by rw [upI_ne _ _ (by omega), upI_ne _ _ (by omega), upI_ne _ _ (by omega)]; exact g1
    have a45 : ∀ v v', upI (upI (upI K 134 i (nI x)) 99 43 v) 99 44 v' 99 45 = nI (wt n W e i) := fun v v' => by rw [upI_ne _ _ (by omega), upI_ne _ _ (by omega), upI_ne _ _ (by omega)]; exact g6
    have a105 : ∀ v v' p, upI (upI (upI K 134 i (nI x)) 99 43 v) 99 44 v' 105 p = K 105 p := fun v v' p => by rw [upI_ne _ _ (by omega), upI_ne _ _ (by omega), upI_ne _ _ (by omega)]
    rw [a46, m6, if_pos (inb_nI (by omega) (by decide)), nI_clamp (by omega), a45, a105, hT _ (by omega), nI_add, nI_1]
    refine ⟨_, rfl, ⟨?_, g2' _ (fun j hj => ?_), g3', ?_, ?_, ?_, ok'⟩, (fr.up (S := fG) (by unfold fG; omega)).trans ((fr.up (S := fG) (by unfold fG; omega)).trans ((fr.up (S := fG) (by unfold fG; omega)).trans (fr.up (S := fG) (by unfold fG; omega))))⟩
    · rw [upI_ne _ _ (by omega), upI_ne _ _ (by omega), upI_ne _ _ (by omega), upI_ne _ _ (by omega)]; exact g1
    · rw [upI_ne 134 j (by omega), upI_ne 134 j (by omega), upI_ne 134 j (by omega)]
    · rw [upI_ne _ _ (by omega), upI_ne _ _ (by omega), upI_eq, cn, if_pos pp, c1]
    · rw [upI_ne _ _ (by omega), upI_eq, mk, if_pos pp, c2, setE_eq, Nat.add_sub_cancel]
    · rw [upI_eq, wt, if_pos pp, c3, setE_eq, Nat.add_sub_cancel]
  · have pp : ¬ (1 ≤ setE e i (x + 1) i ∧ setE e i (x + 1) i ≤ n) := by rw [setE_eq]; omega
    rw [if_neg (nI_le0 (by omega) (by omega))]
    refine ⟨_, rfl, ⟨?_, g2' _ (fun j hj => rfl), g3', ?_, ?_, ?_, ok'⟩, fr.up (S := fG) (by unfold fG; omega)⟩
    · rw [upI_ne _ _ (by omega)]; exact g1
    · rw [upI_ne _ _ (by omega), cn, if_neg pp, c1]; exact g4
    · rw [upI_ne _ _ (by omega), mk, if_neg pp, c2]; exact g5
    · rw [upI_ne _ _ (by omega), wt, if_neg pp, c3]; exact g6
/-- what is still to come, once a column is taken in row i -/
theorem Qs_step {i x : Nat} (n6 : n ≤ 6) (hi : i < n) (he : e i ≤ x) (hx : x ≤ n) (hb : ∀ c, e i ≤ c → c < x → blk r n k (n - (i + 1)) (mk n e i) c = []) (hok : x < n → (r i).testBit x = true ∧ (mk n e i).testBit x = false) : Qs r n k e (i + 1) = (al r n k (n - (i + 1)) (mk n (setE e i (x + 1)) (i + 1))).map (pre (setE e i (x + 1)) (i + 1) ++ ·) ++ Qs r n k (setE e i (x + 1)) (i + 1) := by
  have cg : ∀ j, j < i → setE e i (x + 1) j = e j := fun j hj => setE_ne (by omega)
  have er : n - (n - (i + 1) + 1) = i := by omega
  rw [Qs, Qs, Qs_congr cg, mk_congr cg, pre_congr cg, setE_eq]
  have s1 := seg_skip (f := blk r n k (n - (i + 1)) (mk n e i)) (d := x - e i) (c := e i) (m := n + 1 - x) (fun c h1 h2 => hb c h1 (by omega))
  rw [show x - e i + (n + 1 - x) = n + 1 - e i by omega, show e i + (x - e i) = x by omega] at s1
  rw [s1, show n + 1 - x = (n - x) + 1 by omega, seg, List.map_append, List.append_assoc, show n + 1 - (x + 1) = n - x by omega]
  congr 1
  have eb : blk r n k (n - (i + 1)) (mk n e i) x = (al r n k (n - (i + 1)) (mk n (setE e i (x + 1)) (i + 1))).map (x :: ·) := by
    unfold blk
    rw [mk, setE_eq, mk_congr cg, er]
    by_cases z : x < n
    · rw [if_pos z, if_pos (hok z), if_pos (by omega), Nat.add_sub_cancel]
    · rw [if_neg z, if_neg (by omega)]
  rw [eb, List.map_map, pre, pre_congr cg, setE_eq, Nat.add_sub_cancel]
  congr 1
  funext l
  simp
theorem mu_step {i x : Nat} (he : e i ≤ x) (hx : x ≤ n) : mu n (setE e i (x + 1)) (i + 1) + fl n (n - (i + 1)) < mu n e (i + 1) := by
  have cg : ∀ j, j < i → setE e i (x + 1) j = e j := fun j hj => setE_ne (by omega)
  rw [mu, mu, mu_congr cg, setE_eq]
  have : (n + 1 - (x + 1)) * (1 + fl n (n - (i + 1))) + (1 + fl n (n - (i + 1))) ≤ (n + 1 - e i) * (1 + fl n (n - (i + 1))) := by
    rw [← Nat.succ_mul]
    exact Nat.mul_le_mul_right _ (by omega)
  omega
def okW (r W : Nat → Nat) (n w : Nat) (K : MI) : Prop := BM K 103 104 w n r ∧ ∀ p, p < 36 → K 105 p = nI (W p)
theorem okW_fr {K' : MI} (h : okW r W n w K) (f : fr fG K K') : okW r W n w K' := ⟨BM_fr f (fun _ => by unfold fG; omega) (fun _ => by unfold fG; omega) h.1, fun p hp => by rw [f _ _ (by unfold fG; omega)]; exact h.2 p hp⟩
theorem go_loop (hw : w < 6) (n1 : 1 ≤ n) (n6 : n ≤ 6) (hk : k < 2 ^ 31) (hr : ∀ i, i < n → r i < 2 ^ n) (hW : ∀ p, W p ≤ 9) (hN : 20 ≤ N) : ∀ (m i : Nat) (e : Nat → Nat) (K : MI) (M : Nat), i < n → okW r W n w K → GS n W e i K → mu n e (i + 1) ≤ m → m + 1 < M →
    (Qs r n k e (i + 1) = [] ∧ ∃ K', loopN (fun s : MI => f_X11_goesOn_b7 N (nI w) (nI k) (nI n) s) M K = some (.inl K') ∧ K' 99 46 = -1 ∧ fr fG K K')
    ∨ (∃ e' K', Qs r n k e (i + 1) = pre e' n :: Qs r n k e' n ∧ loopN (fun s : MI => f_X11_goesOn_b7 N (nI w) (nI k) (nI n) s) M K = some (.inr (1, K')) ∧ GS n W e' (n - 1) K' ∧ (∀ j, j < n → 1 ≤ e' j) ∧ fr fG K K') := by
  intro m
  induction m with
  | zero =>
    intro i e K M hi ho hg hm hM
    rw [mu] at hm
    omega
  | succ m ih =>
    intro i e K M hi ho hg hm hM
    obtain ⟨M', rfl⟩ : ∃ M', M = M' + 1 := ⟨M - 1, by omega⟩
    obtain ⟨K3, l1, l2, l3⟩ := lift_spec n6 hi ho.2 hW hg
    have ho3 := okW_fr ho l3
    obtain ⟨x, x1, x2, x3, x4, x5⟩ := next_spec (N := N) hw n6 hi hk hr ho3.1 l2 hN
    have hd := l2.2.1 i (Nat.le_refl _)
    have body : f_X11_goesOn_b7 N (nI w) (nI k) (nI n) K = f_X11_goesOn_b7_j55 N (nI w) (nI k) (nI n) (nI x) K3 := by
      unfold f_X11_goesOn_b7
      have e1 : nI (e i) - 1 + 1 = nI (e i) := by grind
      rw [hg.1, if_neg (nI_pos (by omega)), bnd1_some l1, l2.1, if_pos (inb_nI (by omega) (by decide)), nI_clamp (by omega), hd.1, e1]
      simp only [letv]
      rw [bnd1_some x3]
    by_cases q : x ≤ n
    · obtain ⟨K5, p1, p2, p3⟩ := place_spec (N := N) (w := w) (k := k) n6 hi q ho3.2 l2 (fun z => (x5 z).2)
      have ho5 := okW_fr ho3 p3
      have st := Qs_step (k := k) n6 hi x1 q x4 x5
      have ms := mu_step (n := n) (e := e) x1 q
      have f5 : fr fG K K5 := l3.trans p3
      have ge1 : ∀ j, j < i + 1 → 1 ≤ setE e i (x + 1) j := fun j hj => by
        by_cases z : j = i
        · rw [z, setE_eq]; omega
        · exact p2.2.2.1 j (by omega)
      by_cases z : i = n - 1
      · have en : i + 1 = n := by omega
        have e46 : nI n - 1 = nI i := by rw [dn2 n1, ← z]
        rw [en, show n - n = 0 by omega, al] at st
        have mc := mk_cn n6 p2.2.2.2.2.2.2
        rw [en] at mc
        have b5 : f_X11_goesOn_b7 N (nI w) (nI k) (nI n) K = (if nI (cn n (setE e i (x + 1)) n) = nI k then some (.inr (.inr (1, K5))) else some (.inl K5)) := by
          rw [body, p1]
          unfold f_X11_goesOn_b7_j138
          rw [p2.1, e46, if_pos rfl, p2.2.2.2.1, en]
        have cnl := cn_le (n := n) (e := setE e i (x + 1)) (m := n)
        by_cases y : cn n (setE e i (x + 1)) n = k
        · right
          rw [if_pos (by rw [y])] at b5
          rw [if_pos (by rw [mc]; exact y)] at st
          refine ⟨setE e i (x + 1), K5, ?_, loopN_inr b5, ?_, fun j hj => ge1 j (by omega), f5⟩
          · rw [en, st]
            simp
          · rw [← z]; exact p2
        · rw [if_neg (by rw [nI_eq (by omega) (by omega)]; exact y)] at b5
          rw [if_neg (by rw [mc]; exact y), List.map_nil, List.nil_append] at st
          rw [loopN_inl b5, show Qs r n k e (i + 1) = Qs r n k (setE e i (x + 1)) (i + 1) by rw [en]; exact st]
          rcases ih i (setE e i (x + 1)) K5 M' hi ho5 p2 (by omega) (by omega) with ⟨c1, K', c2, c3, c4⟩ | ⟨e', K', c1, c2, c3, c4, c5⟩
          · exact Or.inl ⟨c1, K', c2, c3, f5.trans c4⟩
          · exact Or.inr ⟨e', K', c1, c2, c3, c4, f5.trans c5⟩
      · -- one row further
        obtain ⟨K6, hK6⟩ : ∃ K6, K6 = upI (upI K5 99 46 (nI (i + 1))) 134 (i + 1) (-1) := ⟨_, rfl⟩
        have b5 : f_X11_goesOn_b7 N (nI w) (nI k) (nI n) K = some (.inl K6) := by
          rw [body, p1]
          unfold f_X11_goesOn_b7_j138
          rw [p2.1, dn2 n1, if_neg (by rw [nI_eq (by omega) (by omega)]; exact z)]
          simp only [letv]
          rw [nI_1, upI_eq, if_pos (inb_nI (by omega) (by decide)), nI_clamp (by omega), hK6]
        have f6 : fr fG K5 K6 := by rw [hK6]; exact (fr.up (S := fG) (by unfold fG; omega)).trans (fr.up (S := fG) (by unfold fG; omega))
        have ho6 := okW_fr ho5 f6
        obtain ⟨E, hE⟩ : ∃ E, E = setE (setE e i (x + 1)) (i + 1) 0 := ⟨_, rfl⟩
        have cg : ∀ j, j < i + 1 → E j = setE e i (x + 1) j := fun j hj => by rw [hE]; exact setE_ne (by omega)
        have e0 : E (i + 1) = 0 := by rw [hE]; exact setE_eq _ _ _
        have np : ¬ (1 ≤ E (i + 1) ∧ E (i + 1) ≤ n) := by omega
        obtain ⟨h1, h2, h3, h4, h5, h6, h7⟩ := p2
        have g6 : GS n W E (i + 1) K6 := by
          refine ⟨?_, fun j hj => ?_, fun j hj => ?_, ?_, ?_, ?_, fun j hj hp => ?_⟩
          · rw [hK6, upI_ne _ _ (by omega), upI_eq]
          · rw [hK6, upI_at]
            by_cases v : j = i + 1
            · rw [if_pos v, v, e0]; exact ⟨by decide, by omega⟩
            · rw [if_neg v, upI_ne _ _ (by omega), cg j (by omega)]; exact h2 j (by omega)
          · rw [cg j hj]; exact ge1 j hj
          · rw [hK6, upI_ne _ _ (by omega), upI_ne _ _ (by omega), cn, if_neg np, cn_congr cg]; exact h4
          · rw [hK6, upI_ne _ _ (by omega), upI_ne _ _ (by omega), mk, if_neg np, mk_congr cg]; exact h5
          · rw [hK6, upI_ne _ _ (by omega), upI_ne _ _ (by omega), wt, if_neg np, wt_congr cg]; exact h6
          · by_cases v : j = i + 1
            · rw [v] at hp; omega
            · rw [mk_congr (n := n) (m := j) (e' := setE e i (x + 1)) (fun a ha => cg a (by omega)), cg j (by omega)]
              rw [cg j (by omega)] at hp
              exact h7 j (by omega) hp
        have mu6 : mu n E (i + 1 + 1) = mu n (setE e i (x + 1)) (i + 1) + fl n (n - (i + 1)) := by
          rw [mu, mu_congr cg, e0, show n - (i + 1) = (n - (i + 1 + 1)) + 1 by omega, fl, Nat.sub_zero]
        have st6 : Qs r n k e (i + 1) = Qs r n k E (i + 1 + 1) := by
          have q2 : Qs r n k E (i + 1 + 1) = (seg (blk r n k (n - (i + 1 + 1)) (mk n E (i + 1))) (E (i + 1)) (n + 1 - E (i + 1))).map (pre E (i + 1) ++ ·) ++ Qs r n k E (i + 1) := rfl
          rw [st, q2, Qs_congr cg, mk_congr cg, pre_congr cg, e0, Nat.sub_zero, ← al_blk, show n - (i + 1) = (n - (i + 1 + 1)) + 1 by omega]
        rw [loopN_inl b5, st6]
        rcases ih (i + 1) E K6 M' (by omega) ho6 g6 (by omega) (by omega) with ⟨c1, K', c2, c3, c4⟩ | ⟨e', K', c1, c2, c3, c4, c5⟩
        · exact Or.inl ⟨c1, K', c2, c3, f5.trans (f6.trans c4)⟩
        · exact Or.inr ⟨e', K', c1, c2, c3, c4, f5.trans (f6.trans c5)⟩
    · -- a row back
      have xn : x = n + 1 := by omega
      have b5 : f_X11_goesOn_b7 N (nI w) (nI k) (nI n) K = some (.inl (upI K3 99 46 (nI i - 1))) := by
        rw [body]
        unfold f_X11_goesOn_b7_j55
        rw [if_pos ((nI_ltI (by omega) (by omega)).mpr (by omega)), l2.1]
        rfl
      have st : Qs r n k e (i + 1) = Qs r n k e i := by
        rw [Qs, seg_nil (fun c h1 h2 => x4 c h1 (by omega)), List.map_nil, List.nil_append]
      have f6 : fr fG K (upI K3 99 46 (nI i - 1)) := l3.trans (fr.up (S := fG) (by unfold fG; omega))
      rw [loopN_inl b5, st]
      by_cases z : i = 0
      · left
        subst z
        obtain ⟨M'', rfl⟩ : ∃ M'', M' = M'' + 1 := ⟨M' - 1, by omega⟩
        refine ⟨rfl, upI K3 99 46 (nI 0 - 1), loopN_inr ?_, by rw [upI_eq]; decide, f6⟩
        show f_X11_goesOn_b7 N (nI w) (nI k) (nI n) (upI K3 99 46 (nI 0 - 1)) = _
        unfold f_X11_goesOn_b7
        rw [upI_eq, if_pos (by decide)]
      · obtain ⟨i', rfl⟩ : ∃ i', i = i' + 1 := ⟨i - 1, by omega⟩
        have ed : nI (i' + 1) - 1 = nI i' := by rw [dn2 (by omega), Nat.add_sub_cancel]
        rw [ed] at f6 ⊢
        obtain ⟨h1, h2, h3, h4, h5, h6, h7⟩ := l2
        have g6 : GS n W e i' (upI K3 99 46 (nI i')) := by
          refine ⟨upI_eq _ _ _ _, fun j hj => ?_, fun j hj => h3 j (by omega), ?_, ?_, ?_, h7⟩
          · rw [upI_ne _ _ (by omega)]; exact h2 j (by omega)
          · rw [upI_ne _ _ (by omega)]; exact h4
          · rw [upI_ne _ _ (by omega)]; exact h5
          · rw [upI_ne _ _ (by omega)]; exact h6
        have ho6 : okW r W n w (upI K3 99 46 (nI i')) := okW_fr ho f6
        have hm' : mu n e (i' + 1) ≤ m := by rw [mu] at hm; omega
        rcases ih i' e _ M' (by omega) ho6 g6 hm' (by omega) with ⟨c1, K', c2, c3, c4⟩ | ⟨e', K', c1, c2, c3, c4, c5⟩
        · exact Or.inl ⟨c1, K', c2, c3, f6.trans c4⟩
        · exact Or.inr ⟨e', K', c1, c2, c3, c4, f6.trans c5⟩
end GO2
