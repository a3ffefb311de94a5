/-! ===== listed, the reference's side; both ===== -/
section LM
variable {r W : Nat → Nat} {N n k w : Nat}
def ofW (n : Nat) (W : Nat → Nat) (u : Nat) (Q : List (List Nat)) : List (List Nat) := Q.filter (fun q => decide (wl n W 0 q = u))
def ans (n u : Nat) (v4 : Int32) (q : List Nat) : Int32 := if v4 = -1 then nI u else (if q.getD (Int32.toNatClampNeg v4) 0 < n then nI (q.getD (Int32.toNatClampNeg v4) 0) else -1)
theorem lsM (hw : w < 6) (n1 : 1 ≤ n) (n6 : n ≤ 6) (hk : k < 2 ^ 31) (hr : ∀ i, i < n → r i < 2 ^ n) (hW : ∀ p, W p ≤ 9) (hN : 1000000 ≤ N) {v4 : Int32} (hv : v4 = -1 ∨ ∃ x, x < n ∧ v4 = nI x) {t u : Nat} (ht : t < 2 ^ 31) (hu : u < 37) : ∀ (Q : List (List Nat)) (i : Nat) (e : Nat → Nat) (K : MI) (c M : Nat), i < n → okW r W n w K → GS n W e i K → Qs r n k e (i + 1) = Q → Q.length < M → c ≤ t →
    (∃ q K', (ofW n W u Q)[t - c]? = some q ∧ loopN (fun s : Int32 × MI => f_X11_listed_b85 N (nI w) (nI k) (nI t) v4 (nI n) (nI u) s.1 s.2) M (nI c, K) = some (.inr (ans n u v4 q, K')) ∧ fr fH K K')
    ∨ (c + (ofW n W u Q).length ≤ t ∧ ∃ K', loopN (fun s : Int32 × MI => f_X11_listed_b85 N (nI w) (nI k) (nI t) v4 (nI n) (nI u) s.1 s.2) M (nI c, K) = some (.inl (nI (c + (ofW n W u Q).length), K')) ∧ fr fH K K') := by
  intro Q
  induction Q with
  | nil =>
    intro i e K c M hi ho hg hQ hM hc
    right
    obtain ⟨M', rfl⟩ : ∃ M', M = M' + 1 := ⟨M - 1, by omega⟩
    rcases goes (N := N) (k := k) hw n1 n6 hk hr hW hi ho hg hN with ⟨c1, K', c2, c3⟩ | ⟨e', K', c1, _⟩
    · refine ⟨hc, K', loopN_inr ?_, c3.mono (fun b j h => Or.inl h)⟩
      show f_X11_listed_b85 N (nI w) (nI k) (nI t) v4 (nI n) (nI u) (nI c) K = _
      unfold f_X11_listed_b85
      rw [bnd2_some c2, if_pos rfl]; rfl
    · rw [c1] at hQ; exact absurd hQ (by simp)
  | cons q Q ih =>
    intro i e K c M hi ho hg hQ hM hc
    obtain ⟨M', rfl⟩ : ∃ M', M = M' + 1 := ⟨M - 1, by omega⟩
    rw [List.length_cons] at hM
    rcases goes (N := N) (k := k) hw n1 n6 hk hr hW hi ho hg hN with ⟨c1, _⟩ | ⟨e', K1, c1, c2, c3, c4, c5⟩
    · rw [c1] at hQ; exact absurd hQ (by simp)
    · rw [c1] at hQ
      injection hQ with hq hQ'
      have ho1 := okW_fr ho c5
      have c3' := c3
      obtain ⟨h1, h2, h3, h4, h5, h6, h7⟩ := c3
      have en : n - 1 + 1 = n := by omega
      have e45 : K1 99 45 = nI (wl n W 0 q) := by rw [h6, en, ← wl_pre c4, hq]
      have ql : q.length = n := by rw [← hq, pre_len]
      have wb := wl_le (n := n) hW (q := q) (j := 0)
      have f1 : fr fH K K1 := c5.mono (fun b j h => Or.inl h)
      by_cases z : wl n W 0 q = u
      · have oE : ofW n W u (q :: Q) = q :: ofW n W u Q := by
          unfold ofW
          rw [List.filter_cons, if_pos (by simpa using z)]
        rw [oE]
        by_cases y : c = t
        · left
          subst y
          obtain ⟨K2, d1, d2, d3⟩ := madeM (N := N) (K := K1) n6 (by omega)
          refine ⟨q, K2, by rw [Nat.sub_self]; rfl, loopN_inr ?_, f1.trans (d3.mono (fun b j h => Or.inr h))⟩
          show f_X11_listed_b85 N (nI w) (nI k) (nI c) v4 (nI n) (nI u) (nI c) K = _
          unfold f_X11_listed_b85
          rw [bnd2_some c2, if_neg (by decide), e45, if_pos (by rw [z]), if_pos rfl, bnd1_some d1]
          unfold ans
          rcases hv with rfl | ⟨x, hx, rfl⟩
          · rw [if_pos rfl, if_pos rfl]
          · have nx : ¬ nI x = (-1 : Int32) := fun h => neg_nI (show x < 2 ^ 31 by omega) h.symm
            have e128 : K2 128 x = nI (q.getD x 0) := by rw [d2 x hx, (h2 x (by omega)).1, ← hq, pre_get hx, dn2 (c4 x hx)]
            have gd : q.getD x 0 ≤ n := by
              rw [← hq, pre_get hx]
              have := (h2 x (by omega)).2
              omega
            unfold f_X11_columnAt
            rw [if_neg nx, if_neg nx, if_pos (inb_nI (by omega) (by decide)), nI_clamp (by omega), e128, if_pos (inb_nI (by omega) (by decide))]
            by_cases v : q.getD x 0 < n
            · rw [if_pos v, if_neg (by rw [nI_eq (by omega) (by omega)]; omega), bnd1_some rfl]
            · rw [if_neg v, if_pos (by rw [show q.getD x 0 = n by omega]), bnd1_some rfl]
        · have body : f_X11_listed_b85 N (nI w) (nI k) (nI t) v4 (nI n) (nI u) (nI c) K = some (.inl (nI (c + 1), K1)) := by
            unfold f_X11_listed_b85
            rw [bnd2_some c2, if_neg (by decide), e45, if_pos (by rw [z]), if_neg (by rw [nI_eq (by omega) ht]; exact y), nI_1]
          rw [loopN_inl (show (fun s : Int32 × MI => f_X11_listed_b85 N (nI w) (nI k) (nI t) v4 (nI n) (nI u) s.1 s.2) (nI c, K) = _ from body)]
          rcases ih (n - 1) e' K1 (c + 1) M' (by omega) ho1 c3' (by rw [en]; exact hQ') (by omega) (by omega) with ⟨q', K', y1, y2, y3⟩ | ⟨y1, K', y2, y3⟩
          · left
            refine ⟨q', K', ?_, y2, f1.trans y3⟩
            rw [← y1, show t - c = (t - (c + 1)) + 1 by omega]; rfl
          · right
            rw [List.length_cons]
            refine ⟨by omega, K', ?_, f1.trans y3⟩
            rw [y2, show c + 1 + (ofW n W u Q).length = c + ((ofW n W u Q).length + 1) by omega]
      · have oE : ofW n W u (q :: Q) = ofW n W u Q := by
          unfold ofW
          rw [List.filter_cons, if_neg (by simpa using z)]
        rw [oE]
        have body : f_X11_listed_b85 N (nI w) (nI k) (nI t) v4 (nI n) (nI u) (nI c) K = some (.inl (nI c, K1)) := by
          unfold f_X11_listed_b85
          rw [bnd2_some c2, if_neg (by decide), e45, if_neg (by rw [nI_eq (by omega) (by omega)]; exact z)]
        rw [loopN_inl (show (fun s : Int32 × MI => f_X11_listed_b85 N (nI w) (nI k) (nI t) v4 (nI n) (nI u) s.1 s.2) (nI c, K) = _ from body)]
        rcases ih (n - 1) e' K1 c M' (by omega) ho1 c3' (by rw [en]; exact hQ') (by omega) hc with ⟨q', K', y1, y2, y3⟩ | ⟨y1, K', y2, y3⟩
        · exact Or.inl ⟨q', K', y1, y2, f1.trans y3⟩
        · exact Or.inr ⟨y1, K', y2, f1.trans y3⟩
theorem okW_fH {K K' : MI} (h : okW r W n w K) (f : fr fH K K') : okW r W n w K' := ⟨BM_fr f (fun _ => by unfold fH fG; omega) (fun _ => by unfold fH fG; omega) h.1, fun p hp => by rw [f _ _ (by unfold fH fG; omega)]; exact h.2 p hp⟩
theorem lsAll (hw : w < 6) (n1 : 1 ≤ n) (n6 : n ≤ 6) (hk : k ≤ n) (hr : ∀ i, i < n → r i < 2 ^ n) (hW : ∀ p, W p ≤ 9) (hN : 1000000 ≤ N) {v4 : Int32} (hv : v4 = -1 ∨ ∃ x, x < n ∧ v4 = nI x) {t : Nat} (ht : t < 2 ^ 31) : ∀ (m u c : Nat) (K : MI) (M : Nat), u + m = 37 → okW r W n w K → m < M → c ≤ t →
    (∃ b v q K', fnd (fun u => (ofW n W u (al r n k n 0)).length) m (t - c) u = some (b, v) ∧ (ofW n W v (al r n k n 0))[b]? = some q ∧ loopN (fun s : Int32 × Int32 × MI => f_X11_listed_b68 N (nI w) (nI k) (nI t) v4 (nI n) s.1 s.2.1 s.2.2) M (nI c, nI u, K) = some (.inr (ans n v v4 q, K')) ∧ fr fH K K')
    ∨ (fnd (fun u => (ofW n W u (al r n k n 0)).length) m (t - c) u = none ∧ ∃ K', loopN (fun s : Int32 × Int32 × MI => f_X11_listed_b68 N (nI w) (nI k) (nI t) v4 (nI n) s.1 s.2.1 s.2.2) M (nI c, nI u, K) = some (.inl K') ∧ fr fH K K') := by
  intro m
  induction m with
  | zero =>
    intro u c K M hu ho hM hc
    right
    obtain ⟨M', rfl⟩ : ∃ M', M = M' + 1 := ⟨M - 1, by omega⟩
    refine ⟨rfl, K, loopN_inr ?_, fr.rfl⟩
    show f_X11_listed_b68 N (nI w) (nI k) (nI t) v4 (nI n) (nI c) (nI u) K = _
    unfold f_X11_listed_b68
    rw [nl36, if_pos ((nI_ltI (by omega) (by omega)).mpr (by omega))]
  | succ m ih =>
    intro u c K M hu ho hM hc
    obtain ⟨M', rfl⟩ : ∃ M', M = M' + 1 := ⟨M - 1, by omega⟩
    obtain ⟨K0, b1, b2, b3⟩ := begin_both (W := W) n1 K
    have ho0 := okW_fr ho b3
    have al1 := al_length (r := r) (n := n) (k := k) (rem := n) (mask := 0)
    have ps := pow_small n (by omega)
    have body : ∀ z, f_X11_listed_l85 N (nI w) (nI k) (nI t) v4 (nI n) (nI u) (nI c) K0 = z → f_X11_listed_b68 N (nI w) (nI k) (nI t) v4 (nI n) (nI c) (nI u) K = bns2 z (fun x28 I29 => some (.inl (x28, nI u + 1, I29))) (fun q31 => some (.inr (.inr q31))) := fun z hz => by
      unfold f_X11_listed_b68
      rw [nl36, if_neg (nI_le0 (by omega) (by omega)), if_neg (nI_le0 (by omega) hk), bnd1_some b1, hz]
    rw [fnd]
    rcases lsM (N := N) (k := k) (v4 := v4) (t := t) (u := u) hw n1 n6 (by omega) hr hW hN hv ht (by omega) (al r n k n 0) 0 (fun _ => 0) K0 c N (by omega) ho0 b2 (Qs_start n1) (by omega) hc with ⟨q, K', y1, y2, y3⟩ | ⟨y1, K', y2, y3⟩
    · left
      have lt : t - c < (ofW n W u (al r n k n 0)).length := (List.getElem?_eq_some_iff.mp y1).1
      rw [if_pos lt]
      have b5 := body _ y2
      simp only [bns2] at b5
      exact ⟨t - c, u, q, K', rfl, y1, loopN_inr b5, (b3.mono (fun b j h => Or.inl h)).trans y3⟩
    · have nlt : ¬ t - c < (ofW n W u (al r n k n 0)).length := by omega
      rw [if_neg nlt]
      have b5 := body _ y2
      simp only [bns2] at b5
      rw [nI_1] at b5
      rw [loopN_inl (show (fun s : Int32 × Int32 × MI => f_X11_listed_b68 N (nI w) (nI k) (nI t) v4 (nI n) s.1 s.2.1 s.2.2) (nI c, nI u, K) = _ from b5)]
      have f0 : fr fH K K' := (b3.mono (fun b j h => Or.inl h)).trans y3
      rw [show t - c - (ofW n W u (al r n k n 0)).length = t - (c + (ofW n W u (al r n k n 0)).length) by omega]
      rcases ih (u + 1) (c + (ofW n W u (al r n k n 0)).length) K' M' (by omega) (okW_fH ho f0) (by omega) y1 with ⟨b, v, q, K2, z1, z2, z3, z4⟩ | ⟨z1, K2, z3, z4⟩
      · exact Or.inl ⟨b, v, q, K2, z1, z2, z3, f0.trans z4⟩
      · exact Or.inr ⟨z1, K2, z3, f0.trans z4⟩
/-- the walk's list of one WEIGHT is the class's list of stands -/
theorem sel_al (n6 : n ≤ 6) (hW : ∀ p, W p ≤ 9) {u : Nat} (hu : u < 37) : ofW n W u (al r n k n 0) = (sel r W n k u ((n + 1) ^ n)).map (vec (n + 1) n) := by
  unfold ofW sel
  rw [al_vec (Nat.le_refl n), Nat.sub_self, List.filter_filter, List.filter_map]
  congr 1
  refine List.filter_congr (fun s _ => ?_)
  show (decide (wl n W 0 (vec (n + 1) n s) = u) && okb r n k 0 (vec (n + 1) n s) 0) = decide (ws r W n k s = nI u)
  rcases ws_cases (r := r) (k := k) (s := s) n6 hW with ⟨h1, h2⟩ | ⟨h1, h2, h3⟩
  · have ne : ¬ (-1 : Int32) = nI u := neg_nI (by omega)
    rw [h1, h2, Bool.and_false]
    simp [ne]
  · have eq : (nI (wl n W 0 (vec (n + 1) n s)) = nI u) ↔ wl n W 0 (vec (n + 1) n s) = u := nI_eq (by omega) (by omega)
    rw [h1, h3, Bool.and_true]
    simp only [eq]
end LM
section SLS
variable {PL : MX → MI → ML → Prop} {PA : MI → Prop} {N : Nat}
theorem fnd_congr {f g : Nat → Nat} : ∀ {m t u : Nat}, (∀ x, u ≤ x → x < u + m → f x = g x) → fnd f m t u = fnd g m t u
  | 0, _, _, _ => rfl
  | m + 1, t, u, h => by
    rw [fnd, fnd, h u (by omega) (by omega), fnd_congr (fun x h1 h2 => h x (by omega) (by omega))]
theorem rg_len : ∀ {m a : Nat}, (rg a m).length = m
  | 0, _ => rfl
  | m + 1, a => by rw [rg, List.length_cons, rg_len]
theorem s_listed (hPL : frPL PL) (hPA : frPA PA) (hN : 1000000 ≤ N) : S_listed N (Inv0 PL PA) := by
  intro X I L x1 x2 x3 x4 hI
  rcases (six_cases x1).symm with ⟨e1, e2⟩ | ⟨w, hw, rfl, e1, e2⟩
  · refine ⟨-1, I, I, ?_, ?_, hI⟩
    · unfold f_X10_listed; rw [bnd1_some e1, if_pos rfl]
    · unfold f_X11_listed; rw [bnd1_some e2, if_pos rfl]
  have iw : inb (nI w) 6 = true := inb_nI hw (by decide)
  have cw : Int32.toNatClampNeg (nI w) = w := nI_clamp (by omega)
  obtain ⟨n, r, n1, n6, hr, hc, hm⟩ := hI.b hw
  obtain ⟨W, hW, hWW⟩ := Inv0.t' hI
  by_cases h3 : x3 < 0
  · refine ⟨-1, I, I, ?_, ?_, hI⟩
    · unfold f_X10_listed; rw [bnd1_some e1, if_neg (by decide), if_pos h3]
    · unfold f_X11_listed; rw [bnd1_some e2, if_neg (by decide), if_pos h3]
  obtain ⟨t, ht, rfl⟩ := nI_of h3
  have prow : ((x4 = -1 ∨ ∃ x, x < n ∧ x4 = nI x) ∧ f_X11_in (Int32.toInt64 x4) (-1) (Int32.toInt64 (nI n - 1)) = some 1) ∨ ((x4 < -1 ∨ ¬ x4 < nI n) ∧ f_X11_in (Int32.toInt64 x4) (-1) (Int32.toInt64 (nI n - 1)) = some 0) := by
    rcases row_cases x4 n1 n6 with ⟨a, b⟩ | ⟨x, a, b, c⟩ | ⟨a, b⟩
    · exact Or.inl ⟨Or.inl a, b⟩
    · exact Or.inl ⟨Or.inr ⟨x, a, b⟩, c⟩
    · exact Or.inr ⟨a, b⟩
  rcases prow with ⟨hin, e3⟩ | ⟨h4, e3⟩
  · have l1 : ¬ x4 < -1 := by
      rcases hin with rfl | ⟨x, hx, rfl⟩
      · decide
      · intro h
        have := nI_pos (show x < 2 ^ 31 by omega)
        rw [Int32.lt_iff_toInt_lt] at h this
        have a1 : (-1 : Int32).toInt = -1 := by decide
        have a0 : (0 : Int32).toInt = 0 := by decide
        omega
    have l2 : x4 < nI n := by
      rcases hin with rfl | ⟨x, hx, rfl⟩
      · rw [Int32.lt_iff_toInt_lt, nI_toInt (by omega)]
        have a1 : (-1 : Int32).toInt = -1 := by decide
        omega
      · exact (nI_ltI (by omega) (by omega)).mpr hx
    by_cases h0 : x2 < 0
    · refine ⟨-2, I, I, ?_, ?_, hI⟩
      · unfold f_X10_listed; rw [bnd1_some e1, if_neg (by decide), if_neg h3, if_neg l1, if_pos iw, cw, hc.1, if_pos l2, if_pos h0]
      · unfold f_X11_listed; rw [bnd1_some e2, if_neg (by decide), if_neg h3, if_pos iw, cw, hm.1, bnd1_some e3, if_neg (by decide), if_pos h0]
    obtain ⟨k, hk, rfl⟩ := nI_of h0
    by_cases n4 : n ≤ 4
    · have l4 : ¬ (4 : Int32) < nI n := by rw [nl4]; exact nI_le0 (by omega) n4
      have p4 := pow4 n (by omega)
      obtain ⟨J, a1, a2, a3, a4⟩ := weighS (N := N) (a := 12 + 4 * w) (W := W) (k := k) (I := I) (by omega) n1 n4 hk hr ⟨hc, fun p hp => (hWW p hp).1⟩ hW (by omega)
      have hcJ : J (12 + 4 * w) 0 = nI n := by rw [a4 _ _ (by omega)]; exact hc.1
      have hmJ : J 103 w = nI n := by rw [a4 _ _ (by omega)]; exact hm.1
      have okJ : okW r W n w J := ⟨BM_fr a4 (fun _ => by omega) (fun _ => by omega) hm, fun p hp => by rw [a4 _ _ (by omega)]; exact (hWW p hp).2⟩
      have sl : ∀ u, (sel r W n k u ((n + 1) ^ n)).length ≤ 625 := fun u => by
        unfold sel
        refine Nat.le_trans (List.length_filter_le _ _) ?_
        rw [rg_len]; exact p4
      obtain ⟨x, y, t1, t2⟩ := tallyC (N := N) (J := J) (S := nI ((n + 1) ^ n)) (len := fun u => (sel r W n k u ((n + 1) ^ n)).length) (fun u hu => ⟨a3 u hu, sl u⟩) 37 t 0 N (by omega) ht (by omega)
      have fE : fnd (fun u => (ofW n W u (al r n k n 0)).length) 37 t 0 = fnd (fun u => (sel r W n k u ((n + 1) ^ n)).length) 37 t 0 := fnd_congr (fun u _ hu => by rw [sel_al n6 hW (by omega), List.length_map])
      have main : (∃ b v q K', fnd (fun u => (ofW n W u (al r n k n 0)).length) 37 t 0 = some (b, v) ∧ (ofW n W v (al r n k n 0))[b]? = some q ∧ f_X11_listed_l68 N (nI w) (nI k) (nI t) x4 (nI n) 0 0 J = some (.inr (ans n v x4 q, K')) ∧ fr fH J K') ∨ (fnd (fun u => (ofW n W u (al r n k n 0)).length) 37 t 0 = none ∧ ∃ K', f_X11_listed_l68 N (nI w) (nI k) (nI t) x4 (nI n) 0 0 J = some (.inl K') ∧ fr fH J K') := by
        by_cases q : k ≤ n
        · have := lsAll (N := N) (k := k) (v4 := x4) (t := t) hw n1 n6 q hr hW hN hin ht 37 0 0 J N (by omega) okJ (by omega) (Nat.zero_le _)
          rw [Nat.sub_zero, ← nl0] at this
          exact this
        · right
          have en : al r n k n 0 = [] := al_few n6 (Nat.two_pow_pos n) (by rw [show bcn 6 0 = 0 by decide]; omega)
          refine ⟨?_, J, ?_, fr.rfl⟩
          · have zero : ∀ m t u, fnd (fun u => (ofW n W u (al r n k n 0)).length) m t u = none := by
              intro m
              induction m with
              | zero => intro t u; rfl
              | succ m ih =>
                intro t u
                rw [fnd, if_neg (by rw [en]; unfold ofW; simp)]
                exact ih _ _
            exact zero _ _ _
          · obtain ⟨N', hN'⟩ : ∃ N', N = N' + 1 := ⟨N - 1, by omega⟩
            unfold f_X11_listed_l68
            rw [hN']
            refine loopN_inr ?_
            show f_X11_listed_b68 (N' + 1) (nI w) (nI k) (nI t) x4 (nI n) 0 0 J = _
            unfold f_X11_listed_b68
            rw [if_neg (by decide), if_pos ((nI_ltI (by omega) hk).mpr (by omega))]
      have eB : ∀ z, f_X11_listed_l68 N (nI w) (nI k) (nI t) x4 (nI n) 0 0 J = z → f_X11_listed N (nI w) (nI k) (nI t) x4 J = bns1 z (fun I32 => some ((-5), I32)) (fun q34 => some q34) := fun z hz => by
        unfold f_X11_listed
        rw [bnd1_some e2, if_neg (by decide), if_neg h3, if_pos iw, cw, hmJ, bnd1_some e3, if_neg (by decide), if_neg h0, if_pos iw, if_neg l4, if_pos iw, hz]
      have inv : ∀ K, fr fH J K → Inv0 PL PA X K L := fun K hK => inv_scr hPL hPA hI ((a4.mono (S' := scr) (fun b j h => by unfold scr; omega)).trans (hK.mono (fun b j h => by unfold fH fG at h; unfold scr; omega))) frL.rfl
      rw [fE] at main
      have eA : ∀ z, f_X4_listedStand N (12 + 4 * w) 7 36 (nI k) (nI t) I = some (z, J) → f_X10_listed N (nI w) (nI k) (nI t) x4 I = (if z < 0 then some ((-5), J) else (if x4 = (-1) then bnd1 (f_X4_listedWeight z J) fun r16 => some (r16, J) else bnd1 (f_X4_columnInStand N z (nI n) x4) fun r18 => some (r18, J))) := fun z hz => by
        unfold f_X10_listed
        rw [bnd1_some e1, if_neg (by decide), if_neg h3, if_neg l1, if_pos iw, cw, hc.1, if_pos l2, if_neg h0, if_pos iw, if_neg l4, bnd2_some hz, hcJ]
      rw [← nl0] at t1
      rcases t2 with ⟨f1, rfl⟩ | ⟨b, v, f1, rfl, rfl⟩
      · rcases main with ⟨b, v, q, K', g1, _⟩ | ⟨_, K', g2, g3⟩
        · rw [f1] at g1; exact absurd g1 (by simp)
        · have hst : f_X4_listedStand N (12 + 4 * w) 7 36 (nI k) (nI t) I = some (-1, J) := by
            unfold f_X4_listedStand f_X4_listedStand_l16
            rw [bnd2_some a1, bnd2_some t1, nl37, if_neg (nI_le0 (by omega) (Nat.le_refl _))]
          refine ⟨-5, J, K', ?_, ?_, inv K' g3⟩
          · rw [eA _ hst, if_pos (by decide)]
          · rw [eB _ g2]; rfl
      · rcases main with ⟨b', v', q, K', g1, g2, g3, g4⟩ | ⟨g1, _⟩
        · rw [f1] at g1
          injection Option.some.inj g1 with i1 i2
          subst i1; subst i2
          obtain ⟨bl, vl⟩ := fnd_at f1
          rw [sel_al n6 hW (by omega), List.getElem?_map] at g2
          obtain ⟨s, s1, s2⟩ := Option.map_eq_some_iff.mp g2
          have smem : s ∈ sel r W n k v ((n + 1) ^ n) := List.mem_of_getElem? s1
          unfold sel at smem
          obtain ⟨m1, m2⟩ := List.mem_filter.mp smem
          have sb := (rg_mem m1).2
          have wsE : ws r W n k s = nI v := by simpa using m2
          have bs := sl v
          have pk := pickC (N := N) (J := J) (S := (n + 1) ^ n) (u := v) (wf := ws r W n k) p4 a2 ((n + 1) ^ n) 0 b N (by omega) (by omega) (by omega) s s1
          rw [← nl0] at pk
          have hst : f_X4_listedStand N (12 + 4 * w) 7 36 (nI k) (nI t) I = some (nI s, J) := by
            unfold f_X4_listedStand f_X4_listedStand_l16 f_X4_listedStand_l71
            rw [bnd2_some a1, bnd2_some t1, nl37, if_pos ((nI_ltI (by omega) (by omega)).mpr (by omega)), bns1_inr pk]
          refine ⟨ans n v x4 q, J, K', ?_, ?_, inv K' g4⟩
          · rw [eA _ hst, if_neg (nI_pos (by omega))]
            unfold ans
            rcases hin with rfl | ⟨x, hx, rfl⟩
            · unfold f_X4_listedWeight
              rw [if_pos rfl, if_pos rfl, if_neg (nI_pos (by omega)), nl625, if_pos ((nI_ltI (by omega) (by omega)).mpr (by omega)), if_pos (inb_nI (by omega) (by decide)), nI_clamp (by omega), a2 s (by omega), wsE, bnd1_some rfl]
            · have nx : ¬ nI x = (-1 : Int32) := fun h => neg_nI (show x < 2 ^ 31 by omega) h.symm
              rw [if_neg nx, if_neg nx, bnd1_some (digC2 n4 hx (by omega) (by omega)), nI_clamp (by omega), ← s2, vec_get (by omega) (by omega) hx]
          · rw [eB _ g3]; rfl
        · rw [f1] at g1; exact absurd g1 (by simp)
    · have l4 : (4 : Int32) < nI n := by rw [nl4]; exact (nI_ltI (by omega) (by omega)).mpr (by omega)
      refine ⟨-3, I, I, ?_, ?_, hI⟩
      · unfold f_X10_listed; rw [bnd1_some e1, if_neg (by decide), if_neg h3, if_neg l1, if_pos iw, cw, hc.1, if_pos l2, if_neg h0, if_pos iw, if_pos l4]
      · unfold f_X11_listed; rw [bnd1_some e2, if_neg (by decide), if_neg h3, if_pos iw, cw, hm.1, bnd1_some e3, if_neg (by decide), if_neg h0, if_pos iw, if_pos l4]
  · refine ⟨-1, I, I, ?_, ?_, hI⟩
    · unfold f_X10_listed
      rw [bnd1_some e1, if_neg (by decide), if_neg h3]
      by_cases q : x4 < -1
      · rw [if_pos q]
      · rw [if_neg q, if_pos iw, cw, hc.1, if_neg (h4.resolve_left q)]
    · unfold f_X11_listed; rw [bnd1_some e2, if_neg (by decide), if_neg h3, if_pos iw, cw, hm.1, bnd1_some e3, if_pos rfl]
end SLS
