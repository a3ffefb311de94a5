/-! ===== words: make, join, turn ===== -/
theorem rng_cases (v : Int32) (b : Nat) (hb : b < 2 ^ 31 - 1) {hi : Int64} (hh : hi.toInt = b) : (∃ k, k ≤ b ∧ v = nI k ∧ f_X11_in (Int32.toInt64 v) 0 hi = some 1) ∨ ((v < 0 ∨ nI b < v) ∧ f_X11_in (Int32.toInt64 v) 0 hi = some 0) := by
  rcases nI_cases v (b + 1) (by omega) with ⟨w, hw, rfl⟩ | h
  · exact Or.inl ⟨w, by omega, rfl, in_ok (a := 0) (b := b) (by decide) hh (by omega) (by omega) (by omega)⟩
  · have e0 : v < 0 ↔ v.toInt < 0 := by rw [Int32.lt_iff_toInt_lt]; rfl
    have e1 : v < nI (b + 1) ↔ v.toInt < b + 1 := by rw [Int32.lt_iff_toInt_lt, nI_toInt (by omega)]; rfl
    have e2 : nI b < v ↔ (b : Int) < v.toInt := by rw [Int32.lt_iff_toInt_lt, nI_toInt (by omega)]
    refine Or.inr ⟨?_, in_no (a := 0) (b := b) (by decide) hh ?_⟩
    · rw [e0, e2]; rw [e0, e1] at h; omega
    · rw [e0, e1] at h; omega
theorem nI_le0 {k b : Nat} (hb : b < 2 ^ 31) (h : k ≤ b) : ¬ nI b < nI k := by rw [nI_ltI hb (by omega)]; omega
theorem push1_spec {N a : Nat} {l : List Int32} {s : Int32} {I : MI} (hc : WC I a l) (h : l.length + 1 ≤ 12) (hN : 1 < N) : ∃ I', f_X9_push N a s 1 I = some I' ∧ WC I' a (l ++ [s]) ∧ fr (fc a) I I' := push_spec (k := 1) hc h hN
theorem comes1_spec {N w : Nat} {l : List Int32} {s : Int32} {I : MI} (hw : w < 6) (hc : WM I 100 101 w l) (h : l.length + 1 ≤ 12) (hN : 1 < N) : ∃ I', f_X11_comes N (nI w) s 1 I = some I' ∧ WM I' 100 101 w (l ++ [s]) ∧ fr (fm w) I I' := comes_spec (k := 1) hw hc h hN
def mkp (p q : Int32) : Nat → List Int32
  | 0 => []
  | j + 1 => mkp p q j ++ [p] ++ [q]
def gr : Nat → List Int32
  | 0 => []
  | j + 1 => gr j ++ List.replicate (j + 1) 1 ++ [0]
theorem mkp_len (p q : Int32) : ∀ j, (mkp p q j).length = 2 * j
  | 0 => rfl
  | j + 1 => by simp only [mkp, List.length_append, mkp_len p q j, List.length_cons, List.length_nil]; omega
theorem gr_len : ∀ j, (gr (j + 1)).length = (gr j).length + (j + 1) + 1 := by
  intro j
  simp only [gr, List.length_append, List.length_replicate, List.length_cons, List.length_nil]
theorem gr_l0 : (gr 0).length = 0 := rfl
theorem gr_l1 : (gr 1).length = 2 := by rw [gr_len, gr_l0]
theorem gr_l2 : (gr 2).length = 5 := by rw [gr_len, gr_l1]
theorem gr_l3 : (gr 3).length = 9 := by rw [gr_len, gr_l2]
theorem pairs_spec {N a m : Nat} {p q : Int32} {I : MI} (hc : WC I a []) (hm : m ≤ 6) (hN : 20 ≤ N) : ∃ I', f_X9_pushPairs N a p q (nI m) I = some I' ∧ WC I' a (mkp p q m) ∧ fr (fc a) I I' := by
  have key := loop_inv (f := fun s' : Int32 × MI => f_X9_pushPairs_b3 N a p q (nI m) s'.1 s'.2) (fun j st => st.1 = nI j ∧ WC st.2 a (mkp p q j) ∧ fr (fc a) I st.2) (fun I' => WC I' a (mkp p q m) ∧ fr (fc a) I I') m ?_ ?_ N 0 (nI 0, I) (Nat.zero_le m) (by omega) ⟨rfl, hc, fr.rfl⟩
  · obtain ⟨I', e, p1, p2⟩ := key
    refine ⟨I', ?_, p1, p2⟩
    unfold f_X9_pushPairs f_X9_pushPairs_l3
    rw [nl0]
    exact bnd1_some e
  · rintro j ⟨c, J⟩ hj ⟨e1, w1, f1⟩
    simp only at e1 w1 f1
    subst e1
    have hlen := mkp_len p q j
    obtain ⟨J1, g1, g2, g3⟩ := push1_spec (N := N) (s := p) w1 (by omega) (by omega)
    obtain ⟨J2, k1, k2, k3⟩ := push1_spec (N := N) (s := q) g2 (by simp; omega) (by omega)
    refine ⟨(nI (j + 1), J2), ?_, rfl, k2, f1.trans (g3.trans k3)⟩
    show f_X9_pushPairs_b3 N a p q (nI m) (nI j) J = _
    unfold f_X9_pushPairs_b3
    rw [if_pos ((nI_ltI (by omega) (by omega)).mpr hj), bnd1_some g1, bnd1_some k1, nI_1]
  · rintro ⟨c, J⟩ ⟨e1, w1, f1⟩
    simp only at e1 w1 f1
    subst e1
    refine ⟨J, ?_, w1, f1⟩
    show f_X9_pushPairs_b3 N a p q (nI m) (nI m) J = _
    unfold f_X9_pushPairs_b3
    rw [if_neg (by rw [nI_ltI (by omega) (by omega)]; omega)]
theorem mpairs_spec {N w m : Nat} {v2 p q : Int32} {I : MI} (hp : v2 - 1 = p) (hq : 2 - v2 = q) (hw : w < 6) (hc : WM I 100 101 w []) (hm : m ≤ 6) (hN : 20 ≤ N) : ∃ I', f_X11_make_l88 N (nI w) v2 (nI m) 0 I = some I' ∧ WM I' 100 101 w (mkp p q m) ∧ fr (fm w) I I' := by
  have key := loop_inv (f := fun s' : Int32 × MI => f_X11_make_b88 N (nI w) v2 (nI m) s'.1 s'.2) (fun j st => st.1 = nI j ∧ WM st.2 100 101 w (mkp p q j) ∧ fr (fm w) I st.2) (fun I' => WM I' 100 101 w (mkp p q m) ∧ fr (fm w) I I') m ?_ ?_ N 0 (nI 0, I) (Nat.zero_le m) (by omega) ⟨rfl, hc, fr.rfl⟩
  · obtain ⟨I', e, p1, p2⟩ := key
    exact ⟨I', e, p1, p2⟩
  · rintro j ⟨c, J⟩ hj ⟨e1, w1, f1⟩
    simp only at e1 w1 f1
    subst e1
    have hlen := mkp_len p q j
    obtain ⟨J1, g1, g2, g3⟩ := comes1_spec (N := N) (s := p) hw w1 (by omega) (by omega)
    obtain ⟨J2, k1, k2, k3⟩ := comes1_spec (N := N) (s := q) hw g2 (by simp; omega) (by omega)
    refine ⟨(nI (j + 1), J2), ?_, rfl, k2, f1.trans (g3.trans k3)⟩
    show f_X11_make_b88 N (nI w) v2 (nI m) (nI j) J = _
    unfold f_X11_make_b88
    rw [if_pos ((nI_ltI (by omega) (by omega)).mpr hj), hp, hq, bnd1_some g1, bnd1_some k1, nI_1]
  · rintro ⟨c, J⟩ ⟨e1, w1, f1⟩
    simp only at e1 w1 f1
    subst e1
    refine ⟨J, ?_, w1, f1⟩
    show f_X11_make_b88 N (nI w) v2 (nI m) (nI m) J = _
    unfold f_X11_make_b88
    rw [if_neg (by rw [nI_ltI (by omega) (by omega)]; omega)]
theorem gr_room {j m : Nat} (h : j ≤ min m 3) : ((gr j).length + (j + 1) + 1 ≤ 12) ↔ j < 3 := by
  have : j = 0 ∨ j = 1 ∨ j = 2 ∨ j = 3 := by omega
  rcases this with rfl | rfl | rfl | rfl
  · rw [gr_l0]; decide
  · rw [gr_l1]; decide
  · rw [gr_l2]; decide
  · rw [gr_l3]; decide
theorem gr_le {j : Nat} (h : j ≤ 3) : (gr j).length ≤ 9 := by
  have : j = 0 ∨ j = 1 ∨ j = 2 ∨ j = 3 := by omega
  rcases this with rfl | rfl | rfl | rfl
  · rw [gr_l0]; decide
  · rw [gr_l1]; decide
  · rw [gr_l2]; decide
  · rw [gr_l3]; decide
theorem growing_spec {N a m : Nat} {I : MI} (hc : WC I a []) (hm : m ≤ 6) (hN : 20 ≤ N) : ∃ I', f_X9_pushGrowing N a (nI m) I = some I' ∧ WC I' a (gr (min m 3)) ∧ fr (fc a) I I' := by
  have key := loop_inv (f := fun s' : Int32 × MI => f_X9_pushGrowing_b2 N a (nI m) s'.1 s'.2) (fun j st => st.1 = nI (j + 1) ∧ WC st.2 a (gr j) ∧ fr (fc a) I st.2) (fun I' => WC I' a (gr (min m 3)) ∧ fr (fc a) I I') (min m 3) ?_ ?_ N 0 (nI 1, I) (Nat.zero_le _) (by omega) ⟨rfl, hc, fr.rfl⟩
  · obtain ⟨I', e, p1, p2⟩ := key
    refine ⟨I', ?_, p1, p2⟩
    unfold f_X9_pushGrowing f_X9_pushGrowing_l2
    rw [nl1]
    exact bnd1_some e
  · rintro j ⟨c, J⟩ hj ⟨e1, w1, f1⟩
    simp only at e1 w1 f1
    subst e1
    have hr := (gr_room (j := j) (m := m) (by omega)).mpr (by omega)
    obtain ⟨J1, g1, g2, g3⟩ := push_spec (N := N) (k := j + 1) (s := 1) w1 (by omega) (by omega)
    obtain ⟨J2, k1, k2, k3⟩ := push1_spec (N := N) (s := 0) g2 (by simp; omega) (by omega)
    refine ⟨(nI (j + 1 + 1), J2), ?_, rfl, k2, f1.trans (g3.trans k3)⟩
    show f_X9_pushGrowing_b2 N a (nI m) (nI (j + 1)) J = _
    unfold f_X9_pushGrowing_b2
    rw [if_neg (nI_le0 (by omega) (by omega)), nI_1, hasRoom_spec w1.1 (by omega) (by omega), if_pos (by omega), bnd1_some rfl, if_neg (by decide), bnd1_some g1, bnd1_some k1]
  · rintro ⟨c, J⟩ ⟨e1, w1, f1⟩
    simp only at e1 w1 f1
    subst e1
    refine ⟨J, ?_, w1, f1⟩
    show f_X9_pushGrowing_b2 N a (nI m) (nI (min m 3 + 1)) J = _
    unfold f_X9_pushGrowing_b2
    by_cases q : m ≤ 3
    · rw [if_pos ((nI_ltI (by omega) (by omega)).mpr (by omega))]
    · have e : min m 3 = 3 := by omega
      rw [e] at w1 ⊢
      have h9 := gr_l3
      rw [if_neg (nI_le0 (by omega) (by omega)), nI_1, hasRoom_spec w1.1 (by omega) (by omega), if_neg (by omega), bnd1_some rfl, if_pos rfl]
theorem mgrowing_spec {N w m : Nat} {I : MI} (hw : w < 6) (hc : WM I 100 101 w []) (hm : m ≤ 6) (hN : 20 ≤ N) : ∃ I', f_X11_make_l153 N (nI w) (nI m) 1 I = some I' ∧ WM I' 100 101 w (gr (min m 3)) ∧ fr (fm w) I I' := by
  have iw : inb (nI w) 6 = true := inb_nI hw (by decide)
  have cw : Int32.toNatClampNeg (nI w) = w := nI_clamp (by omega)
  have key := loop_inv (f := fun s' : Int32 × MI => f_X11_make_b153 N (nI w) (nI m) s'.1 s'.2) (fun j st => st.1 = nI (j + 1) ∧ WM st.2 100 101 w (gr j) ∧ fr (fm w) I st.2) (fun I' => WM I' 100 101 w (gr (min m 3)) ∧ fr (fm w) I I') (min m 3) ?_ ?_ N 0 (nI 1, I) (Nat.zero_le _) (by omega) ⟨rfl, hc, fr.rfl⟩
  · obtain ⟨I', e, p1, p2⟩ := key
    exact ⟨I', e, p1, p2⟩
  · rintro j ⟨c, J⟩ hj ⟨e1, w1, f1⟩
    simp only at e1 w1 f1
    subst e1
    have hr := (gr_room (j := j) (m := m) (by omega)).mpr (by omega)
    obtain ⟨J1, g1, g2, g3⟩ := comes_spec (N := N) (k := j + 1) (s := 1) hw w1 (by omega) (by omega)
    obtain ⟨J2, k1, k2, k3⟩ := comes1_spec (N := N) (s := 0) hw g2 (by simp; omega) (by omega)
    refine ⟨(nI (j + 1 + 1), J2), ?_, rfl, k2, f1.trans (g3.trans k3)⟩
    show f_X11_make_b153 N (nI w) (nI m) (nI (j + 1)) J = _
    unfold f_X11_make_b153
    rw [if_neg (nI_le0 (by omega) (by omega)), if_pos iw, cw, w1.1, nI_add, nI_1, nl12, if_neg (nI_le0 (by omega) (by omega)), bnd1_some g1, bnd1_some k1, nI_1]
  · rintro ⟨c, J⟩ ⟨e1, w1, f1⟩
    simp only at e1 w1 f1
    subst e1
    refine ⟨J, ?_, w1, f1⟩
    show f_X11_make_b153 N (nI w) (nI m) (nI (min m 3 + 1)) J = _
    unfold f_X11_make_b153
    by_cases q : m ≤ 3
    · rw [if_pos ((nI_ltI (by omega) (by omega)).mpr (by omega))]
    · have e : min m 3 = 3 := by omega
      rw [e] at w1 ⊢
      have h9 := gr_l3
      rw [if_neg (nI_le0 (by omega) (by omega)), if_pos iw, cw, w1.1, nI_add, nI_1, nl12, if_pos ((nI_ltI (by omega) (by omega)).mpr (by omega))]
def mkw : Nat → Nat → List Int32
  | 0, m => List.replicate m 0 ++ List.replicate m 1
  | 1, m => mkp 0 1 m
  | 2, m => mkp 1 0 m
  | 3, m => List.replicate m 1 ++ List.replicate m 0
  | 4, m => [0] ++ List.replicate m 1 ++ [0]
  | _, m => gr (min m 3)
theorem bits_mkp {p q : Int32} (hp : p = 0 ∨ p = 1) (hq : q = 0 ∨ q = 1) : ∀ m, bits (mkp p q m)
  | 0 => by intro x hx; simp [mkp] at hx
  | m + 1 => bits_app (bits_app (bits_mkp hp hq m) (by intro x hx; simp at hx; rw [hx]; exact hp)) (by intro x hx; simp at hx; rw [hx]; exact hq)
theorem bits_gr : ∀ m, bits (gr m)
  | 0 => by intro x hx; simp [gr] at hx
  | m + 1 => bits_app (bits_app (bits_gr m) (bits_rep (Or.inr rfl))) (by intro x hx; simp at hx; rw [hx]; exact Or.inl rfl)
theorem mkw_bits (k m : Nat) : bits (mkw k m) := by
  unfold mkw
  split
  · exact bits_app (bits_rep (Or.inl rfl)) (bits_rep (Or.inr rfl))
  · exact bits_mkp (Or.inl rfl) (Or.inr rfl) m
  · exact bits_mkp (Or.inr rfl) (Or.inl rfl) m
  · exact bits_app (bits_rep (Or.inr rfl)) (bits_rep (Or.inl rfl))
  · exact bits_app (bits_app (by intro x hx; simp at hx; rw [hx]; exact Or.inl rfl) (bits_rep (Or.inr rfl))) (by intro x hx; simp at hx; rw [hx]; exact Or.inl rfl)
  · exact bits_gr _
theorem mkw_len {k m : Nat} (hm : m ≤ 6) : (mkw k m).length ≤ 12 := by
  unfold mkw
  split
  · simp; omega
  · rw [mkp_len]; omega
  · rw [mkp_len]; omega
  · simp; omega
  · simp; omega
  · have := gr_le (j := min m 3) (by omega); omega
theorem fill_spec {N a k m : Nat} {I : MI} (hc : WC I a []) (hk : k < 6) (hm : m ≤ 6) (hN : 20 ≤ N) : ∃ I', f_X9_fillByKind N a (nI k) (nI m) I = some I' ∧ WC I' a (mkw k m) ∧ fr (fc a) I I' := by
  have hk : k = 0 ∨ k = 1 ∨ k = 2 ∨ k = 3 ∨ k = 4 ∨ k = 5 := by omega
  unfold f_X9_fillByKind
  rcases hk with rfl | rfl | rfl | rfl | rfl | rfl
  · obtain ⟨J1, g1, g2, g3⟩ := push_spec (N := N) (k := m) (s := 0) hc (by simp; omega) (by omega)
    obtain ⟨J2, k1, k2, k3⟩ := push_spec (N := N) (k := m) (s := 1) g2 (by simp; omega) (by omega)
    refine ⟨J2, ?_, k2, g3.trans k3⟩
    rw [if_pos (by decide), bnd1_some g1, bnd1_some k1]
  · obtain ⟨J1, g1, g2, g3⟩ := pairs_spec (N := N) (m := m) (p := 0) (q := 1) hc hm hN
    refine ⟨J1, ?_, g2, g3⟩
    rw [if_neg (by decide), if_pos (by decide), bnd1_some g1]
  · obtain ⟨J1, g1, g2, g3⟩ := pairs_spec (N := N) (m := m) (p := 1) (q := 0) hc hm hN
    refine ⟨J1, ?_, g2, g3⟩
    rw [if_neg (by decide), if_neg (by decide), if_pos (by decide), bnd1_some g1]
  · obtain ⟨J1, g1, g2, g3⟩ := push_spec (N := N) (k := m) (s := 1) hc (by simp; omega) (by omega)
    obtain ⟨J2, k1, k2, k3⟩ := push_spec (N := N) (k := m) (s := 0) g2 (by simp; omega) (by omega)
    refine ⟨J2, ?_, k2, g3.trans k3⟩
    rw [if_neg (by decide), if_neg (by decide), if_neg (by decide), if_pos (by decide), bnd1_some g1, bnd1_some k1]
  · obtain ⟨J1, g1, g2, g3⟩ := push1_spec (N := N) (s := 0) hc (by simp) (by omega)
    obtain ⟨J2, k1, k2, k3⟩ := push_spec (N := N) (k := m) (s := 1) g2 (by simp; omega) (by omega)
    obtain ⟨J3, l1, l2, l3⟩ := push1_spec (N := N) (s := 0) k2 (by simp; omega) (by omega)
    refine ⟨J3, ?_, l2, g3.trans (k3.trans l3)⟩
    rw [if_neg (by decide), if_neg (by decide), if_neg (by decide), if_neg (by decide), if_pos (by decide), bnd1_some g1, bnd1_some k1, bnd1_some l1]
  · obtain ⟨J1, g1, g2, g3⟩ := growing_spec (N := N) (m := m) hc hm hN
    refine ⟨J1, ?_, g2, g3⟩
    rw [if_neg (by decide), if_neg (by decide), if_neg (by decide), if_neg (by decide), if_neg (by decide), bnd1_some g1]
theorem mfill_spec {N w k m : Nat} {I : MI} (hw : w < 6) (hk : k < 6) (hm : m ≤ 6) (hN : 20 ≤ N) : ∃ I', f_X11_make N (nI w) (nI k) (nI m) I = some (nI (mkw k m).length, I') ∧ WM I' 100 101 w (mkw k m) ∧ fr (fm w) I I' := by
  have iw : inb (nI w) 6 = true := inb_nI hw (by decide)
  have cw : Int32.toNatClampNeg (nI w) = w := nI_clamp (by omega)
  have hc : WM (upI I 100 w 0) 100 101 w [] := ⟨by rw [upI_eq]; exact nl0, by intro i x hx; simp at hx⟩
  have f0 : fr (fm w) I (upI I 100 w 0) := fr.up (Or.inl ⟨rfl, rfl⟩)
  have hin : f_X11_in (Int32.toInt64 (nI m)) 0 6 = some 1 := in_ok (a := 0) (b := 6) (by decide) (by decide) (by omega) (by omega) hm
  unfold f_X11_make
  rw [bnd1_some (six_ok hw), if_neg (by decide), bnd1_some (six_ok hk), if_neg (by decide), bnd1_some hin, if_neg (by decide), if_pos iw, cw]
  simp only [letv]
  have hk : k = 0 ∨ k = 1 ∨ k = 2 ∨ k = 3 ∨ k = 4 ∨ k = 5 := by omega
  rcases hk with rfl | rfl | rfl | rfl | rfl | rfl
  · obtain ⟨J1, g1, g2, g3⟩ := comes_spec (N := N) (k := m) (s := 0) hw hc (by simp; omega) (by omega)
    obtain ⟨J2, k1, k2, k3⟩ := comes_spec (N := N) (k := m) (s := 1) hw g2 (by simp; omega) (by omega)
    refine ⟨J2, ?_, k2, f0.trans (g3.trans k3)⟩
    rw [if_pos (by decide)]
    unfold f_X11_make_j47
    rw [if_pos (by decide)]
    unfold f_X11_make_j58
    rw [bnd1_some g1, if_pos (by decide), bnd1_some k1, if_pos iw, cw, k2.1]
    rfl
  · obtain ⟨J1, g1, g2, g3⟩ := mpairs_spec (N := N) (m := m) (v2 := nI 1) (p := 0) (q := 1) (by decide) (by decide) hw hc hm hN
    refine ⟨J1, ?_, g2, f0.trans g3⟩
    rw [if_neg (by decide), if_neg (by decide), if_pos (by decide), bnd1_some g1, if_pos iw, g2.1]
    rfl
  · obtain ⟨J1, g1, g2, g3⟩ := mpairs_spec (N := N) (m := m) (v2 := nI 2) (p := 1) (q := 0) (by decide) (by decide) hw hc hm hN
    refine ⟨J1, ?_, g2, f0.trans g3⟩
    rw [if_neg (by decide), if_neg (by decide), if_pos (by decide), bnd1_some g1, if_pos iw, g2.1]
    rfl
  · obtain ⟨J1, g1, g2, g3⟩ := comes_spec (N := N) (k := m) (s := 1) hw hc (by simp; omega) (by omega)
    obtain ⟨J2, k1, k2, k3⟩ := comes_spec (N := N) (k := m) (s := 0) hw g2 (by simp; omega) (by omega)
    refine ⟨J2, ?_, k2, f0.trans (g3.trans k3)⟩
    rw [if_neg (by decide), if_pos (by decide)]
    unfold f_X11_make_j47
    rw [if_neg (by decide)]
    unfold f_X11_make_j58
    rw [bnd1_some g1, if_neg (by decide), bnd1_some k1, if_pos iw, cw, k2.1]
    rfl
  · obtain ⟨J1, g1, g2, g3⟩ := comes1_spec (N := N) (s := 0) hw hc (by simp) (by omega)
    obtain ⟨J2, k1, k2, k3⟩ := comes_spec (N := N) (k := m) (s := 1) hw g2 (by simp; omega) (by omega)
    obtain ⟨J3, l1, l2, l3⟩ := comes1_spec (N := N) (s := 0) hw k2 (by simp; omega) (by omega)
    refine ⟨J3, ?_, l2, f0.trans (g3.trans (k3.trans l3))⟩
    rw [if_neg (by decide), if_neg (by decide), if_neg (by decide), if_pos (by decide), bnd1_some g1, bnd1_some k1, bnd1_some l1, if_pos iw, l2.1]
    rfl
  · obtain ⟨J1, g1, g2, g3⟩ := mgrowing_spec (N := N) (m := m) hw hc hm hN
    refine ⟨J1, ?_, g2, f0.trans g3⟩
    rw [if_neg (by decide), if_neg (by decide), if_neg (by decide), if_neg (by decide), bnd1_some g1, if_pos iw, g2.1]
    rfl
section WS2
variable {PL : MX → MI → ML → Prop} {PA : MI → Prop} {N : Nat}
theorem s_make (hPL : frPL PL) (hPA : frPA PA) (hN : 20 ≤ N) : S_make N (Inv0 PL PA) := by
  intro X I L x1 x2 x3 hI
  rcases six_cases x1 with ⟨w, hw, rfl, e1, e2⟩ | ⟨e1, e2⟩
  · have iw : inb (nI w) 6 = true := inb_nI hw (by decide)
    have cw : Int32.toNatClampNeg (nI w) = w := nI_clamp (by omega)
    rcases nI_cases x2 6 (by decide) with ⟨k, hk, rfl⟩ | h2
    · rcases rng_cases x3 6 (by decide) (hi := 6) (by decide) with ⟨m, hm, rfl, e3⟩ | ⟨h3, e3⟩
      · have hc : WC (upI I (10 + 4 * w) 1 0) (10 + 4 * w) [] := ⟨by rw [upI_eq]; exact nl0, by intro i x hx; simp at hx⟩
        obtain ⟨J, g1, g2, g3⟩ := fill_spec (N := N) hc hk hm hN
        obtain ⟨K, k1, k2, k3⟩ := mfill_spec (N := N) (I := J) hw hk hm hN
        have f0 : fr (sW w) I (upI I (10 + 4 * w) 1 0) := fr.up (by unfold sW; omega)
        refine ⟨_, J, K, ?_, k1, inv_word hPL hPA hI hw (f0.trans ((g3.mono sW_c).trans (k3.mono sW_m))) ⟨mkw k m, mkw_len hm, mkw_bits k m, WC_fr k3 (fun j h => by unfold fm at h; omega) (fun j h => by unfold fm at h; omega) g2, k2⟩⟩
        unfold f_X10_make
        rw [bnd1_some e1, if_neg (by decide), if_neg (nI_pos (by omega)), nl5, if_neg (nI_le0 (by omega) (by omega)), if_neg (nI_pos (by omega)), nl6, if_neg (nI_le0 (by omega) (by omega)), if_pos iw, cw]
        simp only [letv]
        rw [bnd1_some g1, g2.1]
      · refine ⟨-2, I, I, ?_, ?_, hI⟩
        · unfold f_X10_make
          rw [bnd1_some e1, if_neg (by decide), if_neg (nI_pos (by omega)), nl5, if_neg (nI_le0 (by omega) (by omega))]
          rcases h3 with h3 | h3
          · rw [if_pos h3]
          · by_cases q : x3 < 0
            · rw [if_pos q]
            · rw [if_neg q, nl6, if_pos h3]
        · unfold f_X11_make
          rw [bnd1_some e2, if_neg (by decide), bnd1_some (six_ok hk), if_neg (by decide), bnd1_some e3, if_pos rfl]
    · refine ⟨-1, I, I, ?_, ?_, hI⟩
      · unfold f_X10_make
        rw [bnd1_some e1, if_neg (by decide)]
        by_cases q : x2 < 0
        · rw [if_pos q]
        · rw [if_neg q, if_pos]
          have h2 := h2.resolve_left q
          rw [Int32.lt_iff_toInt_lt] at h2 ⊢
          rw [nI_toInt (by decide)] at h2
          have : (5 : Int32).toInt = 5 := by decide
          omega
      · unfold f_X11_make
        rw [bnd1_some e2, if_neg (by decide), bnd1_some (six_no (by rw [nl6]; exact h2)), if_pos rfl]
  · refine ⟨-1, I, I, ?_, ?_, hI⟩
    · unfold f_X10_make; rw [bnd1_some e1, if_pos rfl]
    · unfold f_X11_make; rw [bnd1_some e2, if_pos rfl]
end WS2
