/-! ===== board: the BOARD of a WORD ===== -/
def wrd : List Int32 → Nat → Nat → (Nat → Nat) → (Nat → Nat)
  | [], _, _, r => r
  | x :: l, d, u, r => if x = 1 then wrd l (d + 1) u r else wrd l d (u + 1) (fun i => if i < d then r i ||| 2 ^ u else r i)
def nU : List Int32 → Nat
  | [] => 0
  | x :: l => if x = 1 then nU l else nU l + 1
theorem nU_1 {x : Int32} {l : List Int32} (q : x = 1) : nU (x :: l) = nU l := by rw [nU, if_pos q]
theorem nU_n {x : Int32} {l : List Int32} (q : ¬ x = 1) : nU (x :: l) = nU l + 1 := by rw [nU, if_neg q]
theorem wrd_1 {x : Int32} {l : List Int32} {d u : Nat} {r : Nat → Nat} (q : x = 1) : wrd (x :: l) d u r = wrd l (d + 1) u r := by rw [wrd, if_pos q]
theorem wrd_n {x : Int32} {l : List Int32} {d u : Nat} {r : Nat → Nat} (q : ¬ x = 1) : wrd (x :: l) d u r = wrd l d (u + 1) (fun i => if i < d then r i ||| 2 ^ u else r i) := by rw [wrd, if_neg q]
theorem nU_le : ∀ l : List Int32, nU l ≤ l.length
  | [] => Nat.le_refl _
  | x :: l => by
    have := nU_le l
    by_cases q : x = 1
    · rw [nU_1 q, List.length_cons]; omega
    · rw [nU_n q, List.length_cons]; omega
theorem wrd_lt {n : Nat} : ∀ (l : List Int32) (d u : Nat) (r : Nat → Nat), u + nU l ≤ n → (∀ i, r i < 2 ^ n) → ∀ i, wrd l d u r i < 2 ^ n
  | [], _, _, _, _, h, i => h i
  | x :: l, d, u, r, hu, h, i => by
    by_cases q : x = 1
    · rw [wrd_1 q]; rw [nU_1 q] at hu; exact wrd_lt l _ _ _ hu h i
    · rw [wrd_n q]; rw [nU_n q] at hu
      refine wrd_lt l _ _ _ (by omega) (fun i => ?_) i
      show (if i < d then r i ||| 2 ^ u else r i) < 2 ^ n
      split
      · exact Nat.or_lt_two_pow (h i) (Nat.pow_lt_pow_right (by omega) (by omega))
      · exact h i
theorem drop_c {l : List Int32} {j : Nat} {x : Int32} (hj : j < l.length) (hx : l[j]? = some x) : l.drop j = x :: l.drop (j + 1) := by
  rw [List.drop_eq_getElem_cons hj]; congr 1
  rw [List.getElem?_eq_getElem hj] at hx; exact Option.some.inj hx
theorem ups_cnt {N : Nat} {I : MI} {w : Nat} {l : List Int32} (hw : w < 6) (hl : l.length ≤ 12) (hb : bits l) (hc : WC I (10 + 4 * w) l) (hm : WM I 100 101 w l) (hN : 20 ≤ N) : f_X9_ups N (10 + 4 * w) I = some (nI (nU l)) ∧ f_X11_lettersU N (nI w) I = some (nI (nU l)) := by
  obtain ⟨r, g1, g2⟩ := ups_both (N := N) hw hl hc hm hN
  have key := loop_inv (f := fun s : Int32 × Int32 => f_X9_ups_b4 N (10 + 4 * w) s.1 s.2 I) (fun j st => st.2 = nI j ∧ ∃ u, u + nU (l.drop j) = nU l ∧ st.1 = nI u) (fun r => r = nI (nU l)) l.length ?_ ?_ N 0 (0, 0) (Nat.zero_le _) (by omega) ⟨nl0, 0, by simp, nl0⟩
  · obtain ⟨r', e, e'⟩ := key
    have : f_X9_ups N (10 + 4 * w) I = some r' := by unfold f_X9_ups f_X9_ups_l4; exact bnd1_some e
    have er : r = r' := Option.some.inj (g1.symm.trans this)
    subst er; subst e'
    exact ⟨g1, g2⟩
  · rintro j ⟨c, d⟩ hj ⟨e1, u, hu, e2⟩
    simp only at e1 e2
    subst e1; subst e2
    obtain ⟨x, hx⟩ := get_some hj
    rw [drop_c hj hx] at hu
    show ∃ s', f_X9_ups_b4 N (10 + 4 * w) (nI u) (nI j) I = _ ∧ _
    unfold f_X9_ups_b4
    rw [hc.1, if_pos ((nI_ltI (by omega) (by omega)).mpr hj), if_pos (inb_nI (by omega) (by decide)), nI_clamp (by omega), hc.2 j x hx]
    rcases hb x (List.mem_of_getElem? hx) with q | q
    · rw [nU_n (by rw [q]; decide)] at hu
      rw [if_pos q]; exact ⟨_, rfl, nI_1 _, u + 1, by omega, nI_1 _⟩
    · rw [nU_1 q] at hu
      rw [if_neg (by rw [q]; decide)]; exact ⟨_, rfl, nI_1 _, u, by omega, rfl⟩
  · rintro ⟨c, d⟩ ⟨e1, u, hu, e2⟩
    simp only at e1 e2
    subst e1; subst e2
    rw [List.drop_length, nU] at hu
    refine ⟨nI u, ?_, by rw [← hu]; rfl⟩
    show f_X9_ups_b4 N (10 + 4 * w) (nI u) (nI l.length) I = _
    unfold f_X9_ups_b4
    rw [hc.1, if_neg (nI_le0 (by omega) (Nat.le_refl _))]
theorem bwC {N a0 a1 n d u : Nat} {v4 : Int32} {r : Nat → Nat} {I : MI} (h0 : I a0 0 = nI n) (n6 : n ≤ 6) (hd : d ≤ n) (hu : u < 6) (hr : ∀ i, i < 6 → I (a0 + 1) i = nI (r i)) (hN : 20 ≤ N) : ∃ J, f_X0_becomeWord_l55 N a0 a1 (nI u) (nI d) v4 0 I = some J ∧ (∀ i, i < 6 → J (a0 + 1) i = nI (if i < d then r i ||| 2 ^ u else r i)) ∧ fr (fun b j => b = a0 + 1) I J := by
  refine loop_inv (f := fun s : Int32 × MI => f_X0_becomeWord_b55 N a0 a1 (nI u) (nI d) v4 s.1 s.2) (fun k st => st.1 = nI k ∧ (∀ i, i < 6 → st.2 (a0 + 1) i = nI (if i < k then r i ||| 2 ^ u else r i)) ∧ fr (fun b j => b = a0 + 1) I st.2) _ d ?_ ?_ N 0 (0, I) (Nat.zero_le _) (by omega) ⟨nl0, fun i hi => by rw [if_neg (by omega)]; exact hr i hi, fr.rfl⟩
  · rintro k ⟨c, J⟩ hk ⟨e1, w1, f1⟩
    simp only at e1 w1 f1
    subst e1
    have wk := w1 k (by omega)
    rw [if_neg (by omega)] at wk
    have ik : inb (nI k) 6 = true := inb_nI (by omega) (by decide)
    refine ⟨(nI (k + 1), upI J (a0 + 1) k (nI (r k ||| 2 ^ u))), ?_, rfl, fun i hi => ?_, f1.trans (fr.up rfl)⟩
    · show f_X0_becomeWord_b55 N a0 a1 (nI u) (nI d) v4 (nI k) J = _
      unfold f_X0_becomeWord_b55
      rw [if_pos ((nI_ltI (by omega) (by omega)).mpr hk), f1 a0 0 (by omega), h0, if_pos ((nI_ltI (by omega) (by omega)).mpr (by omega)), if_pos ik, if_pos ik, nI_clamp (by omega), wk, shl1 u (by omega), nI_or, nI_1]
      rfl
    · show upI J (a0 + 1) k _ (a0 + 1) i = _
      rw [upI_at]
      by_cases q : i = k
      · rw [if_pos q, if_pos (by omega), q]
      · rw [if_neg q, w1 i hi]
        have c1 : i < k ↔ i < k + 1 := by omega
        simp only [c1]
  · rintro ⟨c, J⟩ ⟨e1, w1, f1⟩
    simp only at e1 w1 f1
    subst e1
    refine ⟨J, ?_, w1, f1⟩
    show f_X0_becomeWord_b55 N a0 a1 (nI u) (nI d) v4 (nI d) J = _
    unfold f_X0_becomeWord_b55
    rw [if_neg (nI_le0 (by omega) (Nat.le_refl _))]
theorem bwM {N w d u : Nat} {v2 v8 : Int32} {r : Nat → Nat} {I : MI} (hw : w < 6) (hd : d ≤ 6) (hu : u < 6) (hr : ∀ i, i < 6 → I 104 (6 * w + i) = nI (r i)) (hN : 20 ≤ N) : ∃ J, f_X11_board_l124 N (nI w) v2 (nI d) (nI u) v8 0 I = some J ∧ (∀ i, i < 6 → J 104 (6 * w + i) = nI (if i < d then r i ||| 2 ^ u else r i)) ∧ fr (fun b j => b = 104 ∧ 6 * w ≤ j ∧ j < 6 * w + 6) I J := by
  refine loop_inv (f := fun s : Int32 × MI => f_X11_board_b124 N (nI w) v2 (nI d) (nI u) v8 s.1 s.2) (fun k st => st.1 = nI k ∧ (∀ i, i < 6 → st.2 104 (6 * w + i) = nI (if i < k then r i ||| 2 ^ u else r i)) ∧ fr (fun b j => b = 104 ∧ 6 * w ≤ j ∧ j < 6 * w + 6) I st.2) _ d ?_ ?_ N 0 (0, I) (Nat.zero_le _) (by omega) ⟨nl0, fun i hi => by rw [if_neg (by omega)]; exact hr i hi, fr.rfl⟩
  · rintro k ⟨c, J⟩ hk ⟨e1, w1, f1⟩
    simp only at e1 w1 f1
    subst e1
    have wk := w1 k (by omega)
    rw [if_neg (by omega)] at wk
    have ik : inb (nI (6 * w + k)) 36 = true := inb_nI (by omega) (by decide)
    refine ⟨(nI (k + 1), upI J 104 (6 * w + k) (nI (r k ||| 2 ^ u))), ?_, rfl, fun i hi => ?_, f1.trans (fr.up ⟨rfl, by omega, by omega⟩)⟩
    · show f_X11_board_b124 N (nI w) v2 (nI d) (nI u) v8 (nI k) J = _
      unfold f_X11_board_b124
      rw [if_pos ((nI_ltI (by omega) (by omega)).mpr hk), m6, if_pos ik, if_pos ik, nI_clamp (by omega), wk, shl1 u (by omega), nI_or, nI_1]
      rfl
    · show upI J 104 (6 * w + k) _ 104 (6 * w + i) = _
      rw [upI_at]
      by_cases q : i = k
      · rw [if_pos (by omega), if_pos (by omega), q]
      · rw [if_neg (by omega), w1 i hi]
        have c1 : i < k ↔ i < k + 1 := by omega
        simp only [c1]
  · rintro ⟨c, J⟩ ⟨e1, w1, f1⟩
    simp only at e1 w1 f1
    subst e1
    refine ⟨J, ?_, w1, f1⟩
    show f_X11_board_b124 N (nI w) v2 (nI d) (nI u) v8 (nI d) J = _
    unfold f_X11_board_b124
    rw [if_neg (nI_le0 (by omega) (Nat.le_refl _))]
theorem bC {N w v n : Nat} {l : List Int32} {I : MI} (h0 : I (12 + 4 * w) 0 = nI n) (n6 : n ≤ 6) (hl : l.length ≤ 12) (hU : nU l ≤ n) (hD : l.length - nU l ≤ n) (hc : WC I (10 + 4 * v) l) (hz : ∀ i, i < 6 → I (13 + 4 * w) i = 0) (hN : 20 ≤ N) : ∃ J, f_X0_becomeWord_l26 N (12 + 4 * w) (10 + 4 * v) 0 0 0 I = some J ∧ (∀ i, i < 6 → J (13 + 4 * w) i = nI (wrd l 0 0 (fun _ => 0) i)) ∧ fr (fun b j => b = 13 + 4 * w) I J := by
  refine loop_inv (f := fun s : Int32 × Int32 × Int32 × MI => f_X0_becomeWord_b26 N (12 + 4 * w) (10 + 4 * v) s.1 s.2.1 s.2.2.1 s.2.2.2) (fun j st => st.2.2.1 = nI j ∧ (∃ d u r, d + ((l.drop j).length - nU (l.drop j)) = l.length - nU l ∧ u + nU (l.drop j) = nU l ∧ st.1 = nI u ∧ st.2.1 = nI d ∧ (∀ i, i < 6 → st.2.2.2 (13 + 4 * w) i = nI (r i)) ∧ wrd (l.drop j) d u r = wrd l 0 0 (fun _ => 0)) ∧ fr (fun b j => b = 13 + 4 * w) I st.2.2.2) _ l.length ?_ ?_ N 0 (0, 0, 0, I) (Nat.zero_le _) (by omega) ⟨nl0, ⟨0, 0, fun _ => 0, by simp, by simp, nl0, nl0, fun i hi => (hz i hi).trans nl0, rfl⟩, fr.rfl⟩
  · rintro j ⟨a, b, c, J⟩ hj ⟨e1, ⟨d, u, r, hd, hu, e2, e3, w1, w2⟩, f1⟩
    simp only at e1 e2 e3 w1 f1
    subst e1; subst e2; subst e3
    obtain ⟨x, hx⟩ := get_some hj
    rw [drop_c hj hx] at hu hd w2
    rw [List.length_cons] at hd
    have le := nU_le (l.drop (j + 1))
    show ∃ s', f_X0_becomeWord_b26 N (12 + 4 * w) (10 + 4 * v) (nI u) (nI d) (nI j) J = _ ∧ _
    unfold f_X0_becomeWord_b26
    rw [f1 (10 + 4 * v) 1 (by omega), hc.1, if_pos ((nI_ltI (by omega) (by omega)).mpr hj), if_pos (inb_nI (by omega) (by decide)), nI_clamp (by omega), f1 (10 + 4 * v + 1) j (by omega), hc.2 j x hx]
    by_cases q : x = 1
    · rw [nU_1 q] at hu hd
      rw [wrd_1 q] at w2
      rw [if_pos q]
      exact ⟨_, rfl, nI_1 _, ⟨d + 1, u, r, by omega, by omega, rfl, nI_1 _, w1, w2⟩, f1⟩
    · rw [nU_n q] at hu hd
      rw [wrd_n q] at w2
      obtain ⟨J1, g1, g2, g3⟩ := bwC (N := N) (a0 := 12 + 4 * w) (a1 := 10 + 4 * v) (n := n) (d := d) (u := u) (v4 := nI j) (r := r) (I := J) (by rw [f1 _ _ (by omega)]; exact h0) n6 (by omega) (by omega) (fun i hi => by rw [show 12 + 4 * w + 1 = 13 + 4 * w by omega]; exact w1 i hi) hN
      rw [show 12 + 4 * w + 1 = 13 + 4 * w by omega] at g2 g3
      rw [if_neg q, bnd1_some g1]
      exact ⟨_, rfl, nI_1 _, ⟨d, u + 1, _, by omega, by omega, nI_1 _, rfl, g2, w2⟩, f1.trans g3⟩
  · rintro ⟨a, b, c, J⟩ ⟨e1, ⟨d, u, r, hd, hu, e2, e3, w1, w2⟩, f1⟩
    simp only at e1 e2 e3 w1 f1
    subst e1; subst e2; subst e3
    rw [List.drop_length, wrd] at w2
    refine ⟨J, ?_, fun i hi => by rw [w1 i hi, w2], f1⟩
    show f_X0_becomeWord_b26 N (12 + 4 * w) (10 + 4 * v) (nI u) (nI d) (nI l.length) J = _
    unfold f_X0_becomeWord_b26
    rw [f1 (10 + 4 * v) 1 (by omega), hc.1, if_neg (nI_le0 (by omega) (Nat.le_refl _))]
theorem bM {N w v n : Nat} {l : List Int32} {I : MI} (hw : w < 6) (hv : v < 6) (n6 : n ≤ 6) (hl : l.length ≤ 12) (hU : nU l ≤ n) (hD : l.length - nU l ≤ n) (hc : WM I 100 101 v l) (hz : ∀ i, i < 6 → I 104 (6 * w + i) = 0) (hN : 20 ≤ N) : ∃ J, f_X11_board_l88 N (nI w) (nI v) 0 0 0 I = some J ∧ (∀ i, i < 6 → J 104 (6 * w + i) = nI (wrd l 0 0 (fun _ => 0) i)) ∧ fr (fun b j => b = 104 ∧ 6 * w ≤ j ∧ j < 6 * w + 6) I J := by
  have iv : inb (nI v) 6 = true := inb_nI hv (by decide)
  have cv : Int32.toNatClampNeg (nI v) = v := nI_clamp (by omega)
  refine loop_inv (f := fun s : Int32 × Int32 × Int32 × MI => f_X11_board_b88 N (nI w) (nI v) s.1 s.2.1 s.2.2.1 s.2.2.2) (fun j st => st.2.2.1 = nI j ∧ (∃ d u r, d + ((l.drop j).length - nU (l.drop j)) = l.length - nU l ∧ u + nU (l.drop j) = nU l ∧ st.1 = nI d ∧ st.2.1 = nI u ∧ (∀ i, i < 6 → st.2.2.2 104 (6 * w + i) = nI (r i)) ∧ wrd (l.drop j) d u r = wrd l 0 0 (fun _ => 0)) ∧ fr (fun b j => b = 104 ∧ 6 * w ≤ j ∧ j < 6 * w + 6) I st.2.2.2) _ l.length ?_ ?_ N 0 (0, 0, 0, I) (Nat.zero_le _) (by omega) ⟨nl0, ⟨0, 0, fun _ => 0, by simp, by simp, nl0, nl0, fun i hi => (hz i hi).trans nl0, rfl⟩, fr.rfl⟩
  · rintro j ⟨a, b, c, J⟩ hj ⟨e1, ⟨d, u, r, hd, hu, e2, e3, w1, w2⟩, f1⟩
    simp only at e1 e2 e3 w1 f1
    subst e1; subst e2; subst e3
    obtain ⟨x, hx⟩ := get_some hj
    rw [drop_c hj hx] at hu hd w2
    rw [List.length_cons] at hd
    have le := nU_le (l.drop (j + 1))
    show ∃ s', f_X11_board_b88 N (nI w) (nI v) (nI d) (nI u) (nI j) J = _ ∧ _
    unfold f_X11_board_b88
    rw [if_pos iv, cv, f1 100 v (by omega), hc.1, if_pos ((nI_ltI (by omega) (by omega)).mpr hj), w12, if_pos (inb_nI (by omega) (by decide)), nI_clamp (by omega), f1 101 (12 * v + j) (by omega), hc.2 j x hx]
    by_cases q : x = 1
    · rw [nU_1 q] at hu hd
      rw [wrd_1 q] at w2
      rw [if_pos q]
      exact ⟨_, rfl, nI_1 _, ⟨d + 1, u, r, by omega, by omega, nI_1 _, rfl, w1, w2⟩, f1⟩
    · rw [nU_n q] at hu hd
      rw [wrd_n q] at w2
      obtain ⟨J1, g1, g2, g3⟩ := bwM (N := N) (w := w) (d := d) (u := u) (v2 := nI v) (v8 := nI j) (r := r) (I := J) hw (by omega) (by omega) w1 hN
      rw [if_neg q, bnd1_some g1]
      exact ⟨_, rfl, nI_1 _, ⟨d, u + 1, _, by omega, by omega, rfl, nI_1 _, g2, w2⟩, f1.trans g3⟩
  · rintro ⟨a, b, c, J⟩ ⟨e1, ⟨d, u, r, hd, hu, e2, e3, w1, w2⟩, f1⟩
    simp only at e1 e2 e3 w1 f1
    subst e1; subst e2; subst e3
    rw [List.drop_length, wrd] at w2
    refine ⟨J, ?_, fun i hi => by rw [w1 i hi, w2], f1⟩
    show f_X11_board_b88 N (nI w) (nI v) (nI d) (nI u) (nI l.length) J = _
    unfold f_X11_board_b88
    rw [if_pos iv, cv, f1 100 v (by omega), hc.1, if_neg (nI_le0 (by omega) (Nat.le_refl _))]
section SBD
variable {PL : MX → MI → ML → Prop} {PA : MI → Prop} {N : Nat}
theorem s_board (hPL : frPL PL) (hPA : frPA PA) (hN : 20 ≤ N) : S_board N (Inv0 PL PA) := by
  intro X I L x1 x2 hI
  rcases six_cases x1 with ⟨w, hw, rfl, e1, e2⟩ | ⟨e1, e2⟩
  · have iw : inb (nI w) 6 = true := inb_nI hw (by decide)
    have cw : Int32.toNatClampNeg (nI w) = w := nI_clamp (by omega)
    rcases six_cases x2 with ⟨v, hv, rfl, e3, e4⟩ | ⟨e3, e4⟩
    · have iv : inb (nI v) 6 = true := inb_nI hv (by decide)
      have cv : Int32.toNatClampNeg (nI v) = v := nI_clamp (by omega)
      obtain ⟨l, hl, hb, hc, hm⟩ := hI.w hv
      obtain ⟨u1, u2⟩ := ups_cnt (N := N) hv hl hb hc hm hN
      have le := nU_le l
      have d1 : f_X9_downs N (10 + 4 * v) I = some (nI (l.length - nU l)) := by
        unfold f_X9_downs
        rw [bnd1_some u1, hc.1, nI_sub le]
      have d2 : nI l.length - nI (nU l) = nI (l.length - nU l) := nI_sub le
      by_cases q1 : 6 < nU l
      · have c1 : (6 : Int32) < nI (nU l) := by rw [nl6]; exact (nI_ltI (by omega) (by omega)).mpr q1
        refine ⟨-3, I, I, ?_, ?_, hI⟩
        · unfold f_X10_board; rw [bnd1_some e1, if_neg (by decide), bnd1_some e3, if_neg (by decide), if_pos iv, cv, bnd1_some u1, if_pos c1]
        · unfold f_X11_board; rw [bnd1_some e2, if_neg (by decide), bnd1_some e4, if_neg (by decide), bnd1_some u2, if_pos iv, cv]
          simp only [letv]
          rw [if_pos c1]
      · have c1 : ¬ (6 : Int32) < nI (nU l) := by rw [nl6]; exact nI_le0 (by omega) (by omega)
        by_cases q2 : 6 < l.length - nU l
        · have c2 : (6 : Int32) < nI (l.length - nU l) := by rw [nl6]; exact (nI_ltI (by omega) (by omega)).mpr q2
          refine ⟨-3, I, I, ?_, ?_, hI⟩
          · unfold f_X10_board; rw [bnd1_some e1, if_neg (by decide), bnd1_some e3, if_neg (by decide), if_pos iv, cv, bnd1_some u1, if_neg c1, bnd1_some d1, if_pos c2]
          · unfold f_X11_board; rw [bnd1_some e2, if_neg (by decide), bnd1_some e4, if_neg (by decide), bnd1_some u2, if_pos iv, cv, hm.1, d2]
            simp only [letv]
            rw [if_neg c1, if_pos c2]
        · have c2 : ¬ (6 : Int32) < nI (l.length - nU l) := by rw [nl6]; exact nI_le0 (by omega) (by omega)
          obtain ⟨m, hm1, hm2⟩ : ∃ m, m = (if nU l < l.length - nU l then l.length - nU l else nU l) ∧ m ≤ 6 := ⟨_, rfl, by split <;> omega⟩
          obtain ⟨n, hn1, n1, n6⟩ : ∃ n, n = (if 1 < m then m else 1) ∧ 1 ≤ n ∧ n ≤ 6 := ⟨_, rfl, by split <;> omega, by split <;> omega⟩
          have hU : nU l ≤ n := by by_cases z : nU l < l.length - nU l <;> by_cases z2 : 1 < m <;> simp only [z, z2, if_true, if_false] at hm1 hn1 <;> omega
          have hD : l.length - nU l ≤ n := by by_cases z : nU l < l.length - nU l <;> by_cases z2 : 1 < m <;> simp only [z, z2, if_true, if_false] at hm1 hn1 <;> omega
          have x5 : (if nI (nU l) < nI (l.length - nU l) then nI (l.length - nU l) else nI (nU l)) = nI m := by
            rw [hm1]
            by_cases z : nU l < l.length - nU l
            · rw [if_pos z, if_pos ((nI_ltI (by omega) (by omega)).mpr z)]
            · rw [if_neg z, if_neg (nI_le0 (by omega) (by omega))]
          have x6 : (if 1 < nI m then nI m else 1) = nI n := by
            rw [hn1, nl1]
            by_cases z : 1 < m
            · rw [if_pos z, if_pos ((nI_ltI (by omega) (by omega)).mpr z)]
            · rw [if_neg z, if_neg (nI_le0 (by omega) (by omega))]
          obtain ⟨I1, a1, a2, a3, a4⟩ := clean_spec (N := N) (n := n) (a := 12 + 4 * w) (v := nI n) (I := I) hN (by omega)
          rw [show 12 + 4 * w + 1 = 13 + 4 * w by omega] at a3 a4
          obtain ⟨J, j1, j2, j3⟩ := bC (N := N) (w := w) (v := v) (I := I1) a2 n6 hl hU hD ⟨by rw [a4 _ _ (by omega)]; exact hc.1, fun i x hx => by rw [a4 _ _ (by omega)]; exact hc.2 i x hx⟩ a3 hN
          obtain ⟨K1, k1, k2, k3, k4, k5⟩ := bare_spec (N := N) (w := w) (v := nI n) (I := upI J 67 4 0) hw hN
          have hq : ∀ b j, (¬ (b = 12 + 4 * w ∨ b = 13 + 4 * w)) → J b j = I b j := fun b j h => by rw [j3 _ _ (by omega), a4 _ _ h]
          have hm3 : WM (upI J 67 4 0) 100 101 v l := ⟨by rw [upI_ne _ _ (by omega), hq _ _ (by omega)]; exact hm.1, fun i x hx => by rw [upI_ne _ _ (by omega), hq _ _ (by omega)]; exact hm.2 i x hx⟩
          have hm4 : WM K1 100 101 v l := ⟨by rw [k5 _ _ (by omega)]; exact hm3.1, fun i x hx => by rw [k5 _ _ (by omega)]; exact hm3.2 i x hx⟩
          have hc3 : WC (upI J 67 4 0) (10 + 4 * v) l := ⟨by rw [upI_ne _ _ (by omega), hq _ _ (by omega)]; exact hc.1, fun i x hx => by rw [upI_ne _ _ (by omega), hq _ _ (by omega)]; exact hc.2 i x hx⟩
          have u3 := (ups_cnt (N := N) hv hl hb hc3 hm3 hN).2
          obtain ⟨K, l1, l2, l3⟩ := bM (N := N) (w := w) (v := v) (I := K1) hw hv n6 hl hU hD hm4 k3 hN
          obtain ⟨m1, m2, m3⟩ := become2 (N := N) hPL hPA hN hI hw (r := wrd l 0 0 (fun _ => 0)) (J := J) (K := K) n1 n6 (fun i hi => wrd_lt l _ _ _ (by omega) (fun _ => Nat.two_pow_pos n) i) ⟨by rw [j3 _ _ (by omega)]; exact a2, fun i hi => by rw [show 12 + 4 * w + 1 = 13 + 4 * w by omega]; exact j2 i (by omega)⟩ (fun b j h => hq b j h) ⟨by rw [l3 _ _ (by omega)]; exact k2, fun i hi => l2 i (by omega)⟩ (by rw [l3 _ _ (by omega)]; exact k4) ((k5.mono (fun b j q => by omega)).trans (l3.mono (fun b j q => by omega)))
          refine ⟨nI (cs (wrd l 0 0 (fun _ => 0)) n), upI J 67 4 0, K, ?_, ?_, m3⟩
          · unfold f_X10_board f_X0_becomeWord
            rw [bnd1_some e1, if_neg (by decide), bnd1_some e3, if_neg (by decide), if_pos iv, cv, bnd1_some u1, if_neg c1, bnd1_some d1, if_neg c2, if_pos iw, cw, bnd1_some u1, bnd1_some d1]
            simp only [letv]
            rw [x5, x6, bnd1_some a1, bnd1_some j1]
            rw [bnd1_some rfl, bnd1_some (show f_X1_forget J = some (upI J 67 4 0) from rfl), bnd1_some m1]
          · have hj : f_X11_board_j60 N (nI w) (nI v) (nI m) (upI J 67 4 0) = some (nI (cs (wrd l 0 0 (fun _ => 0)) n), K) := by
              unfold f_X11_board_j60
              by_cases z : m < 1
              · have zn : nI n = (1 : Int32) := by rw [hn1, if_neg (by omega)]; rfl
                rw [zn] at k1
                rw [if_pos (by rw [nl1]; exact (nI_ltI (by omega) (by omega)).mpr z), bnd1_some k1, bnd1_some l1, bnd1_some m2]
              · have zn : n = m := by rw [hn1]; split <;> omega
                rw [zn] at k1
                rw [if_neg (by rw [nl1]; exact nI_le0 (by omega) (by omega)), bnd1_some k1, bnd1_some l1, bnd1_some m2, zn]
            unfold f_X11_board
            rw [bnd1_some e2, if_neg (by decide), bnd1_some e4, if_neg (by decide), bnd1_some u3, if_pos iv, cv, hm3.1, d2]
            simp only [letv]
            rw [if_neg c1, if_neg c2]
            by_cases z : l.length - nU l < nU l
            · rw [if_pos ((nI_ltI (by omega) (by omega)).mpr z)]
              rw [show m = nU l by rw [hm1, if_neg (by omega)]] at hj
              exact hj
            · rw [if_neg (nI_le0 (by omega) (by omega))]
              have em : m = l.length - nU l := by rw [hm1]; split <;> omega
              rw [em] at hj
              exact hj
    · refine ⟨-1, I, I, ?_, ?_, hI⟩
      · unfold f_X10_board; rw [bnd1_some e1, if_neg (by decide), bnd1_some e3, if_pos rfl]
      · unfold f_X11_board; rw [bnd1_some e2, if_neg (by decide), bnd1_some e4, if_pos rfl]
  · refine ⟨-1, I, I, ?_, ?_, hI⟩
    · unfold f_X10_board; rw [bnd1_some e1, if_pos rfl]
    · unfold f_X11_board; rw [bnd1_some e2, if_pos rfl]
end SBD
