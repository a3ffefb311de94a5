/-! ===== words: join, turn, word, acted, order ===== -/
theorem loop_sync {σ ρ τ κ : Type} {f : σ → Option (σ ⊕ ρ)} {g : τ → Option (τ ⊕ κ)} (P : Nat → σ → τ → Prop) (R : ρ → κ → Prop) (n : Nat) (hs : ∀ k s t, k < n → P k s t → ∃ s' t', f s = some (.inl s') ∧ g t = some (.inl t') ∧ P (k + 1) s' t') (he : ∀ s t, P n s t → ∃ r q, f s = some (.inr r) ∧ g t = some (.inr q) ∧ R r q) : ∀ (N k : Nat) (s : σ) (t : τ), k ≤ n → n - k < N → P k s t → ∃ r q, loopN f N s = some r ∧ loopN g N t = some q ∧ R r q := by
  intro N
  induction N with
  | zero => intro k s t h1 h2; omega
  | succ N ih =>
    intro k s t h1 h2 hp
    by_cases hk : k < n
    · obtain ⟨s', t', e, e', hp'⟩ := hs k s t hk hp
      rw [loopN_inl e, loopN_inl e']
      exact ih (k + 1) s' t' (by omega) (by omega) hp'
    · have : k = n := by omega
      subst this
      obtain ⟨r, q, e, e', hr⟩ := he s t hp
      exact ⟨r, q, loopN_inr e, loopN_inr e', hr⟩
theorem take_one {l : List Int32} {j : Nat} {x : Int32} (h : l[j]? = some x) : l.take (j + 1) = l.take j ++ [x] := by
  rw [List.take_succ, h]; rfl
theorem get_some {l : List Int32} {j : Nat} (h : j < l.length) : ∃ x, l[j]? = some x := ⟨l[j], List.getElem?_eq_getElem h⟩
theorem joinC {N a av : Nat} {l m : List Int32} {I : MI} (hc : WC I a l) (hl : l.length + m.length ≤ 12) (hv : ∀ J n, WC J a (l ++ n) → fr (fc a) I J → ∀ j x, m[j]? = some x → J (av + 1) j = x) (hN : 20 ≤ N) : ∃ I', f_X10_join_l62 N a av (nI m.length) 0 I = some I' ∧ WC I' a (l ++ m) ∧ fr (fc a) I I' := by
  have key := loop_inv (f := fun s' : Int32 × MI => f_X10_join_b62 N a av (nI m.length) s'.1 s'.2) (fun j st => st.1 = nI j ∧ WC st.2 a (l ++ m.take j) ∧ fr (fc a) I st.2) (fun I' => WC I' a (l ++ m) ∧ fr (fc a) I I') m.length ?_ ?_ N 0 (nI 0, I) (Nat.zero_le _) (by omega) ⟨rfl, by simpa using hc, fr.rfl⟩
  · obtain ⟨I', e, p1, p2⟩ := key
    exact ⟨I', e, p1, p2⟩
  · rintro j ⟨c, J⟩ hj ⟨e1, w1, f1⟩
    simp only at e1 w1 f1
    subst e1
    obtain ⟨x, hx⟩ := get_some hj
    obtain ⟨J1, g1, g2, g3⟩ := push1_spec (N := N) (s := x) w1 (by simp; omega) (by omega)
    refine ⟨(nI (j + 1), J1), ?_, rfl, ?_, f1.trans g3⟩
    · show f_X10_join_b62 N a av (nI m.length) (nI j) J = _
      unfold f_X10_join_b62
      rw [if_pos ((nI_ltI (by omega) (by omega)).mpr hj), if_pos (inb_nI (by omega) (by decide)), nI_clamp (by omega), hv J _ w1 f1 j x hx, bnd1_some g1, nI_1]
    · show WC J1 a (l ++ m.take (j + 1))
      rw [take_one hx, ← List.append_assoc]; exact g2
  · rintro ⟨c, J⟩ ⟨e1, w1, f1⟩
    simp only at e1 w1 f1
    subst e1
    refine ⟨J, ?_, by simpa using w1, f1⟩
    show f_X10_join_b62 N a av (nI m.length) (nI m.length) J = _
    unfold f_X10_join_b62
    rw [if_neg (nI_le0 (by omega) (Nat.le_refl _))]
theorem joinM {N w u : Nat} {l m : List Int32} {I : MI} (hw : w < 6) (hu : u < 6) (hc : WM I 100 101 w l) (hl : l.length + m.length ≤ 12) (hv : ∀ J n, WM J 100 101 w (l ++ n) → fr (fm w) I J → ∀ j x, m[j]? = some x → J 101 (12 * u + j) = x) (hN : 20 ≤ N) : ∃ I', f_X11_join_l42 N (nI w) (nI u) (nI m.length) 0 I = some I' ∧ WM I' 100 101 w (l ++ m) ∧ fr (fm w) I I' := by
  have key := loop_inv (f := fun s' : Int32 × MI => f_X11_join_b42 N (nI w) (nI u) (nI m.length) s'.1 s'.2) (fun j st => st.1 = nI j ∧ WM st.2 100 101 w (l ++ m.take j) ∧ fr (fm w) I st.2) (fun I' => WM I' 100 101 w (l ++ m) ∧ fr (fm w) I I') m.length ?_ ?_ N 0 (nI 0, I) (Nat.zero_le _) (by omega) ⟨rfl, by simpa using hc, fr.rfl⟩
  · obtain ⟨I', e, p1, p2⟩ := key
    exact ⟨I', e, p1, p2⟩
  · rintro j ⟨c, J⟩ hj ⟨e1, w1, f1⟩
    simp only at e1 w1 f1
    subst e1
    obtain ⟨x, hx⟩ := get_some hj
    obtain ⟨J1, g1, g2, g3⟩ := comes1_spec (N := N) (s := x) hw w1 (by simp; omega) (by omega)
    refine ⟨(nI (j + 1), J1), ?_, rfl, ?_, f1.trans g3⟩
    · show f_X11_join_b42 N (nI w) (nI u) (nI m.length) (nI j) J = _
      unfold f_X11_join_b42
      rw [if_pos ((nI_ltI (by omega) (by omega)).mpr hj), w12, if_pos (inb_nI (by omega) (by decide)), nI_clamp (by omega), hv J _ w1 f1 j x hx, bnd1_some g1, nI_1]
    · show WM J1 100 101 w (l ++ m.take (j + 1))
      rw [take_one hx, ← List.append_assoc]; exact g2
  · rintro ⟨c, J⟩ ⟨e1, w1, f1⟩
    simp only at e1 w1 f1
    subst e1
    refine ⟨J, ?_, by simpa using w1, f1⟩
    show f_X11_join_b42 N (nI w) (nI u) (nI m.length) (nI m.length) J = _
    unfold f_X11_join_b42
    rw [if_neg (nI_le0 (by omega) (Nat.le_refl _))]
section WS3
variable {PL : MX → MI → ML → Prop} {PA : MI → Prop} {N : Nat}
theorem join_go (hPL : frPL PL) (hPA : frPA PA) (hN : 20 ≤ N) {X : MX} {I : MI} {L : ML} (hI : Inv0 PL PA X I L) {w u : Nat} (hw : w < 6) (hu : u < 6) {l m : List Int32} (hl : l.length ≤ 12) (hb : bits l) (hc : WC I (10 + 4 * w) l) (hm : WM I 100 101 w l) (hl' : m.length ≤ 12) (hb' : bits m) (hc' : WC I (10 + 4 * u) m) (hm' : WM I 100 101 u m) (huw : u = w → m = l) : ∃ (r : Int32) (I1 : MI) (I2 : MI), f_X10_join N (nI w) (nI u) I = some (r, I1) ∧ f_X11_join N (nI w) (nI u) I1 = some (r, I2) ∧ Inv0 PL PA X I2 L := by
  have iw : inb (nI w) 6 = true := inb_nI hw (by decide)
  have cw : Int32.toNatClampNeg (nI w) = w := nI_clamp (by omega)
  have iu : inb (nI u) 6 = true := inb_nI hu (by decide)
  have cu : Int32.toNatClampNeg (nI u) = u := nI_clamp (by omega)
  by_cases hr : l.length + m.length ≤ 12
  · obtain ⟨J, g1, g2, g3⟩ := joinC (N := N) (av := 10 + 4 * u) hc hr (by
      intro J n h1 h2 j x hx
      by_cases e : u = w
      · rw [e]
        rw [huw e] at hx
        exact h1.2 j x (by rw [List.getElem?_append, if_pos (List.getElem?_eq_some_iff.mp hx).1]; exact hx)
      · rw [h2 _ _ (by unfold fc; omega)]; exact hc'.2 j x hx) hN
    have hmJ : WM J 100 101 w l := WM_fr g3 (fun j h => by unfold fc at h; omega) (fun j h => by unfold fc at h; omega) hm
    have hmJ' : WM J 100 101 u m := WM_fr g3 (fun j h => by unfold fc at h; omega) (fun j h => by unfold fc at h; omega) hm'
    obtain ⟨K, k1, k2, k3⟩ := joinM (N := N) hw hu hmJ hr (by
      intro J' n h1 h2 j x hx
      have hj := (List.getElem?_eq_some_iff.mp hx).1
      by_cases e : u = w
      · rw [e]
        rw [huw e] at hx
        exact h1.2 j x (by rw [List.getElem?_append, if_pos (List.getElem?_eq_some_iff.mp hx).1]; exact hx)
      · rw [h2 _ _ (by unfold fm; omega)]; exact hmJ'.2 j x hx) hN
    refine ⟨nI (l ++ m).length, J, K, ?_, ?_, inv_word hPL hPA hI hw ((g3.mono sW_c).trans (k3.mono sW_m)) ⟨l ++ m, by simp; omega, bits_app hb hb', WC_fr k3 (fun j h => by unfold fm at h; omega) (fun j h => by unfold fm at h; omega) g2, k2⟩⟩
    · unfold f_X10_join
      rw [bnd1_some (piece_ok hw), if_neg (by decide), bnd1_some (piece_ok hu), if_neg (by decide), if_pos iw, if_pos iu, cw, cu, hc'.1, bnd1_some (hasRoom_spec hc.1 hl (by omega)), if_pos hr, if_neg (by decide)]
      simp only [letv]
      rw [bnd1_some g1, g2.1]
    · unfold f_X11_join
      rw [bnd1_some (six_ok hw), if_neg (by decide), bnd1_some (six_ok hu), if_neg (by decide), if_pos iu, if_pos iw, cw, cu, hmJ.1, hmJ'.1, nI_add, nl12, if_neg (nI_le0 (by omega) hr), bnd1_some k1, if_pos iw, k2.1]
  · refine ⟨-4, I, I, ?_, ?_, hI⟩
    · unfold f_X10_join
      rw [bnd1_some (piece_ok hw), if_neg (by decide), bnd1_some (piece_ok hu), if_neg (by decide), if_pos iw, if_pos iu, cw, cu, hc'.1, bnd1_some (hasRoom_spec hc.1 hl (by omega)), if_neg hr, if_pos rfl]
    · unfold f_X11_join
      rw [bnd1_some (six_ok hw), if_neg (by decide), bnd1_some (six_ok hu), if_neg (by decide), if_pos iu, if_pos iw, cw, cu, hm.1, hm'.1, nI_add, nl12, if_pos ((nI_ltI (by omega) (by omega)).mpr (by omega))]
theorem s_join (hPL : frPL PL) (hPA : frPA PA) (hN : 20 ≤ N) : S_join N (Inv0 PL PA) := by
  intro X I L x1 x2 hI
  rcases six_cases x1 with ⟨w, hw, rfl, e1, e2⟩ | ⟨e1, e2⟩
  · rcases six_cases x2 with ⟨u, hu, rfl, e3, e4⟩ | ⟨e3, e4⟩
    · by_cases e : u = w
      · subst e
        obtain ⟨l, hl, hb, hc, hm⟩ := hI.w hw
        exact join_go hPL hPA hN hI hw hw hl hb hc hm hl hb hc hm (fun _ => rfl)
      · obtain ⟨l, hl, hb, hc, hm⟩ := hI.w hw
        obtain ⟨l', hl', hb', hc', hm'⟩ := hI.w hu
        exact join_go hPL hPA hN hI hw hu hl hb hc hm hl' hb' hc' hm' (fun h => absurd h e)
    · refine ⟨-1, I, I, ?_, ?_, hI⟩
      · unfold f_X10_join; rw [bnd1_some e1, if_neg (by decide), bnd1_some e3, if_pos rfl]
      · unfold f_X11_join; rw [bnd1_some e2, if_neg (by decide), bnd1_some e4, if_pos rfl]
  · refine ⟨-1, I, I, ?_, ?_, hI⟩
    · unfold f_X10_join; rw [bnd1_some e1, if_pos rfl]
    · unfold f_X11_join; rw [bnd1_some e2, if_pos rfl]
end WS3
/-! turn -/
theorem turnC {N a n : Nat} {I : MI} (hn : n ≤ 12) (h0 : I a 1 = nI n) (hN : 20 ≤ N) : ∃ I', f_X9_turnAbout N a I = some I' ∧ (∀ i, i < n → I' (a + 1) i = 1 - I (a + 1) (n - 1 - i)) ∧ fr (fun b _ => b = a + 1) I I' := by
  have key := loop_inv (f := fun s' : Int32 × Int32 × MI => f_X9_turnAbout_b9 N a s'.1 s'.2.1 s'.2.2) (fun j st => st.1 = nI j ∧ st.2.1 = nI (n - j) - 1 ∧ (∀ i, i < n → st.2.2 (a + 1) i = if i < j ∨ n - j ≤ i then 1 - I (a + 1) (n - 1 - i) else I (a + 1) i) ∧ fr (fun b _ => b = a + 1) I st.2.2) (fun I' => (∀ i, i < n → I' (a + 1) i = 1 - I (a + 1) (n - 1 - i)) ∧ fr (fun b _ => b = a + 1) I I') ((n + 1) / 2) ?_ ?_ N 0 (nI 0, nI n - 1, I) (Nat.zero_le _) (by omega) ⟨rfl, rfl, fun i hi => by rw [if_neg (by omega)], fr.rfl⟩
  · obtain ⟨I', e, p1, p2⟩ := key
    refine ⟨I', ?_, p1, p2⟩
    unfold f_X9_turnAbout f_X9_turnAbout_l9
    rw [nl0, h0]
    exact bnd1_some e
  · rintro j ⟨c, d, J⟩ hj ⟨e1, e2, w1, f1⟩
    simp only at e1 e2 w1 f1
    have e3 : d = nI (n - 1 - j) := by rw [e2, nl1, nI_sub (by omega)]; congr 1; omega
    clear e2
    subst e1; subst e3
    have ja := w1 j (by omega)
    have jb := w1 (n - 1 - j) (by omega)
    rw [if_neg (by omega)] at ja jb
    refine ⟨(nI (j + 1), nI (n - 1 - j) + (-1), upI (upI J (a + 1) j (1 - I (a + 1) (n - 1 - j))) (a + 1) (n - 1 - j) (1 - I (a + 1) j)), ?_, rfl, ?_, ?_, ?_⟩
    · show f_X9_turnAbout_b9 N a (nI j) (nI (n - 1 - j)) J = _
      unfold f_X9_turnAbout_b9
      have i1 : inb (nI j) 12 = true := inb_nI (by omega) (by decide)
      have i2 : inb (nI (n - 1 - j)) 12 = true := inb_nI (by omega) (by decide)
      rw [if_neg (nI_le0 (by omega) (by omega)), if_pos i1, nI_clamp (by omega)]
      simp only [letv]
      rw [if_pos i2, if_pos i1, if_pos i2, nI_clamp (by omega), ja, jb, nI_1]
    · show nI (n - 1 - j) + (-1) = nI (n - (j + 1)) - 1
      have : n - (j + 1) = n - 1 - j := by omega
      rw [this, Int32.sub_eq_add_neg]
    · intro i hi
      show upI (upI J (a + 1) j _) (a + 1) (n - 1 - j) _ (a + 1) i = _
      rw [upI_at, upI_at]
      by_cases q1 : i = n - 1 - j
      · rw [if_pos q1, if_pos (by omega), q1]
        congr 2; omega
      · rw [if_neg q1]
        by_cases q2 : i = j
        · rw [if_pos q2, if_pos (by omega), q2]
        · rw [if_neg q2, w1 i hi]
          by_cases q3 : i < j ∨ n - j ≤ i
          · rw [if_pos q3, if_pos (by omega)]
          · rw [if_neg q3, if_neg (by omega)]
    · exact f1.trans ((fr.up (S := fun b _ => b = a + 1) rfl).trans (fr.up (S := fun b _ => b = a + 1) rfl))
  · rintro ⟨c, d, J⟩ ⟨e1, e2, w1, f1⟩
    simp only at e1 e2 w1 f1
    subst e1; subst e2
    refine ⟨J, ?_, fun i hi => ?_, f1⟩
    · show f_X9_turnAbout_b9 N a (nI ((n + 1) / 2)) (nI (n - (n + 1) / 2) - 1) J = _
      unfold f_X9_turnAbout_b9
      rw [if_pos]
      rw [Int32.lt_iff_toInt_lt, nI_toInt (by omega)]
      by_cases q : n - (n + 1) / 2 = 0
      · rw [q]
        have : (nI 0 - 1).toInt = -1 := by decide
        rw [this]; omega
      · rw [nl1, nI_sub (by omega), nI_toInt (by omega)]; omega
    · rw [w1 i hi, if_pos (by omega)]
theorem turnM {N w n : Nat} {I : MI} (hw : w < 6) (hn : n ≤ 12) (h0 : I 100 w = nI n) (hN : 20 ≤ N) : ∃ I', f_X11_turn N (nI w) I = some (nI n, I') ∧ (∀ i, i < n → I' 101 (12 * w + i) = 1 - I 101 (12 * w + (n - 1 - i))) ∧ fr (fun b j => b = 128 ∨ (b = 101 ∧ 12 * w ≤ j ∧ j < 12 * w + 12)) I I' := by
  have iw : inb (nI w) 6 = true := inb_nI hw (by decide)
  have cw : Int32.toNatClampNeg (nI w) = w := nI_clamp (by omega)
  have key := loop_inv (f := fun s' : Int32 × MI => f_X11_turn_b18 N (nI w) (nI n) s'.1 s'.2) (fun j st => st.1 = nI j ∧ (∀ i, i < j → st.2 128 i = 1 - I 101 (12 * w + (n - 1 - i))) ∧ fr (fun b j => b = 128) I st.2) (fun I' => (∀ i, i < n → I' 128 i = 1 - I 101 (12 * w + (n - 1 - i))) ∧ fr (fun b j => b = 128) I I') n ?_ ?_ N 0 (nI 0, I) (Nat.zero_le _) (by omega) ⟨rfl, fun i hi => absurd hi (by omega), fr.rfl⟩
  · obtain ⟨J, e, p1, p2⟩ := key
    have key2 := loop_inv (f := fun s' : Int32 × MI => f_X11_turn_b54 N (nI w) (nI n) s'.1 s'.2) (fun j st => st.1 = nI j ∧ (∀ i, i < j → st.2 101 (12 * w + i) = J 128 i) ∧ fr (fun b j => b = 101 ∧ 12 * w ≤ j ∧ j < 12 * w + 12) J st.2) (fun I' => (∀ i, i < n → I' 101 (12 * w + i) = J 128 i) ∧ fr (fun b j => b = 101 ∧ 12 * w ≤ j ∧ j < 12 * w + 12) J I') n ?_ ?_ N 0 (nI 0, J) (Nat.zero_le _) (by omega) ⟨rfl, fun i hi => absurd hi (by omega), fr.rfl⟩
    · obtain ⟨K, e', q1, q2⟩ := key2
      refine ⟨K, ?_, fun i hi => (q1 i hi).trans (p1 i hi), (p2.mono (fun b j h => Or.inl h)).trans (q2.mono (fun b j h => Or.inr h))⟩
      unfold f_X11_turn
      rw [bnd1_some (six_ok hw), if_neg (by decide), if_pos iw, cw, h0, nl0]
      unfold f_X11_turn_l18 f_X11_turn_l54
      rw [bnd1_some e, bnd1_some e']
    · rintro j ⟨c, K⟩ hj ⟨e1, w1, f1⟩
      simp only at e1 w1 f1
      subst e1
      refine ⟨(nI (j + 1), upI K 101 (12 * w + j) (K 128 j)), ?_, rfl, ?_, f1.trans (fr.up ⟨rfl, by omega, by omega⟩)⟩
      · show f_X11_turn_b54 N (nI w) (nI n) (nI j) K = _
        unfold f_X11_turn_b54
        rw [if_pos ((nI_ltI (by omega) (by omega)).mpr hj), if_pos (inb_nI (by omega) (by decide)), w12, if_pos (inb_nI (by omega) (by decide)), nI_clamp (by omega), nI_clamp (by omega)]
        simp only [letv]
        rw [nI_1]
      · intro i hi
        show upI K 101 (12 * w + j) (K 128 j) 101 (12 * w + i) = _
        rw [upI_at]
        by_cases q : i = j
        · rw [if_pos (by omega), q, f1 128 j (by omega)]
        · rw [if_neg (by omega)]; exact w1 i (by omega)
    · rintro ⟨c, K⟩ ⟨e1, w1, f1⟩
      simp only at e1 w1 f1
      subst e1
      refine ⟨K, ?_, w1, f1⟩
      show f_X11_turn_b54 N (nI w) (nI n) (nI n) K = _
      unfold f_X11_turn_b54
      rw [if_neg (nI_le0 (by omega) (Nat.le_refl _))]
  · rintro j ⟨c, K⟩ hj ⟨e1, w1, f1⟩
    simp only at e1 w1 f1
    subst e1
    refine ⟨(nI (j + 1), upI K 128 j (1 - K 101 (12 * w + (n - 1 - j)))), ?_, rfl, ?_, f1.trans (fr.up rfl)⟩
    · show f_X11_turn_b18 N (nI w) (nI n) (nI j) K = _
      unfold f_X11_turn_b18
      have e5 : (12 : Int32) * nI w + nI n - 1 - nI j = nI (12 * w + (n - 1 - j)) := by
        rw [w12, nl1, nI_sub (by omega), nI_sub (by omega)]; congr 1; omega
      rw [if_pos ((nI_ltI (by omega) (by omega)).mpr hj), e5, if_pos (inb_nI (by omega) (by decide)), if_pos (inb_nI (by omega) (by decide)), nI_clamp (by omega), nI_clamp (by omega)]
      simp only [letv]
      rw [nI_1]
    · intro i hi
      show upI K 128 j _ 128 i = _
      rw [upI_at]
      by_cases q : i = j
      · rw [if_pos q, q, f1 101 _ (by omega)]
      · rw [if_neg q]; exact w1 i (by omega)
  · rintro ⟨c, K⟩ ⟨e1, w1, f1⟩
    simp only at e1 w1 f1
    subst e1
    refine ⟨K, ?_, w1, f1⟩
    show f_X11_turn_b18 N (nI w) (nI n) (nI n) K = _
    unfold f_X11_turn_b18
    rw [if_neg (nI_le0 (by omega) (Nat.le_refl _))]
def trn (l : List Int32) : List Int32 := l.reverse.map (fun x => 1 - x)
theorem trn_len (l : List Int32) : (trn l).length = l.length := by unfold trn; simp
theorem trn_bits {l : List Int32} (h : bits l) : bits (trn l) := by
  intro x hx
  unfold trn at hx
  obtain ⟨y, hy, e⟩ := List.mem_map.mp hx
  rcases h y (List.mem_reverse.mp hy) with rfl | rfl
  · right; rw [← e]; decide
  · left; rw [← e]; decide
theorem trn_at {l : List Int32} {i : Nat} {x : Int32} (h : (trn l)[i]? = some x) : ∃ y, l[l.length - 1 - i]? = some y ∧ x = 1 - y ∧ i < l.length := by
  have hi : i < l.length := by have := (List.getElem?_eq_some_iff.mp h).1; rwa [trn_len] at this
  unfold trn at h
  rw [List.getElem?_map, List.getElem?_reverse hi] at h
  obtain ⟨y, hy, e⟩ := Option.map_eq_some_iff.mp h
  exact ⟨y, hy, e.symm, hi⟩
theorem fr.split {S T : Nat → Nat → Prop} {I K : MI} (h : fr (fun b j => S b j ∨ T b j) I K) : ∃ M, fr S I M ∧ fr T M K := by
  classical
  refine ⟨fun b j => if S b j then K b j else I b j, fun b j n => if_neg n, fun b j n => ?_⟩
  show K b j = if S b j then K b j else I b j
  by_cases q : S b j
  · rw [if_pos q]
  · rw [if_neg q]; exact h b j (fun z => z.elim q n)
theorem frL.split {S T : Nat → Nat → Prop} {I K : ML} (h : frL (fun b j => S b j ∨ T b j) I K) : ∃ M, frL S I M ∧ frL T M K := by
  classical
  refine ⟨fun b j => if S b j then K b j else I b j, fun b j n => if_neg n, fun b j n => ?_⟩
  show K b j = if S b j then K b j else I b j
  by_cases q : S b j
  · rw [if_pos q]
  · rw [if_neg q]; exact h b j (fun z => z.elim q n)
section WS4
variable {PL : MX → MI → ML → Prop} {PA : MI → Prop} {N : Nat}
theorem s_turn (hPL : frPL PL) (hPA : frPA PA) (hN : 20 ≤ N) : S_turn N (Inv0 PL PA) := by
  intro X I L x1 hI
  rcases six_cases x1 with ⟨w, hw, rfl, e1, e2⟩ | ⟨e1, e2⟩
  · have iw : inb (nI w) 6 = true := inb_nI hw (by decide)
    have cw : Int32.toNatClampNeg (nI w) = w := nI_clamp (by omega)
    obtain ⟨l, hl, hb, hc, hm⟩ := hI.w hw
    obtain ⟨J, g1, g2, g3⟩ := turnC (N := N) hl hc.1 hN
    obtain ⟨K, k1, k2, k3⟩ := turnM (N := N) (I := J) hw hl ((g3 _ _ (by omega)).trans hm.1) hN
    have fK : fr (fun b j => scr b j ∨ sW w b j) I K := (g3.mono (fun b j h => Or.inr (by unfold sW; omega))).trans (k3.mono (fun b j h => by unfold scr sW; omega))
    obtain ⟨M, m1, m2⟩ := fK.split
    refine ⟨nI l.length, J, K, ?_, k1, inv_word hPL hPA (inv_scr hPL hPA hI m1 frL.rfl) hw m2 ⟨trn l, by rw [trn_len]; exact hl, trn_bits hb, ⟨?_, fun i x hx => ?_⟩, ⟨?_, fun i x hx => ?_⟩⟩⟩
    · unfold f_X10_turn
      rw [bnd1_some e1, if_neg (by decide), if_pos iw, cw, bnd1_some g1, g3 _ _ (by omega), hc.1]
    · rw [k3 _ _ (by omega), g3 _ _ (by omega), hc.1, trn_len]
    · obtain ⟨y, hy, rfl, hi⟩ := trn_at hx
      rw [k3 _ _ (by omega), g2 i hi, hc.2 _ _ hy]
    · rw [k3 _ _ (by omega), g3 _ _ (by omega), hm.1, trn_len]
    · obtain ⟨y, hy, rfl, hi⟩ := trn_at hx
      rw [k2 i hi, g3 _ _ (by omega), hm.2 _ _ hy]
  · refine ⟨-1, I, I, ?_, ?_, hI⟩
    · unfold f_X10_turn; rw [bnd1_some e1, if_pos rfl]
    · unfold f_X11_turn; rw [bnd1_some e2, if_pos rfl]
theorem ups_both {I : MI} {w : Nat} {l : List Int32} (hw : w < 6) (hl : l.length ≤ 12) (hc : WC I (10 + 4 * w) l) (hm : WM I 100 101 w l) (hN : 20 ≤ N) : ∃ r, f_X9_ups N (10 + 4 * w) I = some r ∧ f_X11_lettersU N (nI w) I = some r := by
  have iw : inb (nI w) 6 = true := inb_nI hw (by decide)
  have cw : Int32.toNatClampNeg (nI w) = w := nI_clamp (by omega)
  obtain ⟨r, q, h1, h2, h3⟩ := loop_sync (f := fun s : Int32 × Int32 => f_X9_ups_b4 N (10 + 4 * w) s.1 s.2 I) (g := fun s : Int32 × Int32 => f_X11_lettersU_b4 N (nI w) s.1 s.2 I) (fun j s t => s.2 = nI j ∧ t.2 = nI j ∧ s.1 = t.1) (fun r q => r = q) l.length (by
    rintro j ⟨a, b⟩ ⟨c, d⟩ hj ⟨e1, e2, e3⟩
    simp only at e1 e2 e3
    subst e1; subst e2; subst e3
    obtain ⟨x, hx⟩ := get_some hj
    have i1 : inb (nI j) 12 = true := inb_nI (by omega) (by decide)
    have i2 : inb (nI (12 * w + j)) 72 = true := inb_nI (by omega) (by decide)
    have c1 : Int32.toNatClampNeg (nI j) = j := nI_clamp (by omega)
    have c2 : Int32.toNatClampNeg (nI (12 * w + j)) = 12 * w + j := nI_clamp (by omega)
    have lt := (nI_ltI (a := j) (b := l.length) (by omega) (by omega)).mpr hj
    simp only [f_X9_ups_b4, f_X11_lettersU_b4]
    rw [hc.1, if_pos lt, if_pos i1, c1, hc.2 j x hx, if_pos iw, cw, hm.1, if_pos lt, w12, if_pos i2, c2, hm.2 j x hx]
    by_cases q : x = 0
    · rw [if_pos q, if_pos q]
      exact ⟨(a + 1, nI j + 1), (a + 1, nI j + 1), rfl, rfl, nI_1 _, nI_1 _, rfl⟩
    · rw [if_neg q, if_neg q]
      exact ⟨(a, nI j + 1), (a + 0, nI j + 1), rfl, rfl, nI_1 _, nI_1 _, by simp⟩) (by
    rintro ⟨a, b⟩ ⟨c, d⟩ ⟨e1, e2, e3⟩
    simp only at e1 e2 e3
    subst e1; subst e2; subst e3
    simp only [f_X9_ups_b4, f_X11_lettersU_b4]
    rw [hc.1, if_neg (nI_le0 (by omega) (Nat.le_refl _)), if_pos iw, cw, hm.1, if_neg (nI_le0 (by omega) (Nat.le_refl _))]
    exact ⟨a, a, rfl, rfl, rfl⟩) N 0 (0, 0) (0, 0) (Nat.zero_le _) (by omega) ⟨nl0, nl0, rfl⟩
  subst h3
  refine ⟨r, ?_, ?_⟩
  · unfold f_X9_ups f_X9_ups_l4; exact bnd1_some h1
  · unfold f_X11_lettersU f_X11_lettersU_l4; exact bnd1_some h2
theorem s_word (hN : 20 ≤ N) : S_word N (Inv0 PL PA) := by
  intro X I L x1 x2 hI
  rcases six_cases x1 with ⟨w, hw, rfl, e1, e2⟩ | ⟨e1, e2⟩
  · have iw : inb (nI w) 6 = true := inb_nI hw (by decide)
    have cw : Int32.toNatClampNeg (nI w) = w := nI_clamp (by omega)
    obtain ⟨l, hl, hb, hc, hm⟩ := hI.w hw
    by_cases h2 : x2 < -2
    · refine ⟨-1, ?_, ?_, hI⟩
      · unfold f_X10_word; rw [bnd1_some e1, if_neg (by decide), if_pos h2]
      · unfold f_X11_word; rw [bnd1_some e2, if_neg (by decide), if_pos h2]
    · by_cases h3 : x2 = -2
      · obtain ⟨r, g1, g2⟩ := ups_both hw hl hc hm hN
        refine ⟨r, ?_, ?_, hI⟩
        · unfold f_X10_word; rw [bnd1_some e1, if_neg (by decide), if_neg h2, if_pos iw, if_pos h3, cw, bnd1_some g1]
        · unfold f_X11_word; rw [bnd1_some e2, if_neg (by decide), if_neg h2, if_pos (by rw [h3]; decide), if_neg (by rw [h3]; decide), bnd1_some g2]
      · by_cases h4 : x2 = -1
        · refine ⟨nI l.length, ?_, ?_, hI⟩
          · unfold f_X10_word; rw [bnd1_some e1, if_neg (by decide), if_neg h2, if_pos iw, if_neg h3, if_pos h4, cw, hc.1]
          · unfold f_X11_word; rw [bnd1_some e2, if_neg (by decide), if_neg h2, if_pos (by rw [h4]; decide), if_pos h4, if_pos iw, cw, hm.1]
        · have h5 : ¬ x2 < 0 := by
            intro q
            rw [Int32.lt_iff_toInt_lt] at q h2
            have n2 : x2.toInt ≠ -2 := fun h => h3 (Int32.toInt_inj.mp (h.trans (by decide)))
            have n1 : x2.toInt ≠ -1 := fun h => h4 (Int32.toInt_inj.mp (h.trans (by decide)))
            have a2 : (-2 : Int32).toInt = -2 := by decide
            have a0 : (0 : Int32).toInt = 0 := by decide
            omega
          obtain ⟨j, hj, rfl⟩ := nI_of h5
          by_cases h6 : j < l.length
          · obtain ⟨x, hx⟩ := get_some h6
            refine ⟨x, ?_, ?_, hI⟩
            · unfold f_X10_word; rw [bnd1_some e1, if_neg (by decide), if_neg h2, if_pos iw, if_neg h3, if_neg h4, cw, hc.1, if_pos ((nI_ltI hj (by omega)).mpr h6), if_pos (inb_nI (by omega) (by decide)), nI_clamp hj, hc.2 j x hx]
            · unfold f_X11_word; rw [bnd1_some e2, if_neg (by decide), if_neg h2, if_neg h5, if_pos iw, cw, hm.1, if_pos ((nI_ltI hj (by omega)).mpr h6), w12, if_pos (inb_nI (by omega) (by decide)), nI_clamp (by omega), hm.2 j x hx]
          · refine ⟨-5, ?_, ?_, hI⟩
            · unfold f_X10_word; rw [bnd1_some e1, if_neg (by decide), if_neg h2, if_pos iw, if_neg h3, if_neg h4, cw, hc.1, if_neg (fun q => h6 ((nI_ltI hj (by omega)).mp q))]
            · unfold f_X11_word; rw [bnd1_some e2, if_neg (by decide), if_neg h2, if_neg h5, if_pos iw, cw, hm.1, if_neg (fun q => h6 ((nI_ltI hj (by omega)).mp q))]
  · refine ⟨-1, ?_, ?_, hI⟩
    · unfold f_X10_word; rw [bnd1_some e1, if_pos rfl]
    · unfold f_X11_word; rw [bnd1_some e2, if_pos rfl]
theorem acted_both {I : MI} {w m : Nat} {v3 : Int32} {l : List Int32} (hw : w < 6) (hl : l.length ≤ 12) (hc : WC I (10 + 4 * w) l) (hm : WM I 100 101 w l) (hq : m ≤ 20) (hN : 20 ≤ N) : ∃ r, f_X10_acted_l56 N v3 (10 + 4 * w) 1 (nI m) (nI l.length - 1) I = some r ∧ f_X11_acted_l49 N (nI w) v3 1 (nI m) (nI l.length - 1) I = some r := by
  have pred : ∀ j, j < l.length → nI (l.length - j) - 1 = nI (l.length - (j + 1)) := fun j hj => by rw [nl1, nI_sub (by omega)]; congr 1
  obtain ⟨r, q, h1, h2, h3⟩ := loop_sync (f := fun s : Int64 × Int32 × Int32 => f_X10_acted_b56 N v3 (10 + 4 * w) s.1 s.2.1 s.2.2 I) (g := fun s : Int64 × Int32 × Int32 => f_X11_acted_b49 N (nI w) v3 s.1 s.2.1 s.2.2 I) (fun j s t => s = t ∧ s.2.2 = nI (l.length - j) - 1 ∧ ∃ k, k ≤ m + j ∧ s.2.1 = nI k) (fun r q => r = q) l.length (by
    rintro j ⟨a, b, c⟩ t hj ⟨e0, e1, k, hk, e2⟩
    simp only at e1 e2
    subst e0; subst e2
    rw [pred j hj] at e1
    subst e1
    obtain ⟨x, hx⟩ := get_some (l := l) (j := l.length - (j + 1)) (by omega)
    have i1 : inb (nI (l.length - (j + 1))) 12 = true := inb_nI (by omega) (by decide)
    have i2 : inb (nI (12 * w + (l.length - (j + 1)))) 72 = true := inb_nI (by omega) (by decide)
    have c1 : Int32.toNatClampNeg (nI (l.length - (j + 1))) = l.length - (j + 1) := nI_clamp (by omega)
    have c2 : Int32.toNatClampNeg (nI (12 * w + (l.length - (j + 1)))) = 12 * w + (l.length - (j + 1)) := nI_clamp (by omega)
    have np := nI_pos (n := l.length - (j + 1)) (by omega)
    have ee : nI (l.length - (j + 1)) + -1 = nI (l.length - (j + 1)) - 1 := (Int32.sub_eq_add_neg _ _).symm
    simp only [f_X10_acted_b56, f_X11_acted_b49]
    rw [if_neg np, if_pos i1, c1, hc.2 _ x hx, if_neg np, w12, if_pos i2, c2, hm.2 _ x hx]
    by_cases q : x = 0
    · rw [if_pos q, if_pos q]
      exact ⟨_, _, rfl, rfl, rfl, ee, k + 1, by omega, nI_1 _⟩
    · rw [if_neg q, if_neg q]
      simp only [letv]
      by_cases z : k = 0
      · subst z
        rw [if_pos (by decide), if_neg (by decide)]
        exact ⟨_, _, rfl, rfl, by simp; decide, ee, 0, by omega, nl0⟩
      · rw [nl1, nI_sub (by omega), if_neg (nI_pos (by omega)), nl0, if_pos ((nI_ltI (by omega) (by omega)).mpr (by omega))]
        exact ⟨_, _, rfl, rfl, rfl, ee, k - 1, by omega, rfl⟩) (by
    rintro ⟨a, b, c⟩ t ⟨e0, e1, k, hk, e2⟩
    simp only at e1 e2
    subst e0; subst e2
    rw [Nat.sub_self] at e1
    subst e1
    simp only [f_X10_acted_b56, f_X11_acted_b49]
    rw [if_pos (by decide)]
    exact ⟨_, _, rfl, rfl, rfl⟩) N 0 (1, nI m, nI l.length - 1) (1, nI m, nI l.length - 1) (Nat.zero_le _) (by omega) ⟨rfl, rfl, m, by omega, rfl⟩
  subst h3
  exact ⟨r, h1, h2⟩
theorem s_acted (hN : 20 ≤ N) : S_acted N (Inv0 PL PA) := by
  intro X I L x1 x2 x3 hI
  rcases six_cases x1 with ⟨w, hw, rfl, e1, e2⟩ | ⟨e1, e2⟩
  · have iw : inb (nI w) 6 = true := inb_nI hw (by decide)
    have cw : Int32.toNatClampNeg (nI w) = w := nI_clamp (by omega)
    obtain ⟨l, hl, hb, hc, hm⟩ := hI.w hw
    rcases rng_cases x2 20 (by decide) (hi := 20) (by decide) with ⟨m, hq, rfl, e3⟩ | ⟨h3, e3⟩
    · rcases rng_cases x3 1 (by decide) (hi := 1) (by decide) with ⟨k, hk, rfl, e4⟩ | ⟨h4, e4⟩
      · obtain ⟨⟨r1, r2⟩, g1, g2⟩ := acted_both (N := N) (v3 := nI k) hw hl hc hm hq hN
        refine ⟨if nI k = 0 then r1 else Int32.toInt64 r2, ?_, ?_, hI⟩
        · unfold f_X10_acted
          rw [bnd1_some e1, if_neg (by decide), if_neg (nI_pos (by omega)), nl20, if_neg (nI_le0 (by omega) hq), if_neg (nI_pos (by omega)), if_neg (show ¬ (1 : Int32) < nI k by rw [nl1]; exact nI_le0 (by omega) hk), if_pos iw, cw, hc.1]
          simp only [letv]
          rw [bnd2_some g1]
          split <;> rfl
        · unfold f_X11_acted
          rw [bnd1_some e2, if_neg (by decide), bnd1_some e3, if_neg (by decide), bnd1_some e4, if_neg (by decide), if_pos iw, cw, hm.1]
          simp only [letv]
          rw [bnd2_some g2]
          split <;> rfl
      · refine ⟨-9223372036854775808, ?_, ?_, hI⟩
        · unfold f_X10_acted
          rw [bnd1_some e1, if_neg (by decide), if_neg (nI_pos (by omega)), nl20, if_neg (nI_le0 (by omega) hq)]
          by_cases q : x3 < 0
          · rw [if_pos q]
          · rw [if_neg q, nl1, if_pos (h4.resolve_left q)]
        · unfold f_X11_acted
          rw [bnd1_some e2, if_neg (by decide), bnd1_some e3, if_neg (by decide), bnd1_some e4, if_pos rfl]
    · refine ⟨-9223372036854775808, ?_, ?_, hI⟩
      · unfold f_X10_acted
        rw [bnd1_some e1, if_neg (by decide)]
        by_cases q : x2 < 0
        · rw [if_pos q]
        · rw [if_neg q, nl20, if_pos (h3.resolve_left q)]
      · unfold f_X11_acted
        rw [bnd1_some e2, if_neg (by decide), bnd1_some e3, if_pos rfl]
  · refine ⟨-9223372036854775808, ?_, ?_, hI⟩
    · unfold f_X10_acted; rw [bnd1_some e1, if_pos rfl]
    · unfold f_X11_acted; rw [bnd1_some e2, if_pos rfl]
end WS4
/-! order -/
theorem fill_L {N a n : Nat} {v : Int64} {L : ML} (hN : n < N) (hn : n < 2 ^ 31) : ∃ L', f_J7_fill_d0a16 N a n v L = some L' ∧ (∀ i, i < n → L' a i = v) ∧ frL (fun b j => b = a ∧ j < n) L L' := by
  have key := loop_inv (f := fun s' : Int32 × ML => f_J7_fill_d0a16_b6 N a n v (Int32.ofNat n) s'.1 s'.2) (fun j st => st.1 = nI j ∧ (∀ i, i < j → st.2 a i = v) ∧ frL (fun b j => b = a ∧ j < n) L st.2) (fun L' => (∀ i, i < n → L' a i = v) ∧ frL (fun b j => b = a ∧ j < n) L L') n ?_ ?_ N 0 (nI 0, L) (Nat.zero_le _) (by omega) ⟨rfl, fun i hi => absurd hi (by omega), frL.rfl⟩
  · obtain ⟨L', e, p1, p2⟩ := key
    refine ⟨L', ?_, p1, p2⟩
    unfold f_J7_fill_d0a16 f_J7_fill_d0a16_l6
    rw [nl0]
    exact bnd1_some e
  · rintro j ⟨c, K⟩ hj ⟨e1, w1, f1⟩
    simp only at e1 w1 f1
    subst e1
    refine ⟨(nI (j + 1), upL K a j v), ?_, rfl, ?_, f1.trans (frL.up ⟨rfl, hj⟩)⟩
    · show f_J7_fill_d0a16_b6 N a n v (Int32.ofNat n) (nI j) K = _
      unfold f_J7_fill_d0a16_b6
      rw [show Int32.ofNat n = nI n from rfl, if_pos ((nI_ltI (by omega) (by omega)).mpr hj), if_pos (inb_nI hj hn), nI_clamp (by omega)]
      simp only [letv]
      rw [nI_1]
    · intro i hi
      show upL K a j v a i = v
      rw [upL_at]
      by_cases q : i = j
      · rw [if_pos q]
      · rw [if_neg q]; exact w1 i (by omega)
  · rintro ⟨c, K⟩ ⟨e1, w1, f1⟩
    simp only at e1 w1 f1
    subst e1
    refine ⟨K, ?_, w1, f1⟩
    show f_J7_fill_d0a16_b6 N a n v (Int32.ofNat n) (nI n) K = _
    unfold f_J7_fill_d0a16_b6
    rw [show Int32.ofNat n = nI n from rfl, if_neg (nI_le0 (by omega) (Nat.le_refl _))]
def ostep (d : Nat) (o : Nat → Int64) (i : Nat) : Int64 := if 1 ≤ i ∧ i ≤ d then o i + Int32.toInt64 (nI (d + 1 - i)) * o (i - 1) else o i
theorem ostepC {N a a1 d : Nat} {v3 : Int32} {L : ML} (hd : d ≤ 12) (hN : 20 ≤ N) : ∃ L', f_X9_fillOrders_l40 N a a1 13 (nI d) v3 (nI d) L = some L' ∧ (∀ i, i < 13 → L' a1 i = ostep d (L a1) i) ∧ frL (fun b j => b = a1) L L' := by
  have key := loop_inv (f := fun s' : Int32 × ML => f_X9_fillOrders_b40 N a a1 13 (nI d) v3 s'.1 s'.2) (fun j st => st.1 = nI (d - j) ∧ (∀ i, i < 13 → st.2 a1 i = if d - j < i then ostep d (L a1) i else L a1 i) ∧ frL (fun b j => b = a1) L st.2) (fun L' => (∀ i, i < 13 → L' a1 i = ostep d (L a1) i) ∧ frL (fun b j => b = a1) L L') d ?_ ?_ N 0 (nI d, L) (Nat.zero_le _) (by omega) ⟨rfl, fun i hi => ?_, frL.rfl⟩
  · exact key
  · rintro j ⟨c, K⟩ hj ⟨e1, w1, f1⟩
    simp only at e1 w1 f1
    subst e1
    refine ⟨(nI (d - (j + 1)), upL K a1 (d - j) (ostep d (L a1) (d - j))), ?_, rfl, ?_, f1.trans (frL.up rfl)⟩
    · show f_X9_fillOrders_b40 N a a1 13 (nI d) v3 (nI (d - j)) K = _
      have i1 : inb (nI (d - j)) 13 = true := inb_nI (by omega) (by decide)
      have e4 : nI (d - j) - 1 = nI (d - j - 1) := by rw [nl1, nI_sub (by omega)]
      have i2 : inb (nI (d - j - 1)) 13 = true := inb_nI (by omega) (by decide)
      have e5 : nI d - nI (d - j) + 1 = nI (d + 1 - (d - j)) := by rw [nI_sub (by omega), nI_1]; congr 1; omega
      have e6 : nI (d - j) + -1 = nI (d - (j + 1)) := by rw [← Int32.sub_eq_add_neg, e4]; congr 1
      have s1 := w1 (d - j) (by omega)
      have s2 := w1 (d - j - 1) (by omega)
      rw [if_neg (by omega)] at s1 s2
      unfold f_X9_fillOrders_b40
      rw [if_neg (by rw [nl1, nI_ltI (by omega) (by omega)]; omega), if_pos i1, e4, if_pos i2, if_pos i1, nI_clamp (by omega), nI_clamp (by omega), s1, s2, e5, e6]
      have eo : ostep d (L a1) (d - j) = L a1 (d - j) + Int32.toInt64 (nI (d + 1 - (d - j))) * L a1 (d - j - 1) := by unfold ostep; rw [if_pos (by omega)]
      rw [eo]
      rfl
    · intro i hi
      show upL K a1 (d - j) _ a1 i = _
      rw [upL_at]
      by_cases q : i = d - j
      · rw [if_pos q, if_pos (by omega), q]
      · rw [if_neg q, w1 i hi]
        by_cases q2 : d - j < i
        · rw [if_pos q2, if_pos (by omega)]
        · rw [if_neg q2, if_neg (by omega)]
  · rintro ⟨c, K⟩ ⟨e1, w1, f1⟩
    simp only at e1 w1 f1
    rw [Nat.sub_self] at e1
    subst e1
    refine ⟨K, ?_, fun i hi => ?_, f1⟩
    · show f_X9_fillOrders_b40 N a a1 13 (nI d) v3 (nI 0) K = _
      unfold f_X9_fillOrders_b40
      rw [if_pos (by decide)]
    · rw [w1 i hi, Nat.sub_self]
      by_cases q : 0 < i
      · rw [if_pos q]
      · rw [if_neg q]; unfold ostep; rw [if_neg (by omega)]
  · show L a1 i = _
    by_cases q : d - 0 < i
    · rw [if_pos q]; unfold ostep; rw [if_neg (by omega)]
    · rw [if_neg q]
theorem ostepM {N w d : Nat} {v3 : Int32} {L : ML} (hd : d ≤ 12) (hN : 20 ≤ N) : ∃ L', f_X11_layOrders_l68 N (nI w) (nI d) v3 12 L = some L' ∧ (∀ i, i < 14 → L' 124 i = ostep d (L 124) i) ∧ frL (fun b j => b = 124) L L' := by
  have key := loop_inv (f := fun s' : Int32 × ML => f_X11_layOrders_b68 N (nI w) (nI d) v3 s'.1 s'.2) (fun j st => st.1 = nI (13 - j) - 1 ∧ (∀ i, i < 14 → st.2 124 i = if 13 - j < i then ostep d (L 124) i else L 124 i) ∧ frL (fun b j => b = 124) L st.2) (fun L' => (∀ i, i < 14 → L' 124 i = ostep d (L 124) i) ∧ frL (fun b j => b = 124) L L') 13 ?_ ?_ N 0 (12, L) (Nat.zero_le _) (by omega) ⟨show (12 : Int32) = nI 13 - 1 by decide, fun i hi => by rw [if_neg (by omega)], frL.rfl⟩
  · exact key
  · rintro j ⟨c, K⟩ hj ⟨e1, w1, f1⟩
    simp only at e1 w1 f1
    have e4 : nI (13 - j) - 1 = nI (12 - j) := by rw [nl1, nI_sub (by omega)]; congr 1; omega
    rw [e4] at e1
    subst e1
    refine ⟨(nI (12 - j) + -1, upL K 124 (13 - j) (ostep d (L 124) (13 - j))), ?_, ?_, ?_, f1.trans (frL.up rfl)⟩
    · show f_X11_layOrders_b68 N (nI w) (nI d) v3 (nI (12 - j)) K = _
      have e5 : nI (12 - j) + 1 = nI (13 - j) := by rw [nI_1]; congr 1; omega
      have i1 : inb (nI (12 - j)) 14 = true := inb_nI (by omega) (by decide)
      have i2 : inb (nI (13 - j)) 14 = true := inb_nI (by omega) (by decide)
      have s1 := w1 (13 - j) (by omega)
      have s2 := w1 (12 - j) (by omega)
      rw [if_neg (by omega)] at s1 s2
      unfold f_X11_layOrders_b68
      rw [if_neg (nI_pos (by omega)), e5, if_pos i2, nI_clamp (by omega), nI_clamp (by omega), s1, s2]
      by_cases q : 12 - j < d
      · have e6 : nI d - nI (12 - j) = nI (d + 1 - (13 - j)) := by rw [nI_sub (by omega)]; congr 1; omega
        have eo : ostep d (L 124) (13 - j) = L 124 (13 - j) + L 124 (12 - j) * Int32.toInt64 (nI (d + 1 - (13 - j))) := by
          unfold ostep; rw [if_pos (by omega), Int64.mul_comm]; congr 3; omega
        rw [if_pos ((nI_ltI (by omega) (by omega)).mpr q), if_pos i1, if_pos i2, e6, eo]
        rfl
      · have eo : ostep d (L 124) (13 - j) = L 124 (13 - j) + 0 := by
          unfold ostep; rw [if_neg (by omega)]; simp
        rw [if_neg (fun z => q ((nI_ltI (by omega) (by omega)).mp z)), if_pos i2, eo]
        rfl
    · show nI (12 - j) + -1 = nI (13 - (j + 1)) - 1
      rw [← Int32.sub_eq_add_neg]; congr 2; omega
    · intro i hi
      show upL K 124 (13 - j) _ 124 i = _
      rw [upL_at]
      by_cases q : i = 13 - j
      · rw [if_pos q, if_pos (by omega), q]
      · rw [if_neg q, w1 i hi]
        by_cases q2 : 13 - j < i
        · rw [if_pos q2, if_pos (by omega)]
        · rw [if_neg q2, if_neg (by omega)]
  · rintro ⟨c, K⟩ ⟨e1, w1, f1⟩
    simp only at e1 w1 f1
    subst e1
    refine ⟨K, ?_, fun i hi => ?_, f1⟩
    · show f_X11_layOrders_b68 N (nI w) (nI d) v3 (nI (13 - 13) - 1) K = _
      unfold f_X11_layOrders_b68
      rw [if_pos (by decide)]
    · rw [w1 i hi]
      by_cases q : 13 - 13 < i
      · rw [if_pos q]
      · rw [if_neg q]; unfold ostep; rw [if_neg (by omega)]
theorem olay0 {N w : Nat} {L : ML} (hN : 20 ≤ N) : ∃ L', f_X11_layOrders_l4 N (nI w) 0 0 L = some L' ∧ (∀ i, i < 14 → L' 124 i = if i = 0 then 1 else 0) ∧ frL (fun b j => b = 124) L L' := by
  have key := loop_inv (f := fun s' : Int32 × ML => f_X11_layOrders_b4 N (nI w) 0 s'.1 s'.2) (fun j st => st.1 = nI j ∧ (∀ i, i < j → st.2 124 i = if i = 0 then 1 else 0) ∧ frL (fun b j => b = 124) L st.2) (fun L' => (∀ i, i < 14 → L' 124 i = if i = 0 then 1 else 0) ∧ frL (fun b j => b = 124) L L') 14 ?_ ?_ N 0 (0, L) (Nat.zero_le _) (by omega) ⟨nl0, fun i hi => absurd hi (by omega), frL.rfl⟩
  · exact key
  · rintro j ⟨c, K⟩ hj ⟨e1, w1, f1⟩
    simp only at e1 w1 f1
    subst e1
    refine ⟨(nI (j + 1), upL K 124 j (if j = 0 then 1 else 0)), ?_, rfl, ?_, f1.trans (frL.up rfl)⟩
    · show f_X11_layOrders_b4 N (nI w) 0 (nI j) K = _
      have i1 : inb (nI j) 14 = true := inb_nI (by omega) (by decide)
      unfold f_X11_layOrders_b4
      rw [nl14, if_pos ((nI_ltI (by omega) (by omega)).mpr hj), nI_clamp (by omega), nI_1]
      by_cases q : j = 0
      · subst q
        rw [if_pos (by decide), if_pos i1]; rfl
      · rw [if_neg (by rw [nl0, nI_eq (by omega) (by omega)]; exact q), if_pos i1, if_neg q]; rfl
    · intro i hi
      show upL K 124 j _ 124 i = _
      rw [upL_at]
      by_cases q : i = j
      · rw [if_pos q, q]
      · rw [if_neg q]; exact w1 i (by omega)
  · rintro ⟨c, K⟩ ⟨e1, w1, f1⟩
    simp only at e1 w1 f1
    subst e1
    refine ⟨K, ?_, w1, f1⟩
    show f_X11_layOrders_b4 N (nI w) 0 (nI 14) K = _
    unfold f_X11_layOrders_b4
    rw [if_neg (by decide)]
theorem ostep_congr {d n : Nat} {o o' : Nat → Int64} (h : ∀ i, i < n → o i = o' i) {i : Nat} (hi : i < n) : ostep d o i = ostep d o' i := by
  unfold ostep
  by_cases q : 1 ≤ i ∧ i ≤ d
  · rw [if_pos q, if_pos q, h i hi, h (i - 1) (by omega)]
  · rw [if_neg q, if_neg q, h i hi]
/-- what the letters make of the orders -/
def ordW : List Int32 → Nat → (Nat → Int64) → (Nat → Int64)
  | [], _, o => o
  | x :: l, d, o => if x = 1 then ordW l (d + 1) o else ordW l d (ostep d o)
theorem ordW_congr {n : Nat} : ∀ (l : List Int32) (d : Nat) (o o' : Nat → Int64), (∀ i, i < n → o i = o' i) → ∀ i, i < n → ordW l d o i = ordW l d o' i
  | [], _, _, _, h, i, hi => h i hi
  | x :: l, d, o, o', h, i, hi => by
    unfold ordW
    by_cases q : x = 1
    · rw [if_pos q, if_pos q]; exact ordW_congr l _ _ _ h i hi
    · rw [if_neg q, if_neg q]; exact ordW_congr l _ _ _ (fun k hk => ostep_congr h hk) i hi
theorem ordW13 : ∀ (l : List Int32) (d : Nat) (o : Nat → Int64), d + l.length ≤ 12 → ordW l d o 13 = o 13
  | [], _, _, _ => rfl
  | x :: l, d, o, h => by
    simp only [List.length_cons] at h
    unfold ordW
    by_cases q : x = 1
    · rw [if_pos q]; exact ordW13 l _ _ (by omega)
    · rw [if_neg q, ordW13 l _ _ (by omega)]; unfold ostep; rw [if_neg (by omega)]
theorem ordW_1 {x : Int32} {l : List Int32} {d : Nat} {o : Nat → Int64} (q : x = 1) : ordW (x :: l) d o = ordW l (d + 1) o := by rw [ordW, if_pos q]
theorem ordW_n {x : Int32} {l : List Int32} {d : Nat} {o : Nat → Int64} (q : ¬ x = 1) : ordW (x :: l) d o = ordW l d (ostep d o) := by rw [ordW, if_neg q]
theorem ordC {N a : Nat} {I : MI} {l : List Int32} (hc : WC I a l) (hl : l.length ≤ 12) (hN : 20 ≤ N) (L : ML) : ∃ L', f_X9_fillOrders_l13 N a 98 13 0 0 I L = some L' ∧ (∀ i, i < 13 → L' 98 i = ordW l 0 (L 98) i) ∧ frL (fun b j => b = 98) L L' := by
  have key := loop_inv (f := fun s' : Int32 × Int32 × ML => f_X9_fillOrders_b13 N a 98 13 s'.1 s'.2.1 I s'.2.2) (fun j st => st.2.1 = nI j ∧ (∃ d, d ≤ j ∧ st.1 = nI d ∧ ∀ i, i < 13 → ordW (l.drop j) d (st.2.2 98) i = ordW l 0 (L 98) i) ∧ frL (fun b j => b = 98) L st.2.2) (fun L' => (∀ i, i < 13 → L' 98 i = ordW l 0 (L 98) i) ∧ frL (fun b j => b = 98) L L') l.length ?_ ?_ N 0 (0, 0, L) (Nat.zero_le _) (by omega) ⟨nl0, ⟨0, by omega, nl0, fun i hi => rfl⟩, frL.rfl⟩
  · exact key
  · rintro j ⟨b, c, K⟩ hj ⟨e1, ⟨d, hd, e2, w1⟩, f1⟩
    simp only at e1 e2 w1 f1
    subst e1; subst e2
    obtain ⟨x, hx⟩ := get_some hj
    have hdr : l.drop j = x :: l.drop (j + 1) := by
      rw [List.drop_eq_getElem_cons hj]; congr 1
      rw [List.getElem?_eq_getElem hj] at hx; exact Option.some.inj hx
    rw [hdr] at w1
    show ∃ s', f_X9_fillOrders_b13 N a 98 13 (nI d) (nI j) I K = _ ∧ _
    unfold f_X9_fillOrders_b13
    rw [hc.1, if_pos ((nI_ltI (by omega) (by omega)).mpr hj), if_pos (inb_nI (by omega) (by decide)), nI_clamp (by omega), hc.2 j x hx]
    by_cases q : x = 1
    · rw [if_pos q]
      refine ⟨_, rfl, nI_1 _, ⟨d + 1, by omega, nI_1 _, fun i hi => ?_⟩, f1⟩
      have := w1 i hi
      rwa [ordW_1 q] at this
    · rw [if_neg q]
      obtain ⟨K', g1, g2, g3⟩ := ostepC (N := N) (a := a) (a1 := 98) (d := d) (v3 := nI j) (L := K) (by omega) hN
      rw [bnd1_some g1]
      refine ⟨_, rfl, nI_1 _, ⟨d, by omega, rfl, fun i hi => ?_⟩, f1.trans g3⟩
      have := w1 i hi
      rw [ordW_n q] at this
      rw [← this]
      exact ordW_congr _ _ _ _ g2 i hi
  · rintro ⟨b, c, K⟩ ⟨e1, ⟨d, hd, e2, w1⟩, f1⟩
    simp only at e1 e2 w1 f1
    subst e1; subst e2
    refine ⟨K, ?_, fun i hi => ?_, f1⟩
    · show f_X9_fillOrders_b13 N a 98 13 (nI d) (nI l.length) I K = _
      unfold f_X9_fillOrders_b13
      rw [hc.1, if_neg (nI_le0 (by omega) (Nat.le_refl _))]
    · rw [← w1 i hi, List.drop_length]; rfl
theorem ordM {N w : Nat} {I : MI} {l : List Int32} (hw : w < 6) (hm : WM I 100 101 w l) (hl : l.length ≤ 12) (hN : 20 ≤ N) (L : ML) : ∃ L', f_X11_layOrders_l33 N (nI w) 0 0 I L = some L' ∧ (∀ i, i < 14 → L' 124 i = ordW l 0 (L 124) i) ∧ frL (fun b j => b = 124) L L' := by
  have iw : inb (nI w) 6 = true := inb_nI hw (by decide)
  have cw : Int32.toNatClampNeg (nI w) = w := nI_clamp (by omega)
  have key := loop_inv (f := fun s' : Int32 × Int32 × ML => f_X11_layOrders_b33 N (nI w) s'.1 s'.2.1 I s'.2.2) (fun j st => st.2.1 = nI j ∧ (∃ d, d ≤ j ∧ st.1 = nI d ∧ ∀ i, i < 14 → ordW (l.drop j) d (st.2.2 124) i = ordW l 0 (L 124) i) ∧ frL (fun b j => b = 124) L st.2.2) (fun L' => (∀ i, i < 14 → L' 124 i = ordW l 0 (L 124) i) ∧ frL (fun b j => b = 124) L L') l.length ?_ ?_ N 0 (0, 0, L) (Nat.zero_le _) (by omega) ⟨nl0, ⟨0, by omega, nl0, fun i hi => rfl⟩, frL.rfl⟩
  · exact key
  · rintro j ⟨b, c, K⟩ hj ⟨e1, ⟨d, hd, e2, w1⟩, f1⟩
    simp only at e1 e2 w1 f1
    subst e1; subst e2
    obtain ⟨x, hx⟩ := get_some hj
    have hdr : l.drop j = x :: l.drop (j + 1) := by
      rw [List.drop_eq_getElem_cons hj]; congr 1
      rw [List.getElem?_eq_getElem hj] at hx; exact Option.some.inj hx
    rw [hdr] at w1
    show ∃ s', f_X11_layOrders_b33 N (nI w) (nI d) (nI j) I K = _ ∧ _
    unfold f_X11_layOrders_b33
    rw [if_pos iw, cw, hm.1, if_pos ((nI_ltI (by omega) (by omega)).mpr hj), w12, if_pos (inb_nI (by omega) (by decide)), nI_clamp (by omega), hm.2 j x hx]
    by_cases q : x = 1
    · rw [if_pos q]
      refine ⟨_, rfl, nI_1 _, ⟨d + 1, by omega, nI_1 _, fun i hi => ?_⟩, f1⟩
      have := w1 i hi
      rwa [ordW_1 q] at this
    · rw [if_neg q]
      obtain ⟨K', g1, g2, g3⟩ := ostepM (N := N) (w := w) (d := d) (v3 := nI j) (L := K) (by omega) hN
      rw [bnd1_some g1]
      refine ⟨_, rfl, nI_1 _, ⟨d, by omega, rfl, fun i hi => ?_⟩, f1.trans g3⟩
      have := w1 i hi
      rw [ordW_n q] at this
      rw [← this]
      exact ordW_congr _ _ _ _ g2 i hi
  · rintro ⟨b, c, K⟩ ⟨e1, ⟨d, hd, e2, w1⟩, f1⟩
    simp only at e1 e2 w1 f1
    subst e1; subst e2
    refine ⟨K, ?_, fun i hi => ?_, f1⟩
    · show f_X11_layOrders_b33 N (nI w) (nI d) (nI l.length) I K = _
      unfold f_X11_layOrders_b33
      rw [if_pos iw, cw, hm.1, if_neg (nI_le0 (by omega) (Nat.le_refl _))]
    · rw [← w1 i hi, List.drop_length]; rfl
section WS5
variable {PL : MX → MI → ML → Prop} {PA : MI → Prop} {N : Nat}
theorem s_order (hPL : frPL PL) (hPA : frPA PA) (hN : 20 ≤ N) : S_order N (Inv0 PL PA) := by
  intro X I L x1 x2 hI
  rcases six_cases x1 with ⟨w, hw, rfl, e1, e2⟩ | ⟨e1, e2⟩
  · have iw : inb (nI w) 6 = true := inb_nI hw (by decide)
    have cw : Int32.toNatClampNeg (nI w) = w := nI_clamp (by omega)
    obtain ⟨l, hl, hb, hc, hm⟩ := hI.w hw
    by_cases h0 : x2 < 0
    · refine ⟨-9223372036854775808, L, L, ?_, ?_, hI⟩
      · unfold f_X10_order; rw [bnd1_some e1, if_neg (by decide), if_pos h0]
      · unfold f_X11_order; rw [bnd1_some e2, if_neg (by decide), if_pos h0]
    · obtain ⟨k, hk, rfl⟩ := nI_of h0
      have hM : ∀ L1 : ML, ∃ L2, f_X11_layOrders N (nI w) I L1 = some L2 ∧ (∀ i, i < 14 → L2 124 i = ordW l 0 (fun i => if i = 0 then 1 else 0) i) ∧ frL (fun b j => b = 124) L1 L2 := by
        intro L1
        obtain ⟨L2, g1, g2, g3⟩ := olay0 (N := N) (w := w) (L := L1) hN
        obtain ⟨L3, k1, k2, k3⟩ := ordM (N := N) hw hm hl hN L2
        refine ⟨L3, ?_, fun i hi => (k2 i hi).trans (ordW_congr l 0 _ _ g2 i hi), g3.trans k3⟩
        unfold f_X11_layOrders
        rw [bnd1_some g1, bnd1_some k1]
      by_cases h1 : k < 13
      · obtain ⟨L1, a1, a2, a3⟩ := fill_L (N := N) (a := 98) (n := 13) (v := 0) (L := L) (by omega) (by decide)
        obtain ⟨L2, b1, b2, b3⟩ := ordC (N := N) hc hl hN (upL L1 98 0 1)
        obtain ⟨L3, c1, c2, c3⟩ := hM L2
        have hz : ∀ i, i < 13 → upL L1 98 0 1 98 i = if i = 0 then 1 else 0 := by
          intro i hi
          rw [upL_at]
          by_cases q : i = 0
          · rw [if_pos q, if_pos q]
          · rw [if_neg q, if_neg q, a2 i hi]
        have hv : L2 98 k = ordW l 0 (fun i => if i = 0 then 1 else 0) k := (b2 k h1).trans (ordW_congr l 0 _ _ hz k h1)
        refine ⟨L2 98 k, L2, L3, ?_, ?_, inv_scr hPL hPA hI fr.rfl ((a3.mono (S' := scrL) (fun b j h => by unfold scrL; omega)).trans ((frL.up (S := scrL) (by unfold scrL; omega)).trans ((b3.mono (fun b j h => by unfold scrL; omega)).trans (c3.mono (fun b j h => by unfold scrL; omega)))))⟩
        · unfold f_X10_order
          rw [bnd1_some e1, if_neg (by decide), if_neg h0, nl13, if_pos ((nI_ltI hk (by omega)).mpr h1), if_pos iw, cw]
          have hf : f_X9_fillOrders N (10 + 4 * w) 98 13 I L = some L2 := by
            unfold f_X9_fillOrders
            rw [bnd1_some a1, if_pos (by decide)]
            show bnd1 (f_X9_fillOrders_l13 N (10 + 4 * w) 98 13 0 0 I (upL L1 98 0 1)) _ = _
            rw [bnd1_some b1]
          rw [bnd1_some hf, if_pos (inb_nI h1 (by decide)), nI_clamp hk]
        · unfold f_X11_order
          rw [bnd1_some e2, if_neg (by decide), if_neg h0, bnd1_some c1, nl14, if_pos ((nI_ltI hk (by omega)).mpr (by omega)), if_pos (inb_nI (by omega) (by decide)), nI_clamp hk, c2 k (by omega), hv]
      · obtain ⟨L3, c1, c2, c3⟩ := hM L
        refine ⟨0, L, L3, ?_, ?_, inv_scr hPL hPA hI fr.rfl (c3.mono (fun b j h => by unfold scrL; omega))⟩
        · unfold f_X10_order
          rw [bnd1_some e1, if_neg (by decide), if_neg h0, nl13, if_neg (fun q => h1 ((nI_ltI hk (by omega)).mp q))]
        · unfold f_X11_order
          rw [bnd1_some e2, if_neg (by decide), if_neg h0, bnd1_some c1, nl14]
          by_cases h2 : k < 14
          · have : k = 13 := by omega
            subst this
            rw [if_pos (by decide), if_pos (by decide), nI_clamp hk, c2 13 (by omega), ordW13 l 0 _ (by omega)]
            rfl
          · rw [if_neg (fun q => h2 ((nI_ltI hk (by omega)).mp q))]
  · refine ⟨-9223372036854775808, L, L, ?_, ?_, hI⟩
    · unfold f_X10_order; rw [bnd1_some e1, if_pos rfl]
    · unfold f_X11_order; rw [bnd1_some e2, if_pos rfl]
end WS5
