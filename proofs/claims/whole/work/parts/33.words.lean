/-! ===== words: letter, empty, make, join ===== -/
def fc (a b j : Nat) : Prop := b = a ∨ b = a + 1
def fm (w b j : Nat) : Prop := (b = 100 ∧ j = w) ∨ (b = 101 ∧ 12 * w ≤ j ∧ j < 12 * w + 12)
theorem app1 {l : List Int32} {s x : Int32} {i : Nat} (h : (l ++ [s])[i]? = some x) : (i < l.length ∧ l[i]? = some x) ∨ (i = l.length ∧ x = s) := by
  rw [List.getElem?_append] at h
  by_cases hi : i < l.length
  · rw [if_pos hi] at h; exact Or.inl ⟨hi, h⟩
  · rw [if_neg hi] at h
    have h1 : i - l.length = 0 := by
      have := (List.getElem?_eq_some_iff.mp h).1
      simp at this; omega
    rw [h1] at h
    simp at h
    exact Or.inr ⟨by omega, h.symm⟩
theorem WC_push {I : MI} {a : Nat} {l : List Int32} {s : Int32} (h : WC I a l) : WC (upI (upI I (a + 1) l.length s) a 1 (nI (l.length + 1))) a (l ++ [s]) := by
  refine ⟨?_, fun i x hx => ?_⟩
  · rw [upI_eq, List.length_append]; rfl
  · rw [upI_ne _ _ (Or.inl (by omega))]
    rcases app1 hx with ⟨hi, hx⟩ | ⟨hi, hx⟩
    · rw [upI_ne _ _ (Or.inr (by omega))]; exact h.2 i x hx
    · rw [hi, upI_eq, hx]
theorem WM_push {I : MI} {w : Nat} {l : List Int32} {s : Int32} (h : WM I 100 101 w l) : WM (upI (upI I 101 (12 * w + l.length) s) 100 w (nI (l.length + 1))) 100 101 w (l ++ [s]) := by
  refine ⟨?_, fun i x hx => ?_⟩
  · rw [upI_eq, List.length_append]; rfl
  · rw [upI_ne _ _ (Or.inl (by omega))]
    rcases app1 hx with ⟨hi, hx⟩ | ⟨hi, hx⟩
    · rw [upI_ne _ _ (Or.inr (by omega))]; exact h.2 i x hx
    · rw [hi, upI_eq, hx]
theorem rep_succ (l : List Int32) (s : Int32) (k : Nat) : l ++ List.replicate (k + 1) s = (l ++ List.replicate k s) ++ [s] := by
  rw [List.replicate_succ', List.append_assoc]
theorem hasRoom_spec {I : MI} {a n k : Nat} (h : I a 1 = nI n) (hn : n ≤ 12) (hk : k < 2 ^ 31) : f_X9_hasRoom a (nI k) I = some (if n + k ≤ 12 then 1 else 0) := by
  unfold f_X9_hasRoom
  have e : (12 - I a 1 < nI k) ↔ ¬ n + k ≤ 12 := by rw [h, nl12, nI_sub hn, nI_ltI (by omega) hk]; omega
  by_cases q : n + k ≤ 12
  · rw [if_neg (fun z => e.mp z q), if_pos q]
  · rw [if_pos (e.mpr q), if_neg q]
theorem push_spec {N a k : Nat} {l : List Int32} {s : Int32} {I : MI} (hc : WC I a l) (h : l.length + k ≤ 12) (hN : k < N) : ∃ I', f_X9_push N a s (nI k) I = some I' ∧ WC I' a (l ++ List.replicate k s) ∧ fr (fc a) I I' := by
  have key := loop_inv (f := fun s' : Int32 × MI => f_X9_push_b2 N a s (nI k) s'.1 s'.2) (fun j st => st.1 = nI j ∧ WC st.2 a (l ++ List.replicate j s) ∧ fr (fc a) I st.2) (fun I' => WC I' a (l ++ List.replicate k s) ∧ fr (fc a) I I') k ?_ ?_ N 0 (nI 0, I) (Nat.zero_le k) (by omega) ⟨rfl, by simpa using hc, fr.rfl⟩
  · obtain ⟨I', e, p1, p2⟩ := key
    refine ⟨I', ?_, p1, p2⟩
    unfold f_X9_push f_X9_push_l2
    rw [nl0]
    exact bnd1_some e
  · rintro j ⟨c, J⟩ hj ⟨e1, w1, f1⟩
    simp only at e1 w1 f1
    subst e1
    have hlen : (l ++ List.replicate j s).length = l.length + j := by simp
    have hsz : J a 1 = nI (l.length + j) := by rw [w1.1, hlen]
    refine ⟨(nI (j + 1), upI (upI J (a + 1) (l.length + j) s) a 1 (nI (l.length + j + 1))), ?_, rfl, ?_, ?_⟩
    · show f_X9_push_b2 N a s (nI k) (nI j) J = _
      unfold f_X9_push_b2
      rw [if_pos ((nI_ltI (by omega) (by omega)).mpr hj), hsz, nl12, if_pos ((nI_ltI (by omega) (by omega)).mpr (by omega)), if_pos (inb_nI (by omega) (by decide)), nI_clamp (by omega)]
      simp only [letv]
      rw [upI_ne a 1 (Or.inl (by omega)), hsz, nI_1, nI_1]
    · rw [rep_succ, ← hlen]; exact WC_push w1
    · exact f1.trans ((fr.up (Or.inr rfl)).trans (fr.up (Or.inl rfl)))
  · rintro ⟨c, J⟩ ⟨e1, w1, f1⟩
    simp only at e1 w1 f1
    subst e1
    refine ⟨J, ?_, w1, f1⟩
    show f_X9_push_b2 N a s (nI k) (nI k) J = _
    unfold f_X9_push_b2
    rw [if_neg (by rw [nI_ltI (by omega) (by omega)]; omega)]
theorem w12 {w k : Nat} : (12 : Int32) * nI w + nI k = nI (12 * w + k) := by rw [nl12, nI_mul, nI_add]
theorem comes_spec {N w k : Nat} {l : List Int32} {s : Int32} {I : MI} (hw : w < 6) (hc : WM I 100 101 w l) (h : l.length + k ≤ 12) (hN : k < N) : ∃ I', f_X11_comes N (nI w) s (nI k) I = some I' ∧ WM I' 100 101 w (l ++ List.replicate k s) ∧ fr (fm w) I I' := by
  have key := loop_inv (f := fun s' : Int32 × MI => f_X11_comes_b3 N (nI w) s (nI k) s'.1 s'.2) (fun j st => st.1 = nI j ∧ WM st.2 100 101 w (l ++ List.replicate j s) ∧ fr (fm w) I st.2) (fun I' => WM I' 100 101 w (l ++ List.replicate k s) ∧ fr (fm w) I I') k ?_ ?_ N 0 (nI 0, I) (Nat.zero_le k) (by omega) ⟨rfl, by simpa using hc, fr.rfl⟩
  · obtain ⟨I', e, p1, p2⟩ := key
    refine ⟨I', ?_, p1, p2⟩
    unfold f_X11_comes f_X11_comes_l3
    rw [nl0]
    exact bnd1_some e
  · rintro j ⟨c, J⟩ hj ⟨e1, w1, f1⟩
    simp only at e1 w1 f1
    subst e1
    have hlen : (l ++ List.replicate j s).length = l.length + j := by simp
    have hsz : J 100 w = nI (l.length + j) := by rw [w1.1, hlen]
    have iw : inb (nI w) 6 = true := inb_nI hw (by decide)
    refine ⟨(nI (j + 1), upI (upI J 101 (12 * w + (l.length + j)) s) 100 w (nI (l.length + j + 1))), ?_, rfl, ?_, ?_⟩
    · show f_X11_comes_b3 N (nI w) s (nI k) (nI j) J = _
      unfold f_X11_comes_b3
      rw [if_pos ((nI_ltI (by omega) (by omega)).mpr hj), if_pos iw, nI_clamp (show w < 2 ^ 31 by omega), hsz, w12, if_pos (inb_nI (by omega) (by decide)), nI_clamp (by omega)]
      simp only [letv]
      rw [if_pos iw, if_pos iw, upI_ne 100 w (Or.inl (by decide)), hsz, nI_1, nI_1]
    · rw [rep_succ, ← hlen]; exact WM_push w1
    · exact f1.trans ((fr.up (Or.inr ⟨rfl, by omega, by omega⟩)).trans (fr.up (Or.inl ⟨rfl, rfl⟩)))
  · rintro ⟨c, J⟩ ⟨e1, w1, f1⟩
    simp only at e1 w1 f1
    subst e1
    refine ⟨J, ?_, w1, f1⟩
    show f_X11_comes_b3 N (nI w) s (nI k) (nI k) J = _
    unfold f_X11_comes_b3
    rw [if_neg (by rw [nI_ltI (by omega) (by omega)]; omega)]
theorem WC_fr {S : Nat → Nat → Prop} {I I' : MI} {a : Nat} {l : List Int32} (h : fr S I I') (h1 : ∀ j, ¬ S a j) (h2 : ∀ j, ¬ S (a + 1) j) (p : WC I a l) : WC I' a l := ⟨(h _ _ (h1 _)).trans p.1, fun i x hx => (h _ _ (h2 _)).trans (p.2 i x hx)⟩
theorem WM_fr {S : Nat → Nat → Prop} {I I' : MI} {mm mw w : Nat} {l : List Int32} (h : fr S I I') (h1 : ∀ j, ¬ S mm j) (h2 : ∀ j, ¬ S mw j) (p : WM I mm mw w l) : WM I' mm mw w l := ⟨(h _ _ (h1 _)).trans p.1, fun i x hx => (h _ _ (h2 _)).trans (p.2 i x hx)⟩
theorem sW_c {w : Nat} : ∀ b j, fc (10 + 4 * w) b j → sW w b j := fun b j h => by unfold fc at h; unfold sW; omega
theorem sW_m {w : Nat} : ∀ b j, fm w b j → sW w b j := fun b j h => by unfold fm at h; unfold sW; omega
theorem bits_app {l m : List Int32} (h : bits l) (h' : bits m) : bits (l ++ m) := fun x hx => (List.mem_append.mp hx).elim (h x) (h' x)
theorem bits_rep {k : Nat} {s : Int32} (h : s = 0 ∨ s = 1) : bits (List.replicate k s) := fun x hx => by rw [(List.mem_replicate.mp hx).2]; exact h
section WS
variable {PL : MX → MI → ML → Prop} {PA : MI → Prop} {N : Nat}
theorem s_letter (hPL : frPL PL) (hPA : frPA PA) (hN : 20 ≤ N) : S_letter N (Inv0 PL PA) := by
  intro X I L x1 x2 hI
  rcases six_cases x1 with ⟨w, hw, rfl, e1, e2⟩ | ⟨e1, e2⟩
  · obtain ⟨l, hl, hb, hc, hm⟩ := hI.w hw
    have iw : inb (nI w) 6 = true := inb_nI hw (by decide)
    have cw : Int32.toNatClampNeg (nI w) = w := nI_clamp (by omega)
    by_cases hs : x2 = 0 ∨ x2 = 1
    · have hj : f_X10_letter N (nI w) x2 I = f_X10_letter_j21 N (nI w) x2 I := by
        unfold f_X10_letter
        rw [bnd1_some e1, if_neg (by decide)]
        rcases hs with rfl | rfl
        · rw [if_pos rfl]
        · rw [if_neg (by decide), if_pos rfl]
      have hin : f_X11_in (Int32.toInt64 x2) 0 1 = some 1 := by rcases hs with rfl | rfl <;> decide
      by_cases hroom : l.length + 1 ≤ 12
      · obtain ⟨I1, p1, p2, p3⟩ := push_spec (N := N) (k := 1) (s := x2) hc hroom (by omega)
        have hm1 : WM I1 100 101 w l := WM_fr p3 (fun j h => by unfold fc at h; omega) (fun j h => by unfold fc at h; omega) hm
        have q2 := WM_push (s := x2) hm1
        refine ⟨nI (l.length + 1), I1, _, ?_, ?_, inv_word hPL hPA hI hw (((p3.mono sW_c).trans ((fr.up (S := sW w) (a := 101) (k := 12 * w + l.length) (v := x2) (by unfold sW; omega)).trans (fr.up (S := sW w) (a := 100) (k := w) (v := nI (l.length + 1)) (by unfold sW; omega)))))
          ⟨l ++ [x2], by simp; omega, bits_app hb (by intro x hx; simp at hx; rw [hx]; exact hs), ?_, q2⟩⟩
        · rw [hj]
          unfold f_X10_letter_j21
          rw [if_pos iw, cw, nl1, hasRoom_spec hc.1 hl (by decide), if_pos hroom]
          rw [bnd1_some rfl, if_neg (by decide), bnd1_some p1, p2.1]
          simp
        · unfold f_X11_letter
          rw [bnd1_some e2, if_neg (by decide), bnd1_some hin, if_neg (by decide), if_pos iw, cw, hm1.1, nl12, if_neg (by rw [nI_eq (by omega) (by omega)]; omega), if_pos iw]
          rw [← nl12, w12, if_pos (inb_nI (by omega) (by decide)), nI_clamp (by omega)]
          simp only [letv]
          have e3 : upI I1 101 (12 * w + l.length) x2 100 w = I1 100 w := upI_ne 100 w (Or.inl (by decide))
          rw [if_pos iw, if_pos iw, e3, hm1.1, nI_1, if_pos iw, upI_eq]
        · exact WC_fr (S := fun b _ => b = 100 ∨ b = 101) ((fr.up (Or.inr rfl)).trans (fr.up (Or.inl rfl))) (fun j h => by omega) (fun j h => by omega) p2
      · refine ⟨-4, I, I, ?_, ?_, hI⟩
        · rw [hj]
          unfold f_X10_letter_j21
          rw [if_pos iw, cw, nl1, hasRoom_spec hc.1 hl (by decide), if_neg hroom, bnd1_some rfl, if_pos rfl]
        · unfold f_X11_letter
          rw [bnd1_some e2, if_neg (by decide), bnd1_some hin, if_neg (by decide), if_pos iw, cw, hm.1, nl12, if_pos (by rw [nI_eq (by omega) (by omega)]; omega)]
    · refine ⟨-2, I, I, ?_, ?_, hI⟩
      · unfold f_X10_letter
        rw [bnd1_some e1, if_neg (by decide), if_neg (fun h => hs (Or.inl h)), if_neg (fun h => hs (Or.inr h))]
      · unfold f_X11_letter
        have hin : f_X11_in (Int32.toInt64 x2) 0 1 = some 0 := in_no (a := 0) (b := 1) (by decide) (by decide) (by
          have n0 : x2.toInt ≠ 0 := fun h => hs (Or.inl (Int32.toInt_inj.mp h))
          have n1 : x2.toInt ≠ 1 := fun h => hs (Or.inr (Int32.toInt_inj.mp h))
          omega)
        rw [bnd1_some e2, if_neg (by decide), bnd1_some hin, if_pos rfl]
  · refine ⟨-1, I, I, ?_, ?_, hI⟩
    · unfold f_X10_letter; rw [bnd1_some e1, if_pos rfl]
    · unfold f_X11_letter; rw [bnd1_some e2, if_pos rfl]
theorem s_empty (hPL : frPL PL) (hPA : frPA PA) : S_empty N (Inv0 PL PA) := by
  intro X I L x1 hI
  rcases six_cases x1 with ⟨w, hw, rfl, e1, e2⟩ | ⟨e1, e2⟩
  · obtain ⟨l, hl, hb, hc, hm⟩ := hI.w hw
    have iw : inb (nI w) 6 = true := inb_nI hw (by decide)
    have cw : Int32.toNatClampNeg (nI w) = w := nI_clamp (by omega)
    refine ⟨nI l.length, upI I (10 + 4 * w) 1 0, upI (upI I (10 + 4 * w) 1 0) 100 w 0, ?_, ?_, inv_word hPL hPA hI hw ((fr.up (by unfold sW; omega)).trans (fr.up (by unfold sW; omega))) ⟨[], by simp, by intro x hx; simp at hx, ⟨?_, by intro i x hx; simp at hx⟩, ⟨?_, by intro i x hx; simp at hx⟩⟩⟩
    · unfold f_X10_empty
      rw [bnd1_some e1, if_neg (by decide), if_pos iw, cw, hc.1]
      rfl
    · unfold f_X11_empty
      rw [bnd1_some e2, if_neg (by decide), if_pos iw, if_pos iw, cw, upI_ne 100 w (Or.inl (by omega)), hm.1]
      rfl
    · rw [upI_ne _ _ (Or.inl (by omega)), upI_eq]; exact nl0
    · rw [upI_eq]; exact nl0
  · refine ⟨-1, I, I, ?_, ?_, hI⟩
    · unfold f_X10_empty; rw [bnd1_some e1, if_pos rfl]
    · unfold f_X11_empty; rw [bnd1_some e2, if_pos rfl]
end WS
