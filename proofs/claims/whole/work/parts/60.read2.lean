/-! ===== read ===== -/
section RD3
variable {N n : Nat} {c : Nat → Nat} {I M : MI}
def Rs (I M : MI) (r q : (Int32 × MI) ⊕ (Int32 × MI)) : Prop := (∃ t J K, r = .inl (nI t, J) ∧ q = .inl (nI t, K) ∧ t ≤ 12 ∧ LR J K t ∧ fr fT1 I J ∧ fr fT2 M K) ∨ (∃ J K, r = .inr (-4, J) ∧ q = .inr (-4, K) ∧ fr fT1 I J ∧ fr fT2 M K)
theorem spell_loop {f0 : Bool} (hI : TX I n c) (hM : TM M n c) (hn : n ≤ 80) (hx : ∀ i, i < n → c i ≤ 127) (hF : frun c n = some (0, true, f0)) (hN : 1000 ≤ N) : ∀ (m p top o : Nat) (sts : Nat → Nat) (J K : MI) (v3 : Int32) (A B : Nat), n - p ≤ m → m < A → 2 * m < B → Sp c n I M p top o sts J K → ∃ r q, loopN (fun s : Int32 × Int32 × Int32 × MI => f_X8_spell_b13 N s.1 s.2.1 s.2.2.1 s.2.2.2) A (nI top, nI o, nI p, J) = some r ∧ loopN (fun s : Int32 × Int32 × Int32 × Int32 × MI => f_X11_textLetters_b16 N s.1 s.2.1 s.2.2.1 s.2.2.2.1 s.2.2.2.2) B (nI top, nI o, v3, nI p, K) = some q ∧ Rs I M r q := by
  intro m
  induction m with
  | zero =>
    intro p top o sts J K v3 A B hm hA hB h
    obtain ⟨⟨a, f, hf⟩, hp, nf, ho, hL, hS, hk, h1, h2, f1, f2⟩ := h
    have : p = n := by omega
    subst this
    rw [hF] at hf
    have o0 : o = 0 := (congrArg Prod.fst (Option.some.inj hf)).symm
    subst o0
    have hTX : TX J p c := TX_fr hI f1
    have hTM : TM K p c := TM_fr hM f2
    have z0 := hk.1
    obtain ⟨A', rfl⟩ : ∃ A', A = A' + 1 := ⟨A - 1, by omega⟩
    obtain ⟨B', rfl⟩ : ∃ B', B = B' + 1 := ⟨B - 1, by omega⟩
    refine ⟨.inl (nI top, J), .inl (nI top, K), loopN_inr ?_, loopN_inr ?_, Or.inl ⟨top, J, K, rfl, rfl, by omega, hL, f1, f2⟩⟩
    · show f_X8_spell_b13 N (nI top) (nI 0) (nI p) J = _
      unfold f_X8_spell_b13
      rw [hTX.1, if_neg (nI_le0 (by omega) (Nat.le_refl _))]
    · show f_X11_textLetters_b16 N (nI top) (nI 0) v3 (nI p) K = _
      unfold f_X11_textLetters_b16
      rw [hTM.1, if_neg (nI_le0 (by omega) (Nat.le_refl _))]
  | succ m ih =>
    intro p top o sts J K v3 A B hm hA hB h
    by_cases hpn : n - p ≤ m
    · exact ih p top o sts J K v3 A B hpn (by omega) (by omega) h
    obtain ⟨⟨a, f, hf⟩, _, nf, ho, hL, hS, hk, h1, h2, f1, f2⟩ := h
    have hp : p < n := by omega
    have hTX : TX J n c := TX_fr hI f1
    have hTM : TM K n c := TM_fr hM f2
    have hxp := hx p hp
    have s12 := hk.2.2 o (Nat.le_refl _)
    obtain ⟨A', rfl⟩ : ∃ A', A = A' + 1 := ⟨A - 1, by omega⟩
    obtain ⟨B', rfl⟩ : ∃ B', B = B' + 1 + 1 := ⟨B - 2, by omega⟩
    obtain ⟨s', g1, g2⟩ := frun_step hF hp hf
    have bC : f_X8_spell_b13 N (nI top) (nI o) (nI p) J = (if nI (c p) = 40 then letv (if 4 < nI o + 1 then 4 else nI o + 1) fun x6 => if inb x6 5 then letv (upI J 75 (Int32.toNatClampNeg x6) (nI top)) fun I8 => some (.inl (nI top, x6, nI p + 1, I8)) else none else (if nI (c p) = 41 then if inb (nI o) 5 then letv (if nI o - 1 < 0 then 0 else nI o - 1) fun x12 => f_X8_spell_b13_j108 N (nI top) x12 (nI p) (J 75 (Int32.toNatClampNeg (nI o))) J else none else (if nI (c p) = 85 then f_X8_spell_b13_j104 N (nI top) (nI o) (nI p) (nI top) 0 (nI top) J else f_X8_spell_b13_j104 N (nI top) (nI o) (nI p) (nI top) 1 (nI top) J))) := by
      unfold f_X8_spell_b13
      have ip : inb (nI p) 80 = true := inb_nI (by omega) (by decide)
      rw [hTX.1, if_pos ((nI_ltI (by omega) (by omega)).mpr hp), if_pos ip, if_pos ip, if_pos ip, nI_clamp (n := p) (by omega), hTX.2 p hp]
    have bM : f_X11_textLetters_b16 N (nI top) (nI o) v3 (nI p) K = (if nI (c p) = 40 then if inb (nI o + 1) 5 then letv (upI K 136 (Int32.toNatClampNeg (nI o + 1)) (nI top)) fun I7 => f_X11_textLetters_b16_j188 N (nI top) (nI o + 1) v3 (nI p) (nI (c p)) I7 else none else (if nI (c p) = 41 then if inb (nI o) 5 then f_X11_textLetters_b16_j188 N (nI top) (nI o + (-1)) (K 136 (Int32.toNatClampNeg (nI o))) (nI p) (nI (c p)) K else none else (if nI (c p) = 85 then f_X11_textLetters_b16_j88 N (nI top) (nI o) (nI p) (nI (c p)) K else (if nI (c p) = 68 then f_X11_textLetters_b16_j88 N (nI top) (nI o) (nI p) (nI (c p)) K else letv (nI (c p) - 48) fun x24 => (if 12 < ((nI top - v3) * x24) then some (.inr (.inr ((-4), K))) else bnd1 (f_X11_textLetters_l143 N (nI o) v3 (nI p) (nI (c p)) (nI top - v3) x24 (nI top - v3) K) fun I30 => f_X11_textLetters_b16_j188 N (v3 + ((nI top - v3) * x24)) (nI o) v3 (nI p) (nI (c p)) I30))))) := by
      unfold f_X11_textLetters_b16
      rw [hTM.1, if_pos ((nI_ltI (by omega) (by omega)).mpr hp), if_pos (inb_nI (by omega) (by decide)), nI_clamp (by omega), hTM.2 p hp]
    have goItem : ∀ (J1 K1 : MI) (top1 o1 from' : Nat) (a1 : Bool), f_X8_spell_b13 N (nI top) (nI o) (nI p) J = f_X8_spell_b13_j108 N (nI top1) (nI o1) (nI p) (nI from') J1 → f_X11_textLetters_b16 N (nI top) (nI o) v3 (nI p) K = f_X11_textLetters_b16_j188 N (nI top1) (nI o1) (nI from') (nI p) (nI (c p)) K1 → frun c (p + 1) = some (o1, a1, true) → ¬ c p = 40 → o1 ≤ 4 → LR J1 K1 top1 → SR J1 K1 sts o1 → okS sts o1 → sts o1 ≤ from' → from' ≤ top1 → from' ≤ 60 → top1 ≤ from' + 12 → fr fT1 I J1 → fr fT2 M K1 → ∃ r q, loopN (fun s : Int32 × Int32 × Int32 × MI => f_X8_spell_b13 N s.1 s.2.1 s.2.2.1 s.2.2.2) (A' + 1) (nI top, nI o, nI p, J) = some r ∧ loopN (fun s : Int32 × Int32 × Int32 × Int32 × MI => f_X11_textLetters_b16 N s.1 s.2.1 s.2.2.1 s.2.2.2.1 s.2.2.2.2) (B' + 1 + 1) (nI top, nI o, v3, nI p, K) = some q ∧ Rs I M r q := by
      intro J1 K1 top1 o1 from' a1 e1 e2 hf1 h40 ho1 hL1 hS1 hk1 b1 b2 b3 b4 f11 f21
      rcases afterItem (N := N) (v5 := nI (c p)) hI hM hn hx hF hp hf1 (by rw [nl40, nI_eq (by omega) (by omega)]; exact h40) ho1 hL1 hS1 hk1 b1 b2 b3 b4 f11 f21 hN with ⟨J', K', x1, x2, x3, x4⟩ | ⟨J', K', x0, x1, x2, x3, x4, x5⟩ | ⟨e, v3', J', K', x1, x2, x3⟩ | ⟨e, v3', J', K', x0, x1, x2, x3, x4⟩
      · exact ⟨_, _, loopN_inr (e1.trans x1), loopN_inr (e2.trans x2), Or.inr ⟨J', K', rfl, rfl, x3, x4⟩⟩
      · refine ⟨_, _, loopN_inr (e1.trans x1), ?_, Or.inr ⟨J', K', rfl, rfl, x4, x5⟩⟩
        rw [loopN_inl (e2.trans x2)]
        exact loopN_inr x3
      · rw [loopN_inl (e1.trans x1), loopN_inl (e2.trans x2)]
        exact ih (p + 1) e o1 sts J' K' v3' A' (B' + 1) (by omega) (by omega) (by omega) x3
      · rw [loopN_inl (e1.trans x1), loopN_inl (e2.trans x2), loopN_inl (show (fun s : Int32 × Int32 × Int32 × Int32 × MI => f_X11_textLetters_b16 N s.1 s.2.1 s.2.2.1 s.2.2.2.1 s.2.2.2.2) (nI top1, nI o1, nI from', nI (p + 1), K1) = _ from x3)]
        by_cases w : m = 0
        · omega
        · exact ih (p + 1 + 1) e o1 sts J' K' v3' A' B' (by omega) (by omega) (by omega) x4
    unfold fst1 at g1
    simp only at g1
    by_cases q1 : c p = 85 ∨ c p = 68
    · rw [if_pos q1] at g1
      have e' := Option.some.inj g1
      subst e'
      have n40 : ¬ nI (c p) = (40 : Int32) := by rw [nl40, nI_eq (by omega) (by omega)]; omega
      have n41 : ¬ nI (c p) = (41 : Int32) := by rw [nl41, nI_eq (by omega) (by omega)]; omega
      have itm : ∀ v : Int32, (v = 0 ∨ v = 1) → LR (upI J 74 top v) (upI K 135 top v) (top + 1) := fun v hv i hi => by
        rw [upI_at, upI_at]
        by_cases z : i = top
        · rw [if_pos z, if_pos z]; exact ⟨rfl, hv⟩
        · rw [if_neg z, if_neg z]; exact hL i (by omega)
      have srs : ∀ v : Int32, SR (upI J 74 top v) (upI K 135 top v) sts o := fun v k hk' => ⟨by rw [upI_ne _ _ (by omega)]; exact (hS k hk').1, by rw [upI_ne _ _ (by omega)]; exact (hS k hk').2⟩
      rcases q1 with q1 | q1
      · refine goItem (upI J 74 top 0) (upI K 135 top 0) (top + 1) o top true ?_ ?_ g2 (by omega) ho (itm 0 (Or.inl rfl)) (srs 0) hk h1 (by omega) (by omega) (by omega) (f1.trans (fr.up (Or.inl rfl))) (f2.trans (fr.up (Or.inl rfl)))
        · rw [bC, if_neg n40, if_neg n41, if_pos (by rw [q1]; exact nl85.symm)]
          unfold f_X8_spell_b13_j104
          rw [if_pos (inb_nI (by omega) (by decide)), nI_clamp (by omega), nI_1]
          rfl
        · rw [bM, if_neg n40, if_neg n41, if_pos (by rw [q1]; exact nl85.symm)]
          unfold f_X11_textLetters_b16_j88 f_X11_textLetters_b16_j107
          rw [if_pos (by rw [q1]; exact nl85.symm), if_pos (inb_nI (by omega) (by decide)), nI_clamp (by omega), nI_1]
          rfl
      · have n85 : ¬ nI (c p) = (85 : Int32) := by rw [nl85, nI_eq (by omega) (by omega)]; omega
        refine goItem (upI J 74 top 1) (upI K 135 top 1) (top + 1) o top true ?_ ?_ g2 (by omega) ho (itm 1 (Or.inr rfl)) (srs 1) hk h1 (by omega) (by omega) (by omega) (f1.trans (fr.up (Or.inl rfl))) (f2.trans (fr.up (Or.inl rfl)))
        · rw [bC, if_neg n40, if_neg n41, if_neg n85]
          unfold f_X8_spell_b13_j104
          rw [if_pos (inb_nI (by omega) (by decide)), nI_clamp (by omega), nI_1]
          rfl
        · rw [bM, if_neg n40, if_neg n41, if_neg n85, if_pos (by rw [q1]; exact nl68.symm)]
          unfold f_X11_textLetters_b16_j88 f_X11_textLetters_b16_j107
          rw [if_neg n85, if_pos (inb_nI (by omega) (by decide)), nI_clamp (by omega), nI_1]
          rfl
    · rw [if_neg q1] at g1
      by_cases q2 : c p = 40 ∧ o < 4
      · rw [if_pos q2] at g1
        have e' := Option.some.inj g1
        subst e'
        have e40 : nI (c p) = (40 : Int32) := by rw [q2.1]; exact nl40.symm
        have nf' := figs hF g2
        let sts' : Nat → Nat := fun k => if k = o + 1 then top else sts k
        have s1 : sts' (o + 1) = top := if_pos rfl
        have s2 : ∀ k, k ≤ o → sts' k = sts k := fun k hk' => if_neg (by omega)
        have x1 : f_X8_spell_b13 N (nI top) (nI o) (nI p) J = some (.inl (nI top, nI (o + 1), nI (p + 1), upI J 75 (o + 1) (nI top))) := by
          rw [bC, if_pos e40, nI_1, nI_1, if_neg (by rw [nl4]; exact nI_le0 (by omega) (by omega))]
          simp only [letv]
          rw [if_pos (inb_nI (by omega) (by decide)), nI_clamp (by omega)]
        have x2 : f_X11_textLetters_b16 N (nI top) (nI o) v3 (nI p) K = some (.inl (nI top, nI (o + 1), v3, nI (p + 1), upI K 136 (o + 1) (nI top))) := by
          rw [bM, if_pos e40, nI_1, if_pos (inb_nI (by omega) (by decide)), nI_clamp (by omega)]
          simp only [letv]
          rw [j188M (TM_fr hM (f2.trans (fr.up (Or.inr rfl)))) hn hx hp]
          unfold f_X11_textLetters_b16_j226
          rw [if_pos e40, nI_1]
        rw [loopN_inl (show (fun s : Int32 × Int32 × Int32 × MI => f_X8_spell_b13 N s.1 s.2.1 s.2.2.1 s.2.2.2) (nI top, nI o, nI p, J) = _ from x1), loopN_inl (show (fun s : Int32 × Int32 × Int32 × Int32 × MI => f_X11_textLetters_b16 N s.1 s.2.1 s.2.2.1 s.2.2.2.1 s.2.2.2.2) (nI top, nI o, v3, nI p, K) = _ from x2)]
        refine ih (p + 1) top (o + 1) sts' _ _ v3 A' (B' + 1) (by omega) (by omega) (by omega) ⟨⟨false, false, g2⟩, by omega, nf', by omega, fun i hi => ?_, fun k hk' => ?_, ⟨?_, fun k hk' => ?_, fun k hk' => ?_⟩, by rw [s1]; exact Nat.le_refl _, by rw [s1]; omega, f1.trans (fr.up (Or.inr rfl)), f2.trans (fr.up (Or.inr rfl))⟩
        · rw [upI_ne 74 _ (by omega), upI_ne 135 _ (by omega)]; exact hL i hi
        · rw [upI_at, upI_at]
          by_cases z : k = o + 1
          · rw [if_pos z, if_pos z, z, s1]; exact ⟨rfl, rfl⟩
          · rw [if_neg z, if_neg z, s2 k (by omega)]; exact hS k (by omega)
        · rw [s2 0 (by omega)]; exact hk.1
        · by_cases z : k = o
          · rw [z, s1, s2 o (by omega)]; exact h1
          · rw [s2 k (by omega), s2 (k + 1) (by omega)]; exact hk.2.1 k (by omega)
        · by_cases z : k = o + 1
          · rw [z, s1]; omega
          · rw [s2 k (by omega)]; exact hk.2.2 k (by omega)
      · rw [if_neg q2] at g1
        by_cases q3 : c p = 41 ∧ 0 < o ∧ a = true
        · rw [if_pos q3] at g1
          have e' := Option.some.inj g1
          subst e'
          have n40 : ¬ nI (c p) = (40 : Int32) := by rw [nl40, nI_eq (by omega) (by omega)]; omega
          have e41 : nI (c p) = (41 : Int32) := by rw [q3.1]; exact nl41.symm
          have so := hS o (Nat.le_refl _)
          have mo := hk.2.1 (o - 1) (by omega)
          rw [show o - 1 + 1 = o by omega] at mo
          refine goItem J K top (o - 1) (sts o) a ?_ ?_ g2 (by omega) (by omega) hL (fun k hk' => hS k (by omega)) ⟨hk.1, fun k hk' => hk.2.1 k (by omega), fun k hk' => hk.2.2 k (by omega)⟩ mo h1 (by omega) h2 f1 f2
          · rw [bC, if_neg n40, if_pos e41, if_pos (inb_nI (by omega) (by decide)), dn2 (by omega), if_neg (nI_pos (by omega)), nI_clamp (by omega), so.1]
            rfl
          · rw [bM, if_neg n40, if_pos e41, if_pos (inb_nI (by omega) (by decide)), dn3 (by omega), nI_clamp (by omega), so.2]
        · rw [if_neg q3] at g1
          by_cases q4 : (48 ≤ c p ∧ c p ≤ 57) ∧ f = true
          · exact absurd ⟨hp, q4.1⟩ nf
          · rw [if_neg q4] at g1
            exact absurd g1 (by simp)
theorem spell_both {f0 : Bool} (hI : TX I n c) (hM : TM M n c) (hn : n ≤ 80) (hx : ∀ i, i < n → c i ≤ 127) (hF : frun c n = some (0, true, f0)) (hN : 1000 ≤ N) : (∃ t J K, f_X8_spell N I = some (nI t, J) ∧ f_X11_textLetters N M = some (nI t, K) ∧ t ≤ 12 ∧ LR J K t ∧ fr fT1 I J ∧ fr fT2 M K) ∨ (∃ J K, f_X8_spell N I = some (-4, J) ∧ f_X11_textLetters N M = some (-4, K) ∧ fr fT1 I J ∧ fr fT2 M K) := by
  have z0 : Int32.toNatClampNeg 0 = 0 := by decide
  obtain ⟨r, q, h1, h2, h3⟩ := spell_loop (N := N) hI hM hn hx hF hN n 0 0 0 (fun _ => 0) (upI I 75 0 0) (upI M 136 0 0) 0 N N (by omega) (by omega) (by omega) ⟨⟨false, false, rfl⟩, Nat.zero_le _, figs hF rfl, by omega, fun i hi => absurd hi (by omega), fun k hk => by rw [show k = 0 by omega, upI_eq, upI_eq]; exact ⟨nl0, nl0⟩, ⟨rfl, fun k hk => absurd hk (by omega), fun k hk => Nat.zero_le _⟩, Nat.le_refl _, by omega, fr.up (Or.inr rfl), fr.up (Or.inr rfl)⟩
  rw [← nl0] at h1 h2
  have i5 : inb 0 5 = true := by decide
  unfold f_X8_spell f_X11_textLetters f_X8_spell_l13 f_X11_textLetters_l16
  rw [if_pos i5, if_pos i5, z0]
  simp only [letv]
  rw [h1, h2]
  rcases h3 with ⟨t, J, K, rfl, rfl, x1, x2, x3, x4⟩ | ⟨J, K, rfl, rfl, x1, x2⟩
  · exact Or.inl ⟨t, J, K, rfl, rfl, x1, x2, x3, x4⟩
  · exact Or.inr ⟨J, K, rfl, rfl, x1, x2⟩
/-- the letters spelt become a WORD -/
theorem becC {a t : Nat} {l : List Int32} {J : MI} (ht : l.length = t) (h12 : t ≤ 12) (ha : a + 1 < 74) (hl : ∀ i x, l[i]? = some x → J 74 i = x) (hN : 20 ≤ N) : ∃ J', f_X9_becomeLetters N a 74 72 (nI t) J = some J' ∧ WC J' a l ∧ fr (fc a) J J' := by
  subst ht
  have hc0 : WC (upI J a 1 0) a [] := ⟨by rw [upI_eq]; exact nl0, by intro i x hx; simp at hx⟩
  have key := loop_inv (f := fun s : Int32 × MI => f_X9_becomeLetters_b7 N a 74 72 (nI l.length) s.1 s.2) (fun j st => st.1 = nI j ∧ WC st.2 a (l.take j) ∧ fr (fc a) J st.2) (fun J' => WC J' a l ∧ fr (fc a) J J') l.length ?_ ?_ N 0 (0, upI J a 1 0) (Nat.zero_le _) (by omega) ⟨nl0, by simpa using hc0, fr.up (Or.inl rfl)⟩
  · obtain ⟨J', e, p1, p2⟩ := key
    refine ⟨J', ?_, p1, p2⟩
    unfold f_X9_becomeLetters f_X9_becomeLetters_l7
    simp only [letv]
    exact bnd1_some e
  · rintro j ⟨b, J1⟩ hj ⟨e1, w1, f1⟩
    simp only at e1 w1 f1
    subst e1
    obtain ⟨x, hx⟩ := get_some hj
    obtain ⟨J2, g1, g2, g3⟩ := push1_spec (N := N) (s := x) w1 (by simp; omega) (by omega)
    refine ⟨(nI (j + 1), J2), ?_, rfl, ?_, f1.trans g3⟩
    · show f_X9_becomeLetters_b7 N a 74 72 (nI l.length) (nI j) J1 = _
      unfold f_X9_becomeLetters_b7
      have e5 : J1 74 j = x := (f1 _ _ (by unfold fc; omega)).trans (hl j x hx)
      rw [if_pos ((nI_ltI (by omega) (by omega)).mpr hj), show Int32.ofNat 72 = nI 72 from rfl, if_pos ((nI_ltI (by omega) (by omega)).mpr (by omega)), if_pos (inb_nI (by omega) (by decide)), nI_clamp (by omega), e5, bnd1_some g1, nI_1]
    · show WC J2 a (l.take (j + 1))
      rw [take_one hx]; exact g2
  · rintro ⟨b, J1⟩ ⟨e1, w1, f1⟩
    simp only at e1 w1 f1
    subst e1
    refine ⟨J1, ?_, by simpa using w1, f1⟩
    show f_X9_becomeLetters_b7 N a 74 72 (nI l.length) (nI l.length) J1 = _
    unfold f_X9_becomeLetters_b7
    rw [if_neg (nI_le0 (by omega) (Nat.le_refl _))]
theorem becM {w t : Nat} {K : MI} (hw : w < 6) (h12 : t ≤ 12) (hN : 20 ≤ N) : ∃ K', f_X11_read_l53 N (nI w) (nI t) 0 K = some K' ∧ (∀ i, i < t → K' 101 (12 * w + i) = K 135 i) ∧ fr (fun b j => b = 101 ∧ 12 * w ≤ j ∧ j < 12 * w + 12) K K' := by
  refine loop_inv (f := fun s : Int32 × MI => f_X11_read_b53 N (nI w) (nI t) s.1 s.2) (fun j st => st.1 = nI j ∧ (∀ i, i < j → st.2 101 (12 * w + i) = K 135 i) ∧ fr (fun b j => b = 101 ∧ 12 * w ≤ j ∧ j < 12 * w + 12) K st.2) _ t ?_ ?_ N 0 (0, K) (Nat.zero_le _) (by omega) ⟨nl0, fun i hi => absurd hi (by omega), fr.rfl⟩
  · rintro j ⟨b, K1⟩ hj ⟨e1, w1, f1⟩
    simp only at e1 w1 f1
    subst e1
    refine ⟨(nI (j + 1), upI K1 101 (12 * w + j) (K 135 j)), ?_, rfl, fun i hi => ?_, f1.trans (fr.up ⟨rfl, by omega, by omega⟩)⟩
    · show f_X11_read_b53 N (nI w) (nI t) (nI j) K1 = _
      unfold f_X11_read_b53
      rw [if_pos ((nI_ltI (by omega) (by omega)).mpr hj), if_pos (inb_nI (by omega) (by decide)), w12, if_pos (inb_nI (by omega) (by decide)), nI_clamp (by omega), nI_clamp (by omega), f1 135 j (by omega), nI_1]
      rfl
    · show upI K1 101 (12 * w + j) (K 135 j) 101 (12 * w + i) = _
      rw [upI_at]
      by_cases z : i = j
      · rw [if_pos (by omega), z]
      · rw [if_neg (by omega)]; exact w1 i (by omega)
  · rintro ⟨b, K1⟩ ⟨e1, w1, f1⟩
    simp only at e1 w1 f1
    subst e1
    refine ⟨K1, ?_, w1, f1⟩
    show f_X11_read_b53 N (nI w) (nI t) (nI t) K1 = _
    unfold f_X11_read_b53
    rw [if_neg (nI_le0 (by omega) (Nat.le_refl _))]
end RD3
theorem neg81 : ∀ k, k < 81 → (-100 : Int32) - nI k < 0 := by decide +kernel
theorem j36neg {N : Nat} {v1 s0 : Int32} {I : MI} (h : s0 < 0) : f_X10_read_j36 N v1 s0 I = some (s0, upI I 72 1 0) := by
  unfold f_X10_read_j36
  simp only [letv]
  rw [if_pos h]
theorem j26no {N : Nat} {v1 v2 s0 : Int32} {I : MI} (h : ¬ v2 < 0) : f_X11_read_j26 N v1 v2 s0 I = some (-100 - v2, upI I 99 13 0) := by
  unfold f_X11_read_j26
  simp only [letv]
  rw [if_neg h]
section RD4
variable {PL : MX → MI → ML → Prop} {PA : MI → Prop} {N : Nat}
theorem s_read (hPL : frPL PL) (hPA : frPA PA) (hN : 1000 ≤ N) : S_read N (Inv0 PL PA) := by
  intro X I L x1 hI
  rcases (six_cases x1).symm with ⟨e1, e2⟩ | ⟨w, hw, rfl, e1, e2⟩
  · refine ⟨-1, I, I, ?_, ?_, hI⟩
    · unfold f_X10_read; rw [bnd1_some e1, if_pos rfl]
    · unfold f_X11_read; rw [bnd1_some e2, if_pos rfl]
  have iw : inb (nI w) 6 = true := inb_nI hw (by decide)
  have cw : Int32.toNatClampNeg (nI w) = w := nI_clamp (by omega)
  obtain ⟨n, hn, q1, q2, q3⟩ := hI.x
  let c : Nat → Nat := fun i => Int32.toNatClampNeg (I 73 i)
  have hcx : ∀ i, i < n → c i ≤ 127 ∧ I 73 i = nI (c i) ∧ I 111 i = nI (c i) := fun i hi => by
    obtain ⟨x, x1, x2, x3⟩ := q3 i hi
    have : c i = x := by show Int32.toNatClampNeg (I 73 i) = x; rw [x2, nI_clamp (by omega)]
    rw [this]; exact ⟨x1, x2, x3⟩
  have hx : ∀ i, i < n → c i ≤ 127 := fun i hi => (hcx i hi).1
  have hTX : TX I n c := ⟨q1, fun i hi => (hcx i hi).2.1⟩
  have hTM : ∀ K : MI, (∀ b j, b = 99 ∨ b = 111 → K b j = I b j) → TM K n c := fun K hK => ⟨by rw [hK _ _ (Or.inl rfl)]; exact q2, fun i hi => by rw [hK _ _ (Or.inr rfl)]; exact (hcx i hi).2.2⟩
  obtain ⟨r, a1, _, ar⟩ := fault_both (N := N) hTX (hTM I (fun _ _ _ => rfl)) hn hx hN
  have fM : ∀ K : MI, (∀ b j, b = 99 ∨ b = 111 → K b j = I b j) → f_X11_faultAt N K = some r := fun K hK => by
    obtain ⟨r', b1, b2, _⟩ := fault_both (N := N) hTX (hTM K hK) hn hx hN
    rw [a1] at b1
    rw [b2]; exact b1.symm
  -- the text is empty on both sides
  have inv0 : ∀ J, fr (fun b j => scr b j ∨ (b = 72 ∧ j = 1) ∨ (b = 99 ∧ j = 13)) I J → J 72 1 = 0 → J 99 13 = 0 → Inv0 PL PA X J L := fun J hJ z1 z2 => by
    obtain ⟨M, m1, m2⟩ := hJ.split
    exact inv_text hPL hPA (inv_scr hPL hPA hI m1 frL.rfl) (m2.mono (fun b j h => by unfold sX; omega)) ⟨0, by omega, by rw [z1]; exact nl0, by rw [z2]; exact nl0, fun i hi => absurd hi (by omega)⟩
  rcases ar with ⟨rfl, f0, hF⟩ | ⟨k, hk, rfl⟩
  · have first : ∃ J, (∃ r, f_X8_spell N I = some (r, J)) ∧ fr fT1 I J := by
      rcases spell_both (N := N) hTX (hTM I (fun _ _ _ => rfl)) hn hx hF hN with ⟨t, J, K, y1, _, _, _, y5, _⟩ | ⟨J, K, y1, _, y3, _⟩
      · exact ⟨J, ⟨_, y1⟩, y5⟩
      · exact ⟨J, ⟨_, y1⟩, y3⟩
    rcases spell_both (N := N) hTX (hTM I (fun _ _ _ => rfl)) hn hx hF hN with ⟨t, J, _, y1, _, y3, _, y5, _⟩ | ⟨J, _, y1, _, y5, _⟩
    · -- spelt out
      have ls : ∀ K0 : MI, (∀ b j, b = 99 ∨ b = 111 → K0 b j = I b j) → ∃ K, f_X11_textLetters N K0 = some (nI t, K) ∧ LR J K t ∧ fr fT2 K0 K := fun K0 hK0 => by
        rcases spell_both (N := N) hTX (hTM K0 hK0) hn hx hF hN with ⟨t', J', K, z1, z2, z3, z4, z5, z6⟩ | ⟨J', K, z1, _, _, _⟩
        · rw [y1] at z1
          have e := Option.some.inj z1
          have e3 : t = t' := (nI_eq (by omega) (by omega)).mp (congrArg Prod.fst e)
          have e4 : J = J' := congrArg Prod.snd e
          subst e3; subst e4
          exact ⟨K, z2, z4, z6⟩
        · rw [y1] at z1
          have e := congrArg Prod.fst (Option.some.inj z1)
          simp only at e
          have : ¬ nI t < 0 := nI_pos (by omega)
          rw [e] at this
          exact absurd (by decide) this
      obtain ⟨K00, _, lr0, _⟩ := ls I (fun _ _ _ => rfl)
      let l : List Int32 := (List.range t).map (fun i => J 74 i)
      have hll : l.length = t := by simp [l]
      have hlg : ∀ i x, l[i]? = some x → i < t ∧ J 74 i = x := fun i x hx' => by
        have hi : i < l.length := (List.getElem?_eq_some_iff.mp hx').1
        have hi' : i < t := by omega
        refine ⟨hi', ?_⟩
        have : l[i]? = some (J 74 i) := by simp [l, hi']
        rw [this] at hx'
        exact Option.some.inj hx'
      have hlb : bits l := fun x hx' => by
        obtain ⟨i, hi⟩ := List.mem_iff_getElem?.mp hx'
        obtain ⟨i1, i2⟩ := hlg i x hi
        rw [← i2]; exact (lr0 i i1).2
      obtain ⟨J1, b1, b2, b3⟩ := becC (N := N) (a := 10 + 4 * w) (J := upI J 72 1 0) hll y3 (by omega) (fun i x hx' => by rw [upI_ne _ _ (by omega)]; exact (hlg i x hx').2) (by omega)
      have frJ : ∀ b j, ¬ (b = 74 ∨ b = 75 ∨ (b = 72 ∧ j = 1) ∨ b = 10 + 4 * w ∨ b = 11 + 4 * w) → J1 b j = I b j := fun b j h => by
        rw [b3 _ _ (by unfold fc; omega), upI_ne _ _ (by omega), y5 _ _ (by unfold fT1; omega)]
      obtain ⟨K, k1, k2, k3⟩ := ls J1 (fun b j h => frJ b j (by omega))
      obtain ⟨K1, l1, l2, l3⟩ := becM (N := N) (w := w) (t := t) (K := upI K 99 13 0) hw y3 (by omega)
      have frK : ∀ b j, ¬ (b = 135 ∨ b = 136 ∨ (b = 99 ∧ j = 13) ∨ (b = 101 ∧ 12 * w ≤ j ∧ j < 12 * w + 12) ∨ (b = 100 ∧ j = w)) → upI K1 100 w (nI t) b j = J1 b j := fun b j h => by
        rw [upI_ne _ _ (by omega), l3 _ _ (by omega), upI_ne _ _ (by omega), k3 _ _ (by unfold fT2; omega)]
      refine ⟨nI t, J1, upI K1 100 w (nI t), ?_, ?_, ?_⟩
      · unfold f_X10_read f_X10_read_j36
        rw [bnd1_some e1, if_neg (by decide), bnd1_some a1, if_pos rfl, bnd2_some y1]
        simp only [letv]
        rw [if_neg (nI_pos (by omega)), if_pos iw, cw, bnd1_some b1]
      · unfold f_X11_read f_X11_read_j26
        rw [bnd1_some e2, if_neg (by decide), bnd1_some (fM J1 (fun b j h => frJ b j (by omega))), if_pos (by decide), bnd2_some k1]
        simp only [letv]
        have n4 : ¬ nI t = (-4 : Int32) := fun h => by
          have : ¬ nI t < 0 := nI_pos (by omega)
          rw [h] at this
          exact absurd (by decide) this
        rw [if_pos (by decide), if_neg n4, bnd1_some l1, if_pos iw, cw]
      · -- first all but the word
        have hfr : fr (fun b j => (scr b j ∨ (b = 72 ∧ j = 1) ∨ (b = 99 ∧ j = 13)) ∨ sW w b j) I (upI K1 100 w (nI t)) := fun b j h => by
          unfold scr sW at h
          rw [frK _ _ (by omega), frJ _ _ (by omega)]
        obtain ⟨M0, m1, m2⟩ := hfr.split
        have v1 : M0 72 1 = 0 := by
          rw [← m2 72 1 (by unfold sW; omega), frK _ _ (by omega), b3 _ _ (by unfold fc; omega), upI_eq]
        have v2 : M0 99 13 = 0 := by
          rw [← m2 99 13 (by unfold sW; omega), upI_ne _ _ (by omega), l3 _ _ (by omega), upI_eq]
        refine inv_word hPL hPA (inv0 M0 m1 v1 v2) hw m2 ⟨l, by omega, hlb, ⟨?_, fun i x hx' => ?_⟩, ⟨by rw [upI_eq, hll], fun i x hx' => ?_⟩⟩
        · rw [frK _ _ (by omega)]; exact b2.1
        · rw [frK _ _ (by omega)]; exact b2.2 i x hx'
        · obtain ⟨i1, i2⟩ := hlg i x hx'
          rw [upI_ne _ _ (by omega), l2 i i1, upI_ne _ _ (by omega), ← (k2 i i1).1, i2]
    · -- too many letters
      have ls : ∀ K0 : MI, (∀ b j, b = 99 ∨ b = 111 → K0 b j = I b j) → ∃ K, f_X11_textLetters N K0 = some (-4, K) ∧ fr fT2 K0 K := fun K0 hK0 => by
        rcases spell_both (N := N) hTX (hTM K0 hK0) hn hx hF hN with ⟨t', J', K, z1, z2, z3, z4, z5, z6⟩ | ⟨J', K, z1, z2, _, z4⟩
        · rw [y1] at z1
          have e := congrArg Prod.fst (Option.some.inj z1)
          simp only at e
          have : ¬ nI t' < 0 := nI_pos (by omega)
          rw [← e] at this
          exact absurd (by decide) this
        · exact ⟨K, z2, z4⟩
      obtain ⟨K, k1, k2⟩ := ls (upI J 72 1 0) (fun b j h => by rw [upI_ne _ _ (by omega), y5 _ _ (by unfold fT1; omega)])
      refine ⟨-4, upI J 72 1 0, upI K 99 13 0, ?_, ?_, inv0 _ (fun b j h => ?_) ?_ (upI_eq _ _ _ _)⟩
      · unfold f_X10_read f_X10_read_j36
        rw [bnd1_some e1, if_neg (by decide), bnd1_some a1, if_pos rfl, bnd2_some y1]
        simp only [letv]
        rw [if_pos (by decide)]
      · unfold f_X11_read f_X11_read_j26
        rw [bnd1_some e2, if_neg (by decide), bnd1_some (fM _ (fun b j h => by rw [upI_ne _ _ (by omega), y5 _ _ (by unfold fT1; omega)])), if_pos (by decide), bnd2_some k1]
        simp only [letv]
        rw [if_pos (by decide), if_pos trivial]
      · unfold scr at h
        rw [upI_ne _ _ (by omega), k2 _ _ (by unfold fT2; omega), upI_ne _ _ (by omega), y5 _ _ (by unfold fT1; omega)]
      · rw [upI_ne _ _ (by omega), k2 _ _ (by unfold fT2; omega), upI_eq]
  · have nk : ¬ nI k < 0 := nI_pos (by omega)
    have nk1 : ¬ nI k = (-1 : Int32) := fun h => by rw [h] at nk; exact absurd (by decide) nk
    have neg : (-100 : Int32) - nI k < 0 := neg81 k (by omega)
    refine ⟨-100 - nI k, upI I 72 1 0, upI (upI I 72 1 0) 99 13 0, ?_, ?_, inv0 _ (fun b j h => ?_) ?_ (upI_eq _ _ _ _)⟩
    · unfold f_X10_read
      rw [bnd1_some e1, if_neg (by decide), bnd1_some a1, if_neg nk1, j36neg neg]
    · unfold f_X11_read
      rw [bnd1_some e2, if_neg (by decide), bnd1_some (fM _ (fun b j h => by rw [upI_ne _ _ (by omega)])), if_neg nk, j26no nk]
    · unfold scr at h
      rw [upI_ne _ _ (by omega), upI_ne _ _ (by omega)]
    · rw [upI_ne _ _ (by omega), upI_eq]
end RD4
