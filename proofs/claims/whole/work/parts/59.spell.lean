/-! ===== read: spelling ===== -/
def LR (J K : MI) (t : Nat) : Prop := ∀ i, i < t → J 74 i = K 135 i ∧ (J 74 i = 0 ∨ J 74 i = 1)
def SR (J K : MI) (sts : Nat → Nat) (o : Nat) : Prop := ∀ k, k ≤ o → J 75 k = nI (sts k) ∧ K 136 k = nI (sts k)
def fT1 (b j : Nat) : Prop := b = 74 ∨ b = 75
def fT2 (b j : Nat) : Prop := b = 135 ∨ b = 136
def okS (sts : Nat → Nat) (o : Nat) : Prop := sts 0 = 0 ∧ (∀ k, k < o → sts k ≤ sts (k + 1)) ∧ ∀ k, k ≤ o → sts k ≤ 12 * k
section RD2
variable {N n : Nat} {c : Nat → Nat} {I M : MI}
def Sp (c : Nat → Nat) (n : Nat) (I M : MI) (p top o : Nat) (sts : Nat → Nat) (J K : MI) : Prop :=
  (∃ a f, frun c p = some (o, a, f)) ∧ p ≤ n ∧ ¬ (p < n ∧ isFg (c p)) ∧ o ≤ 4 ∧ LR J K top ∧ SR J K sts o ∧ okS sts o ∧ sts o ≤ top ∧ top ≤ sts o + 12 ∧ fr fT1 I J ∧ fr fT2 M K
theorem TX_fr {J : MI} (h : TX I n c) (f : fr fT1 I J) : TX J n c := ⟨by rw [f _ _ (by unfold fT1; omega)]; exact h.1, fun i hi => by rw [f _ _ (by unfold fT1; omega)]; exact h.2 i hi⟩
theorem TM_fr {K : MI} (h : TM M n c) (f : fr fT2 M K) : TM K n c := ⟨by rw [f _ _ (by unfold fT2; omega)]; exact h.1, fun i hi => by rw [f _ _ (by unfold fT2; omega)]; exact h.2 i hi⟩
theorem rep_both {J K : MI} {v2 v4 v5 : Int32} {from' top t : Nat} (hf : from' ≤ top) (hb : from' ≤ 60) (ho : (top - from') * t ≤ 12) (h12 : top ≤ from' + 12) (hL : LR J K top) (hN : 1000 ≤ N) : ∃ J' K', f_X8_repeat_l28 N (nI (top - from')) (nI (from' + (top - from') * t)) (nI top) J = some J' ∧ f_X11_textLetters_l143 N v2 (nI from') v4 v5 (nI (top - from')) (nI t) (nI (top - from')) K = some K' ∧ LR J' K' (from' + (top - from') * t) ∧ fr (fun b j => b = 74) J J' ∧ fr (fun b j => b = 135) K K' := by
  generalize hs : top - from' = s at *
  generalize he : s * t = e at *
  obtain ⟨r, q, h1, h2, h3, h4, h5⟩ := loop_sync (f := fun x : Int32 × MI => f_X8_repeat_b28 N (nI s) (nI (from' + e)) x.1 x.2) (g := fun x : Int32 × MI => f_X11_textLetters_b143 N v2 (nI from') v4 v5 (nI s) (nI t) x.1 x.2) (fun k x y => x.1 = nI (top + k) ∧ y.1 = nI (s + k) ∧ LR x.2 y.2 (top + k) ∧ fr (fun b j => b = 74) J x.2 ∧ fr (fun b j => b = 135) K y.2) (fun J' K' => LR J' K' (top + (e - s)) ∧ fr (fun b j => b = 74) J J' ∧ fr (fun b j => b = 135) K K') (e - s) (by
    rintro k ⟨a, J1⟩ ⟨b, K1⟩ hk ⟨e1, e2, e3, e4, e5⟩
    simp only at e1 e2 e3 e4 e5
    subst e1; subst e2
    have hs1 : 1 ≤ s := by
      rcases Nat.eq_zero_or_pos s with z | z
      · subst z; simp at he; omega
      · exact z
    obtain ⟨x1, x2⟩ := e3 (top + k - s) (by omega)
    refine ⟨(nI (top + k + 1), upI J1 74 (top + k) (J1 74 (top + k - s))), (nI (s + k + 1), upI K1 135 (from' + (s + k)) (K1 135 (from' + (s + k) - s))), ?_, ?_, rfl, rfl, fun i hi => ?_, e4.trans (fr.up rfl), e5.trans (fr.up rfl)⟩
    · show f_X8_repeat_b28 N (nI s) (nI (from' + e)) (nI (top + k)) J1 = _
      unfold f_X8_repeat_b28
      rw [if_pos ((nI_ltI (by omega) (by omega)).mpr (by omega)), nI_sub (by omega), if_pos (inb_nI (by omega) (by decide)), if_pos (inb_nI (by omega) (by decide)), nI_clamp (by omega), nI_clamp (by omega), nI_1]
      rfl
    · show f_X11_textLetters_b143 N v2 (nI from') v4 v5 (nI s) (nI t) (nI (s + k)) K1 = _
      unfold f_X11_textLetters_b143
      rw [nI_mul, he, if_pos ((nI_ltI (by omega) (by omega)).mpr (by omega)), nI_add, nI_sub (by omega), if_pos (inb_nI (by omega) (by decide)), if_pos (inb_nI (by omega) (by decide)), nI_clamp (by omega), nI_clamp (by omega), nI_1]
      rfl
    · show upI J1 74 (top + k) (J1 74 (top + k - s)) 74 i = upI K1 135 (from' + (s + k)) (K1 135 (from' + (s + k) - s)) 135 i ∧ (upI J1 74 (top + k) (J1 74 (top + k - s)) 74 i = 0 ∨ upI J1 74 (top + k) (J1 74 (top + k - s)) 74 i = 1)
      rw [show from' + (s + k) = top + k by omega, upI_at, upI_at]
      by_cases z : i = top + k
      · rw [if_pos z, if_pos z]; exact ⟨x1, x2⟩
      · rw [if_neg z, if_neg z]; exact e3 i (by omega)) (by
    rintro ⟨a, J1⟩ ⟨b, K1⟩ ⟨e1, e2, e3, e4, e5⟩
    simp only at e1 e2 e3 e4 e5
    subst e1; subst e2
    refine ⟨J1, K1, ?_, ?_, e3, e4, e5⟩
    · show f_X8_repeat_b28 N (nI s) (nI (from' + e)) (nI (top + (e - s))) J1 = _
      unfold f_X8_repeat_b28
      rw [if_neg (nI_le0 (by omega) (by omega))]
    · show f_X11_textLetters_b143 N v2 (nI from') v4 v5 (nI s) (nI t) (nI (s + (e - s))) K1 = _
      unfold f_X11_textLetters_b143
      rw [nI_mul, he, if_neg (nI_le0 (by omega) (by omega))]) N 0 (nI top, J) (nI s, K) (Nat.zero_le _) (by omega) ⟨rfl, rfl, hL, fr.rfl, fr.rfl⟩
  exact ⟨r, q, h1, h2, fun i hi => h3 i (by omega), h4, h5⟩
theorem figs {o : Nat} {a : Bool} {p : Nat} {tt : Nat × Bool × Bool} (hF : frun c n = some tt) (e : frun c p = some (o, a, false)) : ¬ (p < n ∧ isFg (c p)) := by
  rintro ⟨h1, h2, h3⟩
  obtain ⟨s', g1, _⟩ := frun_step hF h1 e
  unfold fst1 at g1
  simp only at g1
  rw [if_neg (by omega), if_neg (by omega), if_neg (by omega), if_neg (by simp)] at g1
  exact absurd g1 (by simp)
theorem j226M {K : MI} {v3 v4 v5 : Int32} {top o so : Nat} (h40 : ¬ v5 = 40) (ho : o ≤ 4) (hs : K 136 o = nI so) (h1 : so ≤ top) (ht : top < 200) : f_X11_textLetters_b16_j225 N (nI top) (nI o) v3 v4 v5 K = if 12 < top - so then some (.inr (.inr (-4, K))) else some (.inl (nI top, nI o, v3, v4 + 1, K)) := by
  unfold f_X11_textLetters_b16_j225 f_X11_textLetters_b16_j226
  rw [if_neg h40, if_pos rfl, if_pos (inb_nI (by omega) (by decide)), nI_clamp (by omega), hs, nI_sub h1, nl12]
  by_cases z : 12 < top - so
  · rw [if_pos z, if_pos ((nI_ltI (by omega) (by omega)).mpr z)]
  · rw [if_neg z, if_neg (nI_le0 (by omega) (by omega))]
theorem j138C {J : MI} {v3 : Int32} {top o so : Nat} (ho : o ≤ 4) (hs : J 75 o = nI so) (h1 : so ≤ top) (ht : top < 200) : f_X8_spell_b13_j138 N (nI top) (nI o) v3 J = if 12 < top - so then some (.inr (.inr (-4, J))) else some (.inl (nI top, nI o, v3 + 1, J)) := by
  unfold f_X8_spell_b13_j138
  rw [if_neg (nI_pos (by omega)), if_pos (inb_nI (by omega) (by decide)), nI_clamp (by omega), hs, nI_sub h1, nl12]
  by_cases z : 12 < top - so
  · rw [if_pos z, if_pos ((nI_ltI (by omega) (by omega)).mpr z)]
  · rw [if_neg z, if_neg (nI_le0 (by omega) (by omega))]
theorem j188M {K : MI} {v1 v2 v3 v5 : Int32} {p : Nat} (hT : TM K n c) (hn : n ≤ 80) (hx : ∀ i, i < n → c i ≤ 127) (hp : p < n) : f_X11_textLetters_b16_j188 N v1 v2 v3 (nI p) v5 K = f_X11_textLetters_b16_j226 N v1 v2 v3 (nI p) v5 (if p + 1 < n ∧ isFg (c (p + 1)) then 1 else 0) K := by
  unfold f_X11_textLetters_b16_j188 f_X11_textLetters_b16_j225
  rw [nI_1, hT.1]
  by_cases z : p + 1 < n
  · have := hx (p + 1) z
    rw [if_pos ((nI_ltI (by omega) (by omega)).mpr z), if_pos (inb_nI (by omega) (by decide)), nI_clamp (by omega), hT.2 _ z, bnd1_some (inF (by omega))]
    by_cases w : 48 ≤ c (p + 1) ∧ c (p + 1) ≤ 57
    · rw [if_pos w, if_neg (by decide), if_pos (show p + 1 < n ∧ isFg (c (p + 1)) from ⟨z, w⟩)]
    · rw [if_neg w, if_pos rfl, if_neg (show ¬ (p + 1 < n ∧ isFg (c (p + 1))) from fun q => w q.2)]
  · rw [if_neg (nI_le0 (by omega) (by omega)), if_neg (show ¬ (p + 1 < n ∧ isFg (c (p + 1))) from fun q => z q.1)]
theorem afterItem {J K : MI} {p top o from' : Nat} {sts : Nat → Nat} {v5 : Int32} {a : Bool} {tt : Nat × Bool × Bool} (hI : TX I n c) (hM : TM M n c) (hn : n ≤ 80) (hx : ∀ i, i < n → c i ≤ 127) (hF : frun c n = some tt) (hp : p < n) (hf : frun c (p + 1) = some (o, a, true)) (h40 : ¬ v5 = 40) (ho : o ≤ 4) (hL : LR J K top) (hS : SR J K sts o) (hk : okS sts o) (h1 : sts o ≤ from') (h2 : from' ≤ top) (h3 : from' ≤ 60) (h4 : top ≤ from' + 12) (f1 : fr fT1 I J) (f2 : fr fT2 M K) (hN : 1000 ≤ N) :
    (∃ J' K', f_X8_spell_b13_j108 N (nI top) (nI o) (nI p) (nI from') J = some (.inr (.inr (-4, J'))) ∧ f_X11_textLetters_b16_j188 N (nI top) (nI o) (nI from') (nI p) v5 K = some (.inr (.inr (-4, K'))) ∧ fr fT1 I J' ∧ fr fT2 M K')
    ∨ (∃ J' K', p + 1 < n ∧ f_X8_spell_b13_j108 N (nI top) (nI o) (nI p) (nI from') J = some (.inr (.inr (-4, J'))) ∧ f_X11_textLetters_b16_j188 N (nI top) (nI o) (nI from') (nI p) v5 K = some (.inl (nI top, nI o, nI from', nI (p + 1), K)) ∧ f_X11_textLetters_b16 N (nI top) (nI o) (nI from') (nI (p + 1)) K = some (.inr (.inr (-4, K'))) ∧ fr fT1 I J' ∧ fr fT2 M K')
    ∨ (∃ e v3 J' K', f_X8_spell_b13_j108 N (nI top) (nI o) (nI p) (nI from') J = some (.inl (nI e, nI o, nI (p + 1), J')) ∧ f_X11_textLetters_b16_j188 N (nI top) (nI o) (nI from') (nI p) v5 K = some (.inl (nI e, nI o, v3, nI (p + 1), K')) ∧ Sp c n I M (p + 1) e o sts J' K')
    ∨ (∃ e v3 J' K', p + 1 < n ∧ f_X8_spell_b13_j108 N (nI top) (nI o) (nI p) (nI from') J = some (.inl (nI e, nI o, nI (p + 1 + 1), J')) ∧ f_X11_textLetters_b16_j188 N (nI top) (nI o) (nI from') (nI p) v5 K = some (.inl (nI top, nI o, nI from', nI (p + 1), K)) ∧ f_X11_textLetters_b16 N (nI top) (nI o) (nI from') (nI (p + 1)) K = some (.inl (nI e, nI o, v3, nI (p + 1 + 1), K')) ∧ Sp c n I M (p + 1 + 1) e o sts J' K') := by
  have hTX : TX J n c := TX_fr hI f1
  have hTM : TM K n c := TM_fr hM f2
  have so := hS o (Nat.le_refl _)
  have s12 := hk.2.2 o (Nat.le_refl _)
  unfold f_X8_spell_b13_j108
  rw [j188M hTM hn hx hp, nI_1, bnd1_some (isF hTX hn hx (by omega))]
  by_cases q : p + 1 < n ∧ isFg (c (p + 1))
  · obtain ⟨q1, q2⟩ := q
    have hc := hx (p + 1) q1
    rw [if_pos (show p + 1 < n ∧ isFg (c (p + 1)) from ⟨q1, q2⟩), if_neg (by decide), if_pos (inb_nI (by omega) (by decide)), nI_clamp (by omega), hTX.2 _ q1]
    have er : f_X11_textLetters_b16_j226 N (nI top) (nI o) (nI from') (nI p) v5 1 K = some (.inl (nI top, nI o, nI from', nI (p + 1), K)) := by
      unfold f_X11_textLetters_b16_j226
      rw [if_neg h40, if_neg (by decide), nI_1]
    rw [er]
    obtain ⟨t, ht⟩ : ∃ t, t = c (p + 1) - 48 := ⟨_, rfl⟩
    unfold isFg at q2
    have e48 : nI (c (p + 1)) - 48 = nI t := by rw [nl48, nI_sub q2.1, ht]
    have fg2 : frun c (p + 1 + 1) = some (o, a, false) := by
      show (frun c (p + 1)).bind (fst1 (c (p + 1))) = _
      rw [hf]
      show fst1 (c (p + 1)) (o, a, true) = _
      unfold fst1
      rw [if_neg (by omega), if_neg (by omega), if_neg (by omega), if_pos ⟨q2, rfl⟩]
    have nf := figs hF fg2
    have body : f_X11_textLetters_b16 N (nI top) (nI o) (nI from') (nI (p + 1)) K = (if 12 < (nI top - nI from') * nI t then some (.inr (.inr (-4, K))) else bnd1 (f_X11_textLetters_l143 N (nI o) (nI from') (nI (p + 1)) (nI (c (p + 1))) (nI top - nI from') (nI t) (nI top - nI from') K) fun I30 => f_X11_textLetters_b16_j188 N (nI from' + (nI top - nI from') * nI t) (nI o) (nI from') (nI (p + 1)) (nI (c (p + 1))) I30) := by
      unfold f_X11_textLetters_b16
      rw [hTM.1, if_pos ((nI_ltI (by omega) (by omega)).mpr q1), if_pos (inb_nI (by omega) (by decide)), nI_clamp (by omega), hTM.2 _ q1]
      rw [if_neg (by rw [nl40, nI_eq (by omega) (by omega)]; omega), if_neg (by rw [nl41, nI_eq (by omega) (by omega)]; omega), if_neg (by rw [nl85, nI_eq (by omega) (by omega)]; omega), if_neg (by rw [nl68, nI_eq (by omega) (by omega)]; omega)]
      simp only [letv]
      rw [e48]
    rw [body, e48, nI_sub h2, nI_mul, nI_add]
    unfold f_X8_repeat
    have tb : (top - from') * t ≤ 12 * 9 := Nat.mul_le_mul (by omega) (by omega)
    have es : nI (from' + (top - from') * t) - nI from' = nI ((top - from') * t) := by rw [nI_sub (by omega)]; congr 1; omega
    rw [nI_sub h2, nI_mul, nI_add, es, nl12]
    by_cases z : 12 < (top - from') * t
    · right; left
      have l1 := (nI_ltI (show 12 < 2 ^ 31 by omega) (show (top - from') * t < 2 ^ 31 by omega)).mpr z
      rw [if_pos l1, if_pos l1]
      refine ⟨J, K, q1, ?_, rfl, rfl, f1, f2⟩
      rw [bnd2_some rfl]
      unfold f_X8_spell_b13_j138
      rw [if_pos (by decide)]
    · have l1 : ¬ nI 12 < nI ((top - from') * t) := nI_le0 (by omega) (by omega)
      rw [if_neg l1, if_neg l1]
      obtain ⟨J1, K1, g1, g2, g3, g4, g5⟩ := rep_both (N := N) (J := J) (K := K) (v2 := nI o) (v4 := nI (p + 1)) (v5 := nI (c (p + 1))) (t := t) h2 h3 (by omega) h4 hL hN
      have f1' : fr fT1 I J1 := f1.trans (g4.mono (fun b j h => Or.inl h))
      have f2' : fr fT2 M K1 := f2.trans (g5.mono (fun b j h => Or.inl h))
      have sJ : J1 75 o = nI (sts o) := by rw [g4 _ _ (by omega)]; exact so.1
      have sK : K1 136 o = nI (sts o) := by rw [g5 _ _ (by omega)]; exact so.2
      rw [bnd1_some g1, bnd1_some g2, bnd2_some rfl, j188M (TM_fr hM f2') hn hx q1, if_neg nf]
      rw [j138C ho sJ (by omega) (by omega)]
      rw [show f_X11_textLetters_b16_j226 N (nI (from' + (top - from') * t)) (nI o) (nI from') (nI (p + 1)) (nI (c (p + 1))) 0 K1 = f_X11_textLetters_b16_j225 N (nI (from' + (top - from') * t)) (nI o) (nI from') (nI (p + 1)) (nI (c (p + 1))) K1 from rfl, j226M (by rw [nl40, nI_eq (by omega) (by omega)]; omega) ho sK (by omega) (by omega)]
      by_cases y : 12 < from' + (top - from') * t - sts o
      · right; left
        rw [if_pos y, if_pos y]
        exact ⟨J1, K1, q1, rfl, rfl, rfl, f1', f2'⟩
      · right; right; right
        rw [if_neg y, if_neg y, nI_1]
        exact ⟨from' + (top - from') * t, _, J1, K1, q1, rfl, rfl, rfl, ⟨a, false, fg2⟩, by omega, nf, ho, g3, fun k hk' => ⟨by rw [g4 _ _ (by omega)]; exact (hS k hk').1, by rw [g5 _ _ (by omega)]; exact (hS k hk').2⟩, hk, by omega, by omega, f1', f2'⟩
  · rw [if_neg q, if_pos rfl, j138C ho so.1 (by omega) (by omega)]
    rw [show f_X11_textLetters_b16_j226 N (nI top) (nI o) (nI from') (nI p) v5 0 K = f_X11_textLetters_b16_j225 N (nI top) (nI o) (nI from') (nI p) v5 K from rfl, j226M h40 ho so.2 (by omega) (by omega)]
    by_cases y : 12 < top - sts o
    · left
      rw [if_pos y, if_pos y]
      exact ⟨J, K, rfl, rfl, f1, f2⟩
    · right; right; left
      rw [if_neg y, if_neg y, nI_1]
      exact ⟨top, _, J, K, rfl, rfl, ⟨a, true, hf⟩, by omega, q, ho, hL, hS, hk, by omega, by omega, f1, f2⟩
end RD2
