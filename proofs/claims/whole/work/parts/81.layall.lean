/-! ===== the reference's table of ALL STEPS ===== -/
theorem posd : ∀ h, h < 10 → ∀ v, v < 10 → (v < h ∧ 0 < nI h - nI v ∧ nI h - nI v = nI (h - v)) ∨ (¬ v < h ∧ ¬ 0 < nI h - nI v) := by decide +kernel
def TAj (n j : Nat) (I : MI) : Prop := (∀ i, i < n → I 132 (6 * j + i) = nI (hh n j i)) ∧ ∀ k, k < 7 → I 133 (7 * j + k) = nI (cN (hh n j) n k)
def TA (n : Nat) (I : MI) : Prop := I 99 38 = nI (sz n) ∧ ∀ j, j < sz n → TAj n j I
def PA0 (I : MI) : Prop := I 99 39 = 0 ∨ ∃ n, 1 ≤ n ∧ n ≤ 6 ∧ I 99 39 = nI n ∧ TA n I
theorem frPA0 : frPA PA0 := fun I I' h p => by
  have e1 : I' 99 39 = I 99 39 := h _ _ (by unfold depA; omega)
  rcases p with p | ⟨n, n1, n6, p, t1, t2⟩
  · exact Or.inl (e1.trans p)
  · exact Or.inr ⟨n, n1, n6, e1.trans p, (h _ _ (by unfold depA; omega)).trans t1, fun j hj => ⟨fun i hi => (h _ _ (by unfold depA; omega)).trans ((t2 j hj).1 i hi), fun k hk => (h _ _ (by unfold depA; omega)).trans ((t2 j hj).2 k hk)⟩⟩
section LA
variable {N n : Nat}
theorem m7c {j v : Nat} : 7 * nI j + nI v + 1 = nI (7 * j + (v + 1)) := by rw [m7, nI_1]; congr 1
theorem oneM {I : MI} {j : Nat} (n1 : 1 ≤ n) (n6 : n ≤ 6) (hj : j < sz n) (hc : I 99 38 = nI j) (hr : ∀ i, i < n → I 127 i = nI (hh n j i)) (hN : 20 ≤ N) : ∃ J, f_X11_layOne N (nI n) I = some J ∧ TAj n j J ∧ J 99 38 = nI (j + 1) ∧ fr (fun b x => (b = 132 ∧ 6 * j ≤ x ∧ x < 6 * j + 6) ∨ (b = 133 ∧ 7 * j ≤ x ∧ x < 7 * j + 7) ∨ (b = 99 ∧ x = 38)) I J := by
  have s9 := sz_le n (by omega)
  obtain ⟨r1, r2, r3⟩ := row_ok n1 n6 hj
  obtain ⟨I1, a1, a2, a3⟩ : ∃ J, f_X11_layOne_l2 N (nI n) 0 I = some J ∧ (∀ k, k < 7 → J 133 (7 * j + k) = nI (cN (hh n j) 0 k)) ∧ fr (fun b x => b = 133 ∧ 7 * j ≤ x ∧ x < 7 * j + 7) I J := by
    refine loop_inv (f := fun s : Int32 × MI => f_X11_layOne_b2 N (nI n) s.1 s.2) (fun k st => st.1 = nI k ∧ (∀ k', k' < k → st.2 133 (7 * j + k') = nI (cN (hh n j) 0 k')) ∧ fr (fun b x => b = 133 ∧ 7 * j ≤ x ∧ x < 7 * j + 7) I st.2) _ 7 ?_ ?_ N 0 (0, I) (Nat.zero_le _) (by omega) ⟨nl0, fun k hk => absurd hk (by omega), fr.rfl⟩
    · rintro k ⟨c, J⟩ hk ⟨e1, w1, f1⟩
      simp only at e1 w1 f1
      subst e1
      refine ⟨(nI (k + 1), upI J 133 (7 * j + k) (nI (cN (hh n j) 0 k))), ?_, rfl, fun k' hk' => ?_, f1.trans (fr.up ⟨rfl, by omega, by omega⟩)⟩
      · show f_X11_layOne_b2 N (nI n) (nI k) J = _
        unfold f_X11_layOne_b2
        rw [f1 99 38 (by omega), hc, m7, nl7, if_pos ((nI_ltI (by omega) (by omega)).mpr hk), if_pos (inb_nI (by omega) (by decide)), if_pos (inb_nI (by omega) (by decide)), nI_clamp (by omega), nI_1, cN]
        by_cases z : k = 0
        · rw [if_pos z, if_pos (by rw [z]; rfl)]; rfl
        · rw [if_neg z, if_neg (by rw [nl0, nI_eq (by omega) (by omega)]; exact z)]; rfl
      · show upI J 133 (7 * j + k) _ 133 (7 * j + k') = _
        rw [upI_at]
        by_cases z : k' = k
        · rw [if_pos (by omega), z]
        · rw [if_neg (by omega)]; exact w1 k' (by omega)
    · rintro ⟨c, J⟩ ⟨e1, w1, f1⟩
      simp only at e1 w1 f1
      subst e1
      refine ⟨J, ?_, w1, f1⟩
      show f_X11_layOne_b2 N (nI n) (nI 7) J = _
      unfold f_X11_layOne_b2
      rw [if_neg (by decide)]
  have inner : ∀ i J, i < n → J 99 38 = nI j → J 127 i = nI (hh n j i) → (∀ k, k < 7 → J 133 (7 * j + k) = nI (cN (hh n j) i k)) → ∃ J', f_X11_layOne_l66 N (nI n) (nI i) 5 J = some J' ∧ (∀ k, k < 7 → J' 133 (7 * j + k) = nI (cN (hh n j) (i + 1) k)) ∧ fr (fun b x => b = 133 ∧ 7 * j ≤ x ∧ x < 7 * j + 7) J J' := fun i J hi hc hr hcc => by
    have h5 : (5 : Int32) = nI 6 - 1 := by decide
    rw [h5]
    have hle := r2 i hi
    refine loop_inv (f := fun s : Int32 × MI => f_X11_layOne_b66 N (nI n) (nI i) s.1 s.2) (fun d st => st.1 = nI (6 - d) - 1 ∧ (∀ k, k < 7 → st.2 133 (7 * j + k) = nI (if k ≤ 6 - d then cN (hh n j) i k else cN (hh n j) (i + 1) k)) ∧ fr (fun b x => b = 133 ∧ 7 * j ≤ x ∧ x < 7 * j + 7) J st.2) _ 6 ?_ ?_ N 0 (nI 6 - 1, J) (Nat.zero_le _) (by omega) ⟨rfl, fun k hk => by rw [if_pos (by omega)]; exact hcc k hk, fr.rfl⟩
    · rintro d ⟨c, J1⟩ hd ⟨e1, w1, f1⟩
      simp only at e1 w1 f1
      subst e1
      obtain ⟨v, hv⟩ : ∃ v, v = 6 - d - 1 := ⟨_, rfl⟩
      have wk := w1 (v + 1) (by omega)
      have wv := w1 v (by omega)
      rw [if_pos (by omega)] at wk wv
      have hri : J1 127 i = nI (hh n j i) := by rw [f1 _ _ (by omega)]; exact hr
      refine ⟨(nI (6 - (d + 1)) - 1, upI J1 133 (7 * j + (v + 1)) (nI (cN (hh n j) (i + 1) (v + 1)))), ?_, rfl, fun k' hk' => ?_, f1.trans (fr.up ⟨rfl, by omega, by omega⟩)⟩
      · show f_X11_layOne_b66 N (nI n) (nI i) (nI (6 - d) - 1) J1 = _
        unfold f_X11_layOne_b66
        rw [dn1 (show 1 ≤ 6 - d by omega), dn2 (show 1 ≤ 6 - d by omega), ← hv, if_neg (nI_pos (by omega)), if_pos (inb_nI (by omega) (by decide)), nI_clamp (by omega), hri, f1 99 38 (by omega), hc, m7c, m7]
        simp only [letv]
        have q1 : inb (nI (7 * j + (v + 1))) 6468 = true := inb_nI (by omega) (by decide)
        have q2 : inb (nI (7 * j + v)) 6468 = true := inb_nI (by omega) (by decide)
        rw [if_pos q1, if_pos q2, if_pos q1, if_pos q1, nI_clamp (n := 7 * j + (v + 1)) (by omega), nI_clamp (n := 7 * j + v) (by omega), wk, wv]
        have ev : v = 6 - (d + 1) := by omega
        subst ev
        rw [cN, if_neg (show ¬ 6 - (d + 1) + 1 = 0 by omega), Nat.add_sub_cancel]
        rcases posd (hh n j i) (by omega) (6 - (d + 1)) (by omega) with ⟨p1, p2, p3⟩ | ⟨p1, p2⟩
        · rw [if_pos p2, p3, nI_mul, nI_add, show hh n j i - (6 - (d + 1)) = hh n j i + 1 - (6 - (d + 1) + 1) by omega, Nat.mul_comm (cN (hh n j) i (6 - (d + 1)))]
        · rw [if_neg p2, show hh n j i + 1 - (6 - (d + 1) + 1) = 0 by omega, Nat.zero_mul, Int32.add_zero]; rfl
      · show upI J1 133 (7 * j + (v + 1)) _ 133 (7 * j + k') = _
        rw [upI_at]
        by_cases z : k' = v + 1
        · rw [if_pos (by omega), if_neg (by omega), z]
        · rw [if_neg (by omega), w1 k' hk']
          have : k' ≤ 6 - d ↔ k' ≤ 6 - (d + 1) := by omega
          simp only [this]
    · rintro ⟨c, J1⟩ ⟨e1, w1, f1⟩
      simp only at e1 w1 f1
      subst e1
      refine ⟨J1, ?_, fun k hk => ?_, f1⟩
      · show f_X11_layOne_b66 N (nI n) (nI i) (nI (6 - 6) - 1) J1 = _
        unfold f_X11_layOne_b66
        rw [if_pos (by decide)]
      · rw [w1 k hk]
        by_cases z : k = 0
        · rw [if_pos (by omega), z, cN, if_pos rfl, Nat.add_zero]
        · rw [if_neg (by omega)]
  obtain ⟨I2, b1, b2, b3, b4⟩ : ∃ J, f_X11_layOne_l39 N (nI n) 0 I1 = some J ∧ (∀ i, i < n → J 132 (6 * j + i) = nI (hh n j i)) ∧ (∀ k, k < 7 → J 133 (7 * j + k) = nI (cN (hh n j) n k)) ∧ fr (fun b x => (b = 132 ∧ 6 * j ≤ x ∧ x < 6 * j + 6) ∨ (b = 133 ∧ 7 * j ≤ x ∧ x < 7 * j + 7)) I J := by
    refine loop_inv (f := fun s : Int32 × MI => f_X11_layOne_b39 N (nI n) s.1 s.2) (fun i st => st.1 = nI i ∧ (∀ i', i' < i → st.2 132 (6 * j + i') = nI (hh n j i')) ∧ (∀ k, k < 7 → st.2 133 (7 * j + k) = nI (cN (hh n j) i k)) ∧ fr (fun b x => (b = 132 ∧ 6 * j ≤ x ∧ x < 6 * j + 6) ∨ (b = 133 ∧ 7 * j ≤ x ∧ x < 7 * j + 7)) I st.2) _ n ?_ ?_ N 0 (0, I1) (Nat.zero_le _) (by omega) ⟨nl0, fun i hi => absurd hi (by omega), a2, a3.mono (fun b x h => Or.inr h)⟩
    · rintro i ⟨c, J⟩ hi ⟨e1, w1, w2, f1⟩
      simp only at e1 w1 w2 f1
      subst e1
      have hcJ : J 99 38 = nI j := by rw [f1 _ _ (by omega)]; exact hc
      have hrJ : J 127 i = nI (hh n j i) := by rw [f1 _ _ (by omega)]; exact hr i hi
      obtain ⟨J', g1, g2, g3⟩ := inner i (upI J 132 (6 * j + i) (nI (hh n j i))) hi (by rw [upI_ne _ _ (by omega)]; exact hcJ) (by rw [upI_ne _ _ (by omega)]; exact hrJ) (fun k hk => by rw [upI_ne _ _ (by omega)]; exact w2 k hk)
      refine ⟨(nI (i + 1), J'), ?_, rfl, fun i' hi' => ?_, g2, f1.trans ((fr.up (S := fun b x => (b = 132 ∧ 6 * j ≤ x ∧ x < 6 * j + 6) ∨ (b = 133 ∧ 7 * j ≤ x ∧ x < 7 * j + 7)) (Or.inl ⟨rfl, by omega, by omega⟩)).trans (g3.mono (fun b x h => Or.inr h)))⟩
      · show f_X11_layOne_b39 N (nI n) (nI i) J = _
        unfold f_X11_layOne_b39
        rw [if_pos ((nI_ltI (by omega) (by omega)).mpr hi), if_pos (inb_nI (by omega) (by decide)), hcJ, m6, if_pos (inb_nI (by omega) (by decide)), nI_clamp (by omega), nI_clamp (by omega), hrJ]
        simp only [letv]
        rw [bnd1_some g1, nI_1]
      · show J' 132 (6 * j + i') = _
        rw [g3 _ _ (by omega), upI_at]
        by_cases z : i' = i
        · rw [if_pos (by omega), z]
        · rw [if_neg (by omega)]; exact w1 i' (by omega)
    · rintro ⟨c, J⟩ ⟨e1, w1, w2, f1⟩
      simp only at e1 w1 w2 f1
      subst e1
      refine ⟨J, ?_, w1, w2, f1⟩
      show f_X11_layOne_b39 N (nI n) (nI n) J = _
      unfold f_X11_layOne_b39
      rw [if_neg (nI_le0 (by omega) (Nat.le_refl _))]
  refine ⟨upI I2 99 38 (nI (j + 1)), ?_, ⟨fun i hi => by rw [upI_ne _ _ (by omega)]; exact b2 i hi, fun k hk => by rw [upI_ne _ _ (by omega)]; exact b3 k hk⟩, upI_eq _ _ _ _, fun b x h => by rw [upI_ne _ _ (by omega), b4 _ _ (by omega)]⟩
  unfold f_X11_layOne
  rw [bnd1_some a1, bnd1_some b1]
  simp only [letv]
  rw [b4 99 38 (by omega), hc, nI_1]
def fA (b j : Nat) : Prop := b = 127 ∨ depA b j
theorem allM {I : MI} (n1 : 1 ≤ n) (n6 : n ≤ 6) (hp : PA0 I) (hN : 1000 ≤ N) : ∃ J, f_X11_layAll N (nI n) I = some J ∧ J 99 39 = nI n ∧ TA n J ∧ fr fA I J := by
  have s9 := sz_le n (by omega)
  unfold f_X11_layAll
  by_cases e : I 99 39 = nI n
  · rw [if_pos e]
    rcases hp with hp | ⟨m, m1, m6, hp, t⟩
    · rw [hp] at e
      exact absurd ((nI_eq (by omega) (by omega)).mp (nl0.symm.trans e)) (by omega)
    · rw [hp] at e
      have : m = n := (nI_eq (by omega) (by omega)).mp e
      subst this
      exact ⟨I, rfl, hp, t, fr.rfl⟩
  rw [if_neg e]
  simp only [letv]
  generalize hI0 : upI (upI I 99 39 (nI n)) 99 38 0 = I0
  have f0 : fr fA I I0 := by rw [← hI0]; exact (fr.up (S := fA) (by unfold fA depA; omega)).trans (fr.up (S := fA) (by unfold fA depA; omega))
  have c0 : I0 99 38 = nI 0 := by rw [← hI0, upI_eq]; exact nl0
  have c1 : I0 99 39 = nI n := by rw [← hI0, upI_ne _ _ (by omega), upI_eq]
  obtain ⟨I1, a1, a2, a3⟩ : ∃ J, f_X11_layAll_l21 N (nI n) 0 I0 = some J ∧ (∀ i, i < n → J 127 i = 0) ∧ fr (fun b j => b = 127) I0 J := by
    refine loop_inv (f := fun s : Int32 × MI => f_X11_layAll_b21 N (nI n) s.1 s.2) (fun i st => st.1 = nI i ∧ (∀ i', i' < i → st.2 127 i' = 0) ∧ fr (fun b j => b = 127) I0 st.2) _ n ?_ ?_ N 0 (0, I0) (Nat.zero_le _) (by omega) ⟨nl0, fun i hi => absurd hi (by omega), fr.rfl⟩
    · rintro i ⟨c, J⟩ hi ⟨e1, w1, f1⟩
      simp only at e1 w1 f1
      subst e1
      refine ⟨(nI (i + 1), upI J 127 i 0), ?_, rfl, fun i' hi' => ?_, f1.trans (fr.up rfl)⟩
      · show f_X11_layAll_b21 N (nI n) (nI i) J = _
        unfold f_X11_layAll_b21
        rw [if_pos ((nI_ltI (by omega) (by omega)).mpr hi), if_pos (inb_nI (by omega) (by decide)), nI_clamp (by omega), nI_1]
        rfl
      · show upI J 127 i 0 127 i' = 0
        rw [upI_at]
        by_cases z : i' = i
        · rw [if_pos z]
        · rw [if_neg z]; exact w1 i' (by omega)
    · rintro ⟨c, J⟩ ⟨e1, w1, f1⟩
      simp only at e1 w1 f1
      subst e1
      refine ⟨J, ?_, w1, f1⟩
      show f_X11_layAll_b21 N (nI n) (nI n) J = _
      unfold f_X11_layAll_b21
      rw [if_neg (nI_le0 (by omega) (Nat.le_refl _))]
  rw [bnd1_some a1]
  have find : ∀ (l : List Nat) (J : MI) (i : Nat), (∀ x, x < n → J 127 x = nI (l.getD x 0)) → (∀ x, x < n → l.getD x 0 ≤ n) → (∀ x, i ≤ x → x < n → n ≤ l.getD x 0) → i ≤ n → (i = 0 ∨ l.getD (i - 1) 0 < n) → f_X11_layAll_l54 N (nI n) (nI n - 1) J = some (nI i - 1) := fun l J i hJ hle h1 h2 h3 => by
    have key := loop_inv (f := fun s : Int32 => f_X11_layAll_b54 N (nI n) s J) (fun d s => s = nI (n - d) - 1) (fun r => r = nI i - 1) (n - i) ?_ ?_ N 0 (nI n - 1) (Nat.zero_le _) (by omega) rfl
    · obtain ⟨r, e, rfl⟩ := key
      exact e
    · rintro d s hd rfl
      refine ⟨nI (n - (d + 1)) - 1, ?_, rfl⟩
      show f_X11_layAll_b54 N (nI n) (nI (n - d) - 1) J = _
      unfold f_X11_layAll_b54
      have := h1 (n - d - 1) (by omega) (by omega)
      have hl' := hle (n - d - 1) (by omega)
      rw [dn1 (show 1 ≤ n - d by omega), dn2 (show 1 ≤ n - d by omega), if_neg (nI_pos (by omega)), if_pos (inb_nI (by omega) (by decide)), nI_clamp (by omega), hJ _ (by omega), if_pos (by rw [show l.getD (n - d - 1) 0 = n by omega]), show n - d - 1 = n - (d + 1) by omega]
    · rintro s rfl
      refine ⟨nI i - 1, ?_, rfl⟩
      show f_X11_layAll_b54 N (nI n) (nI (n - (n - i)) - 1) J = _
      rw [show n - (n - i) = i by omega]
      unfold f_X11_layAll_b54
      rcases h3 with h3 | h3
      · rw [h3, if_pos (by decide)]
      · by_cases z : i = 0
        · rw [z, if_pos (by decide)]
        · rw [dn2 (by omega), if_neg (nI_pos (by omega)), if_pos (inb_nI (by omega) (by decide)), nI_clamp (by omega), hJ _ (by omega), if_neg (by rw [nI_eq (by omega) (by omega)]; omega)]
  have put : ∀ (J : MI) (s0 : Int32) (v i : Nat), i ≤ n → ∃ J', f_X11_layAll_l101 N (nI n) s0 (nI v) (nI i) J = some J' ∧ (∀ j, j < n → J' 127 j = if j < i then J 127 j else nI v) ∧ fr (fun b j => b = 127) J J' := fun J s0 v i hi => by
    refine loop_inv (f := fun s : Int32 × MI => f_X11_layAll_b101 N (nI n) s0 (nI v) s.1 s.2) (fun d st => st.1 = nI (i + d) ∧ (∀ j, j < n → st.2 127 j = if j < i ∨ i + d ≤ j then J 127 j else nI v) ∧ fr (fun b j => b = 127) J st.2) _ (n - i) ?_ ?_ N 0 (nI i, J) (Nat.zero_le _) (by omega) ⟨rfl, fun j hj => by rw [if_pos (by omega)], fr.rfl⟩
    · rintro d ⟨x, J1⟩ hd ⟨e1, w1, f1⟩
      simp only at e1 w1 f1
      subst e1
      refine ⟨(nI (i + (d + 1)), upI J1 127 (i + d) (nI v)), ?_, rfl, fun j hj => ?_, f1.trans (fr.up rfl)⟩
      · show f_X11_layAll_b101 N (nI n) s0 (nI v) (nI (i + d)) J1 = _
        unfold f_X11_layAll_b101
        rw [if_pos ((nI_ltI (by omega) (by omega)).mpr (by omega)), if_pos (inb_nI (by omega) (by decide)), nI_clamp (by omega), nI_1]
        rfl
      · show upI J1 127 (i + d) (nI v) 127 j = _
        rw [upI_at]
        by_cases z : j = i + d
        · rw [if_pos z, if_neg (by omega)]
        · rw [if_neg z, w1 j hj]
          have : (j < i ∨ i + d ≤ j) ↔ (j < i ∨ i + (d + 1) ≤ j) := by omega
          simp only [this]
    · rintro ⟨x, J1⟩ ⟨e1, w1, f1⟩
      simp only at e1 w1 f1
      subst e1
      refine ⟨J1, ?_, fun j hj => ?_, f1⟩
      · show f_X11_layAll_b101 N (nI n) s0 (nI v) (nI (i + (n - i))) J1 = _
        unfold f_X11_layAll_b101
        rw [if_neg (nI_le0 (by omega) (by omega))]
      · rw [w1 j hj]
        have : (j < i ∨ i + (n - i) ≤ j) ↔ j < i := by omega
        simp only [this]
  have key := loop_inv (f := fun s : Int32 × MI => f_X11_layAll_b41 N (nI n) s.1 s.2) (fun m st => (m < sz n → st.1 = 1 ∧ ∀ i, i < n → st.2 127 i = nI (hh n m i)) ∧ (m = sz n → st.1 = 0) ∧ st.2 99 38 = nI m ∧ st.2 99 39 = nI n ∧ (∀ j, j < m → TAj n j st.2) ∧ fr fA I st.2) (fun J => J 99 39 = nI n ∧ TA n J ∧ fr fA I J) (sz n) ?_ ?_ N 0 (1, I1) (Nat.zero_le _) (by omega) ⟨fun _ => ⟨rfl, fun i hi => ?_⟩, fun h => by omega, ?_, ?_, fun j hj => absurd hj (by omega), f0.trans (a3.mono (fun b j h => Or.inl h))⟩
  · obtain ⟨J, e, p1, p2, p3⟩ := key
    refine ⟨J, ?_, p1, p2, p3⟩
    unfold f_X11_layAll_l41
    exact bnd1_some e
  · rintro m ⟨x, J⟩ hm ⟨g1, g2, g3, g4, g5, f1⟩
    simp only at g1 g2 g3 g4 g5 f1
    obtain ⟨ex, g1'⟩ := g1 hm
    subst ex
    replace g1 := g1'
    obtain ⟨r1, r2, r3⟩ := row_ok n1 n6 hm
    obtain ⟨J1, b1, b2, b3, b4⟩ := oneM (N := N) n1 n6 hm g3 g1 (by omega)
    have row1 : ∀ i, i < n → J1 127 i = nI ((rws n m).getD i 0) := fun i hi => by rw [b4 _ _ (by omega)]; exact g1 i hi
    have tab1 : ∀ j, j < m + 1 → TAj n j J1 := fun j hj => by
      by_cases z : j = m
      · rw [z]; exact b2
      · have t := g5 j (by omega)
        exact ⟨fun i hi => by rw [b4 _ _ (by omega)]; exact t.1 i hi, fun k hk => by rw [b4 _ _ (by omega)]; exact t.2 k hk⟩
    have f1' : fr fA I J1 := f1.trans (b4.mono (fun b x h => by unfold fA depA; omega))
    have g4' : J1 99 39 = nI n := by rw [b4 _ _ (by omega)]; exact g4
    show ∃ s', f_X11_layAll_b41 N (nI n) 1 J = _ ∧ _
    unfold f_X11_layAll_b41
    rw [if_neg (by decide), bnd1_some b1]
    unfold f_X11_layAll_b41_j74 f_X11_layAll_b41_j83
    rcases nx_spec (n := n) (l := rws n m) with ⟨e, h⟩ | ⟨i, l', i1, i2, i3, e, i4, i5⟩
    · have last : m + 1 = sz n := by
        by_cases z : m + 1 < sz n
        · rw [row_next n1 n6 z] at e; exact absurd e (by simp)
        · omega
      have e0 : nI 0 - 1 < 0 := by decide
      rw [bnd1_some (find (rws n m) J1 0 row1 r2 (fun x _ hx => h x (by omega)) (by omega) (Or.inl rfl)), if_pos e0, if_pos rfl]
      exact ⟨_, rfl, fun hlt => by omega, fun _ => rfl, b3, g4', tab1, f1'⟩
    · have more : m + 1 < sz n := by
        apply Nat.lt_of_not_le
        intro z
        have := row_last n1 n6
        rw [show sz n - 1 = m by omega, e] at this
        exact absurd this (by simp)
      have enx := row_next n1 n6 more
      rw [e] at enx
      have el := Option.some.inj enx
      obtain ⟨J2, p1, p2, p3⟩ := put J1 1 ((rws n m).getD i 0 + 1) i (by omega)
      have e1 : nI (i + 1) - 1 = nI i := by rw [dn2 (by omega), Nat.add_sub_cancel]
      have fi := find (rws n m) J1 (i + 1) row1 r2 (fun x h1 h2 => i3 x (by omega) (by omega)) (by omega) (Or.inr (by rw [Nat.add_sub_cancel]; exact i2))
      rw [e1] at fi
      rw [bnd1_some fi, if_neg (nI_pos (by omega)), if_neg (by decide), if_pos (inb_nI (by omega) (by decide)), nI_clamp (by omega), row1 i (by omega), nI_1]
      simp only [letv]
      rw [bnd1_some p1]
      refine ⟨_, rfl, fun _ => ⟨rfl, fun x hx => ?_⟩, fun h => by omega, ?_, ?_, fun j hj => ?_, f1'.trans (p3.mono (fun b x h => Or.inl h))⟩
      · show J2 127 x = _
        rw [p2 x hx]
        unfold hh
        rw [← el, i5 x (by omega)]
        by_cases z : x < i
        · rw [if_pos z, if_pos z]; exact row1 x hx
        · rw [if_neg z, if_neg z]
      · show J2 99 38 = _
        rw [p3 _ _ (by omega)]; exact b3
      · show J2 99 39 = _
        rw [p3 _ _ (by omega)]; exact g4'
      · have t := tab1 j hj
        exact ⟨fun i hi => by show J2 132 _ = _; rw [p3 _ _ (by omega)]; exact t.1 i hi, fun k hk => by show J2 133 _ = _; rw [p3 _ _ (by omega)]; exact t.2 k hk⟩
  · rintro ⟨x, J⟩ ⟨g1, g2, g3, g4, g5, f1⟩
    simp only at g1 g2 g3 g4 g5 f1
    have := g2 trivial
    subst this
    refine ⟨J, ?_, g4, ⟨g3, g5⟩, f1⟩
    show f_X11_layAll_b41 N (nI n) 0 J = _
    unfold f_X11_layAll_b41
    rw [if_pos rfl]
  · show I1 127 i = nI ((List.replicate n 0).getD i 0)
    rw [a2 i hi, List.getD_eq_getElem?_getD, List.getElem?_replicate, if_pos hi]
    exact nl0
  · show I1 99 38 = _
    rw [a3 _ _ (by omega)]; exact c0
  · show I1 99 39 = _
    rw [a3 _ _ (by omega)]; exact c1
end LA
/-- the table has been laid anew -/
theorem inv_all {X : MX} {I I' : MI} {L : ML} {n : Nat} (hI : Inv0 PL0 PA0 X I L) (m2 : fr (fun b j => scr b j ∨ fA b j) I I') (n1 : 1 ≤ n) (n6 : n ≤ 6) (h1 : I' 99 39 = nI n) (h2 : TA n I') : Inv0 PL0 PA0 X I' L := by
  obtain ⟨h10, h11, hG, hW, hWi, hS, hSi, hB, hBi, hT, hTi, hN, hNi, hC, hX, hP, hR, hL, hA⟩ := hI
  have h' : frL (fun _ _ => False) L L := frL.rfl
  refine ⟨h10, h11, pG_fr m2 (fun b j s => ?_) hG, pW_fr m2 (fun b j s => ?_) hW, pWi_fr m2 (fun b j s => ?_) hWi, hS, pSi_fr m2 (fun b j s => ?_) h' (fun b j s => s.elim) hSi, pB_fr m2 (fun b j s => ?_) hB, pBi_fr m2 (fun b j s => ?_) hBi, pT_fr m2 (fun b j s => ?_) hT, pTi_fr m2 (fun b j s => ?_) hTi, pN_fr m2 (fun b j s => ?_) hN, pNi_fr m2 (fun b j s => ?_) hNi, pC_fr m2 (fun b j s => ?_) hC, pX_fr m2 (fun b j s => ?_) hX, pP_fr m2 (fun b j s => ?_) hP, pR_fr m2 (fun b j s => ?_) h' (fun b j s => s.elim) hR, frPL0 X I I' L L (fun b j q => m2 b j ?_) (fun b j q => rfl) hL, Or.inr ⟨n, n1, n6, h1, h2⟩⟩
  all_goals first
    | (unfold scr fA depA at s; unfold depG; omega) | (unfold scr fA depA at s; unfold depW; omega) | (unfold scr fA depA at s; unfold depWi; omega) | (unfold scr fA depA at s; unfold depI; omega)
    | (unfold scr fA depA at s; unfold depB; omega) | (unfold scr fA depA at s; unfold depBi; omega) | (unfold scr fA depA at s; unfold depT; omega) | (unfold scr fA depA at s; unfold depTi; omega) | (unfold scr fA depA at s; unfold depN; omega) | (unfold scr fA depA at s; unfold depNi; omega)
    | (unfold scr fA depA at s; unfold depC; omega) | (unfold scr fA depA at s; unfold depX; omega) | (unfold scr fA depA at s; unfold depP; omega) | (unfold scr fA depA at s; unfold depR; omega)
    | (unfold scr fA depA; omega)
