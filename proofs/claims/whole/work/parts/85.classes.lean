/-! ===== classes ===== -/
theorem difI {a b : Nat} (ha : a < 8192) (hb : b < 8192) : (nI a - nI b = 0 ↔ a = b) ∧ (nI a - nI b < 0 ↔ a < b) ∧ (0 < nI a - nI b ↔ b < a) := by
  have e : (nI a - nI b).toInt = (a : Int) - b := by
    rw [Int32.toInt_sub, nI_toInt (by omega), nI_toInt (by omega), Int.bmod_eq_of_le (by omega) (by omega)]
  refine ⟨?_, ?_, ?_⟩
  · rw [← Int32.toInt_inj, e]
    show (a : Int) - b = 0 ↔ _
    omega
  · rw [Int32.lt_iff_toInt_lt, e]
    show (a : Int) - b < 0 ↔ _
    omega
  · rw [Int32.lt_iff_toInt_lt, e]
    show (0 : Int) < a - b ↔ _
    omega
section CL
variable {N n : Nat} {K : MI}
theorem cN_small (n1 : 1 ≤ n) (n6 : n ≤ 6) {j k : Nat} (hj : j < sz n) (hk : k < 7) : cN (hh n j) n k < 8192 := by
  have := cN_le (n := n) (row_ok n1 n6 hj).2.1 (k := k) (Nat.le_refl n)
  have := gg_small n (by omega) k hk
  omega
theorem cmpM {a b : Nat} (n1 : 1 ≤ n) (n6 : n ≤ 6) (ha : a < sz n) (hb : b < sz n) (ht : TA n K) (hN : 20 ≤ N) : ∃ x, f_X11_compared N (nI a) (nI b) K = some x ∧ ((x = 0 ∧ ky n a = ky n b) ∨ (x < 0 ∧ ky n a < ky n b) ∨ (0 < x ∧ ky n b < ky n a)) := by
  have s9 := sz_le n (by omega)
  obtain ⟨z, e, h⟩ := loop_inv2 (f := fun s : Int32 => f_X11_compared_b2 N (nI a) (nI b) s K) (fun d s => s = nI (d + 1) ∧ ∀ i, 1 ≤ i → i < d + 1 → cN (hh n a) n i = cN (hh n b) n i) (fun z => (z = .inl () ∧ ky n a = ky n b) ∨ ∃ x, z = .inr x ∧ ((x < 0 ∧ ky n a < ky n b) ∨ (0 < x ∧ ky n b < ky n a))) 6 (by
    rintro d s hd ⟨rfl, H⟩
    show (∃ s', f_X11_compared_b2 N (nI a) (nI b) (nI (d + 1)) K = _ ∧ _) ∨ (∃ z, f_X11_compared_b2 N (nI a) (nI b) (nI (d + 1)) K = _ ∧ _)
    unfold f_X11_compared_b2
    by_cases q : d + 1 < 7
    · obtain ⟨d1, d2, d3⟩ := difI (cN_small n1 n6 ha q) (cN_small n1 n6 hb q)
      rw [if_pos (by rw [nl7]; exact (nI_ltI (by omega) (by omega)).mpr q), m7, m7, if_pos (inb_nI (by omega) (by decide)), if_pos (inb_nI (by omega) (by decide)), nI_clamp (by omega), nI_clamp (by omega), (ht.2 a ha).2 _ q, (ht.2 b hb).2 _ q]
      simp only [letv]
      by_cases y : cN (hh n a) n (d + 1) = cN (hh n b) n (d + 1)
      · left
        rw [if_pos (d1.mpr y)]
        refine ⟨_, rfl, ⟨nI_1 _, fun i i1 i2 => ?_⟩, by omega⟩
        by_cases v : i = d + 1
        · rw [v]; exact y
        · exact H i i1 (by omega)
      · right
        rw [if_neg (fun w => y (d1.mp w))]
        refine ⟨_, rfl, Or.inr ⟨_, rfl, ?_⟩⟩
        rcases Nat.lt_or_gt_of_ne y with v | v
        · left
          exact ⟨d2.mpr v, K6_lex (row_okK n1 n6 ha) (row_okK n1 n6 hb) (by omega) q H v⟩
        · right
          exact ⟨d3.mpr v, K6_lex (row_okK n1 n6 hb) (row_okK n1 n6 ha) (by omega) q (fun i i1 i2 => (H i i1 i2).symm) v⟩
    · right
      rw [if_neg (by rw [nl7]; exact nI_le0 (by omega) (by omega))]
      refine ⟨_, rfl, Or.inl ⟨rfl, ?_⟩⟩
      unfold ky K6
      rw [H 1 (by omega) (by omega), H 2 (by omega) (by omega), H 3 (by omega) (by omega), H 4 (by omega) (by omega), H 5 (by omega) (by omega), H 6 (by omega) (by omega)]) N 0 1 (Nat.zero_le _) (by omega) ⟨nl1, fun i i1 i2 => by omega⟩
  unfold f_X11_compared f_X11_compared_l2
  rcases h with ⟨rfl, h⟩ | ⟨x, rfl, h⟩
  · exact ⟨0, bns1_inl e, Or.inl ⟨rfl, h⟩⟩
  · exact ⟨x, bns1_inr e, Or.inr h⟩
theorem notneg {x : Int32} (h : 0 < x) : ¬ x < 0 := by
  rw [Int32.lt_iff_toInt_lt] at h ⊢
  have a0 : (0 : Int32).toInt = 0 := by decide
  omega
theorem nextM {t : Nat} {v : Int32} (n1 : 1 ≤ n) (n6 : n ≤ 6) (ht : TA n K) (hv : (v = -1 ∧ t = 0) ∨ ∃ a, a < sz n ∧ v = nI a ∧ t = ky n a + 1) (hN : 1000 ≤ N) : ∃ x, f_X11_nextClass N v K = some x ∧ ((x = -1 ∧ ∀ j, j < sz n → ky n j < t) ∨ ∃ b, b < sz n ∧ x = nI b ∧ t ≤ ky n b ∧ ∀ j, j < sz n → t ≤ ky n j → ky n b ≤ ky n j ∧ (ky n j = ky n b → b ≤ j)) := by
  have s9 := sz_le n (by omega)
  obtain ⟨x, e, h⟩ := loop_inv (f := fun s : Int32 × Int32 => f_X11_nextClass_b4 N v s.1 s.2 K) (fun j st => st.2 = nI j ∧ ((st.1 = -1 ∧ ∀ i, i < j → ky n i < t) ∨ ∃ b, b < j ∧ st.1 = nI b ∧ t ≤ ky n b ∧ ∀ i, i < j → t ≤ ky n i → ky n b ≤ ky n i ∧ (ky n i = ky n b → b ≤ i))) (fun x => (x = -1 ∧ ∀ j, j < sz n → ky n j < t) ∨ ∃ b, b < sz n ∧ x = nI b ∧ t ≤ ky n b ∧ ∀ j, j < sz n → t ≤ ky n j → ky n b ≤ ky n j ∧ (ky n j = ky n b → b ≤ j)) (sz n) (by
    rintro j ⟨y, z⟩ hj ⟨e1, h⟩
    simp only at e1 h
    subst e1
    show ∃ s', f_X11_nextClass_b4 N v y (nI j) K = _ ∧ _
    have main : ∃ s0 : Int32, f_X11_nextClass_b4 N v y (nI j) K = f_X11_nextClass_b4_j30 N v y (nI j) s0 K ∧ ((s0 = 1 ∧ t ≤ ky n j) ∨ (s0 = 0 ∧ ky n j < t)) := by
      unfold f_X11_nextClass_b4 f_X11_nextClass_b4_j25
      rw [ht.1, if_pos ((nI_ltI (by omega) (by omega)).mpr hj)]
      rcases hv with ⟨rfl, rfl⟩ | ⟨a, ha, rfl, rfl⟩
      · rw [if_pos (by decide)]
        exact ⟨1, rfl, Or.inl ⟨rfl, Nat.zero_le _⟩⟩
      · obtain ⟨x, c1, c2⟩ := cmpM (N := N) n1 n6 hj ha ht (by omega)
        rw [if_neg (nI_pos (by omega)), bnd1_some c1]
        rcases c2 with ⟨rfl, c2⟩ | ⟨x1, c2⟩ | ⟨x1, c2⟩
        · rw [if_neg (by decide)]
          exact ⟨0, rfl, Or.inr ⟨rfl, by omega⟩⟩
        · rw [if_neg (fun h => notneg h x1)]
          exact ⟨0, rfl, Or.inr ⟨rfl, by omega⟩⟩
        · rw [if_pos x1]
          exact ⟨1, rfl, Or.inl ⟨rfl, by omega⟩⟩
    obtain ⟨s0, m1, m2⟩ := main
    rw [m1]
    unfold f_X11_nextClass_b4_j30
    rcases m2 with ⟨rfl, hk⟩ | ⟨rfl, hk⟩
    · rw [if_neg (by decide)]
      rcases h with ⟨rfl, h⟩ | ⟨b, b1, rfl, b2, b3⟩
      · rw [if_pos (by decide)]
        refine ⟨_, rfl, nI_1 _, Or.inr ⟨j, by omega, rfl, hk, fun i hi ht' => ?_⟩⟩
        by_cases u : i = j
        · rw [u]; exact ⟨Nat.le_refl _, fun _ => Nat.le_refl _⟩
        · have := h i (by omega); omega
      · obtain ⟨x, c1, c2⟩ := cmpM (N := N) n1 n6 hj (show b < sz n by omega) ht (by omega)
        rw [if_neg (nI_pos (by omega)), bnd1_some c1]
        have keep : ¬ x < 0 → ky n b ≤ ky n j → ∃ s', (if x < 0 then some (Sum.inl (nI j, nI j + 1)) else some (Sum.inl (nI b, nI j + 1)) : Option ((Int32 × Int32) ⊕ Int32)) = some (Sum.inl s') ∧ (s'.2 = nI (j + 1) ∧ ((s'.1 = -1 ∧ ∀ i, i < j + 1 → ky n i < t) ∨ ∃ b, b < j + 1 ∧ s'.1 = nI b ∧ t ≤ ky n b ∧ ∀ i, i < j + 1 → t ≤ ky n i → ky n b ≤ ky n i ∧ (ky n i = ky n b → b ≤ i))) := fun h1 h2 => by
          rw [if_neg h1]
          refine ⟨_, rfl, nI_1 _, Or.inr ⟨b, by omega, rfl, b2, fun i hi ht' => ?_⟩⟩
          by_cases u : i = j
          · rw [u]; exact ⟨h2, fun _ => by omega⟩
          · exact b3 i (by omega) ht'
        rcases c2 with ⟨rfl, c2⟩ | ⟨x1, c2⟩ | ⟨x1, c2⟩
        · exact keep (by decide) (by omega)
        · rw [if_pos x1]
          refine ⟨_, rfl, nI_1 _, Or.inr ⟨j, by omega, rfl, hk, fun i hi ht' => ?_⟩⟩
          by_cases u : i = j
          · rw [u]; exact ⟨Nat.le_refl _, fun _ => Nat.le_refl _⟩
          · have := (b3 i (by omega) ht').1
            exact ⟨by omega, fun e => by omega⟩
        · exact keep (notneg x1) (by omega)
    · rw [if_pos rfl]
      refine ⟨_, rfl, nI_1 _, ?_⟩
      rcases h with ⟨rfl, h⟩ | ⟨b, b1, rfl, b2, b3⟩
      · left
        refine ⟨rfl, fun i hi => ?_⟩
        by_cases u : i = j
        · rw [u]; exact hk
        · exact h i (by omega)
      · right
        refine ⟨b, by omega, rfl, b2, fun i hi ht' => ?_⟩
        by_cases u : i = j
        · rw [u] at ht'; omega
        · exact b3 i (by omega) ht') (by
    rintro ⟨y, z⟩ ⟨e1, h⟩
    simp only at e1 h
    subst e1
    refine ⟨y, ?_, h⟩
    show f_X11_nextClass_b4 N v y (nI (sz n)) K = _
    unfold f_X11_nextClass_b4
    rw [ht.1, if_neg (nI_le0 (by omega) (Nat.le_refl _))]) N 0 (-1, 0) (Nat.zero_le _) (by omega) ⟨nl0, Or.inl ⟨rfl, fun i hi => by omega⟩⟩
  refine ⟨x, ?_, h⟩
  unfold f_X11_nextClass f_X11_nextClass_l4
  exact bnd1_some e
def cd (P : Nat) (pf : Nat → Nat) (p : Nat) : Int32 := if p < P then nI (pf p) else -1
theorem nextP {P p : Nat} {pk pf : Nat → Nat} {v : Int32} (n1 : 1 ≤ n) (n6 : n ≤ 6) (ht : TA n K) (hp : PT n (sz n) P pk pf) (hv : (v = -1 ∧ p = 0) ∨ ∃ p', p' < P ∧ v = nI (pf p') ∧ p = p' + 1) (hN : 1000 ≤ N) : f_X11_nextClass N v K = some (cd P pf p) := by
  obtain ⟨p1, p2, p3, p4⟩ := hp
  obtain ⟨t, h1, h2⟩ : ∃ t, ((v = -1 ∧ t = 0) ∨ ∃ a, a < sz n ∧ v = nI a ∧ t = ky n a + 1) ∧ ((p = 0 ∧ t = 0) ∨ ∃ p', p' < P ∧ p = p' + 1 ∧ t = pk p' + 1) := by
    rcases hv with ⟨h, h'⟩ | ⟨p', a, b, c⟩
    · exact ⟨0, Or.inl ⟨h, rfl⟩, Or.inl ⟨h', rfl⟩⟩
    · exact ⟨pk p' + 1, Or.inr ⟨pf p', (p3 p' a).1, b, by rw [(p3 p' a).2.1]⟩, Or.inr ⟨p', a, c, rfl⟩⟩
  have up : ∀ s, s < P → t ≤ pk s → p ≤ s := fun s hs h => by
    rcases h2 with ⟨a, b⟩ | ⟨p', a, b, c⟩
    · omega
    · apply Nat.le_of_not_lt
      intro w
      by_cases u : s = p'
      · rw [u] at h; omega
      · have := p2 s p' (by omega) a; omega
  obtain ⟨x, e, h⟩ := nextM (N := N) n1 n6 ht h1 hN
  rw [e]
  unfold cd
  rcases h with ⟨rfl, h⟩ | ⟨b, b1, rfl, b2, b3⟩
  · by_cases u : p < P
    · exfalso
      have := h (pf p) (p3 p u).1
      rw [(p3 p u).2.1] at this
      rcases h2 with ⟨a, b⟩ | ⟨p', a, b, c⟩
      · omega
      · have := p2 p' p (by omega) u; omega
    · rw [if_neg u]
  · obtain ⟨s, s1, s2⟩ := p4 b b1
    have ps := up s s1 (by omega)
    have u : p < P := by omega
    rw [if_pos u]
    have tp : t ≤ ky n (pf p) := by
      rw [(p3 p u).2.1]
      rcases h2 with ⟨a, b⟩ | ⟨p', a, b, c⟩
      · omega
      · have := p2 p' p (by omega) u; omega
    have b4 := b3 (pf p) (p3 p u).1 tp
    have se : s = p := by
      rcases Nat.lt_or_ge p s with w | w
      · have := p2 p s w s1
        have e2 := (p3 p u).2.1
        omega
      · omega
    subst se
    have kb : ky n b = pk s := s2.symm
    have le1 : b ≤ pf s := b4.2 (by rw [(p3 s u).2.1, kb])
    have le2 : pf s ≤ b := Nat.le_of_not_lt (fun w => (p3 s u).2.2 b w kb)
    rw [show b = pf s by omega]
theorem partM2 {a : Nat} (n1 : 1 ≤ n) (n6 : n ≤ 6) (ha : a < sz n) (ht : TA n K) (hN : 1000 ≤ N) : f_X11_partOf N (nI a) K = some (nI (cntK n (sz n) (ky n a))) := by
  have s9 := sz_le n (by omega)
  obtain ⟨x, e, rfl⟩ := loop_inv (f := fun s : Int32 × Int32 => f_X11_partOf_b4 N (nI a) s.1 s.2 K) (fun j st => st.1 = nI (cntK n j (ky n a)) ∧ st.2 = nI j) (fun x => x = nI (cntK n (sz n) (ky n a))) (sz n) (by
    rintro j ⟨y, z⟩ hj ⟨e1, e2⟩
    simp only at e1 e2
    subst e1; subst e2
    show ∃ s', f_X11_partOf_b4 N (nI a) (nI (cntK n j (ky n a))) (nI j) K = _ ∧ _
    obtain ⟨x, c1, c2⟩ := cmpM (N := N) n1 n6 ha hj ht (by omega)
    unfold f_X11_partOf_b4
    rw [ht.1, if_pos ((nI_ltI (by omega) (by omega)).mpr hj), bnd1_some c1]
    by_cases q : ky n a = ky n j
    · have : x = 0 := by
        rcases c2 with ⟨h, _⟩ | ⟨_, h⟩ | ⟨_, h⟩
        · exact h
        · omega
        · omega
      rw [if_pos this]
      refine ⟨_, rfl, ?_, nI_1 _⟩
      show nI (cntK n j (ky n a)) + 1 = _
      rw [cntK_s, if_pos q.symm, nI_1]
    · have : ¬ x = 0 := by
        rcases c2 with ⟨_, h⟩ | ⟨h, _⟩ | ⟨h, _⟩
        · exact absurd h q
        · intro w; rw [w] at h; exact absurd h (by decide)
        · intro w; rw [w] at h; exact absurd h (by decide)
      rw [if_neg this]
      refine ⟨_, rfl, ?_, nI_1 _⟩
      show nI (cntK n j (ky n a)) + 0 = _
      rw [cntK_s, if_neg (fun w => q w.symm), Int32.add_zero, Nat.add_zero]) (by
    rintro ⟨y, z⟩ ⟨e1, e2⟩
    simp only at e1 e2
    subst e1; subst e2
    refine ⟨_, ?_, rfl⟩
    show f_X11_partOf_b4 N (nI a) (nI (cntK n (sz n) (ky n a))) (nI (sz n)) K = _
    unfold f_X11_partOf_b4
    rw [ht.1, if_neg (nI_le0 (by omega) (Nat.le_refl _))]) N 0 (0, 0) (Nat.zero_le _) (by omega) ⟨nl0, nl0⟩
  unfold f_X11_partOf f_X11_partOf_l4
  exact bnd1_some e
def mx (z : Nat → Nat) : Nat → Nat
  | 0 => 0
  | p + 1 => if mx z p < z p then z p else mx z p
theorem mx_le {z : Nat → Nat} {b : Nat} (h : ∀ p, z p ≤ b) : ∀ p, mx z p ≤ b
  | 0 => Nat.zero_le _
  | p + 1 => by
    rw [mx]
    have := mx_le h p
    have := h p
    split <;> omega
theorem greatC {q P : Nat} {I : MI} {z : Nat → Nat} (hP : I q 3 = nI P) (hPs : P ≤ sz n) (n6 : n ≤ 6) (hz : ∀ p, p < P → I (q + 4) p = nI (z p)) (hb : ∀ p, z p ≤ 924) (hN : 1000 ≤ N) : f_X2_greatestPart N q (sz n) I = some (nI (mx z P)) := by
  have s9 := sz_le n (by omega)
  obtain ⟨x, e, rfl⟩ := loop_inv (f := fun s : Int32 × Int32 => f_X2_greatestPart_b4 N q (sz n) s.1 s.2 I) (fun p st => st.1 = nI (mx z p) ∧ st.2 = nI p) (fun x => x = nI (mx z P)) P (by
    rintro p ⟨y, w⟩ hp ⟨e1, e2⟩
    simp only at e1 e2
    subst e1; subst e2
    refine ⟨(nI (mx z (p + 1)), nI (p + 1)), ?_, rfl, rfl⟩
    show f_X2_greatestPart_b4 N q (sz n) (nI (mx z p)) (nI p) I = _
    have m1 := mx_le hb p
    have m2 := hb p
    unfold f_X2_greatestPart_b4
    rw [hP, if_pos ((nI_ltI (by omega) (by omega)).mpr hp), if_pos (inb_nI (by omega) (by omega)), nI_clamp (by omega), hz p hp, nI_1, mx]
    simp only [letv]
    by_cases v : mx z p < z p
    · rw [if_pos v, if_pos ((nI_ltI (by omega) (by omega)).mpr v)]
    · rw [if_neg v, if_neg (nI_le0 (by omega) (by omega))]) (by
    rintro ⟨y, w⟩ ⟨e1, e2⟩
    simp only at e1 e2
    subst e1; subst e2
    refine ⟨_, ?_, rfl⟩
    show f_X2_greatestPart_b4 N q (sz n) (nI (mx z P)) (nI P) I = _
    unfold f_X2_greatestPart_b4
    rw [hP, if_neg (nI_le0 (by omega) (Nat.le_refl _))]) N 0 (0, 0) (Nat.zero_le _) (by omega) ⟨nl0, nl0⟩
  unfold f_X2_greatestPart f_X2_greatestPart_l4
  exact bnd1_some e
theorem allC {P : Nat} {pk pf : Nat → Nat} {v3 : Int32} (n1 : 1 ≤ n) (n6 : n ≤ 6) (ht : TA n K) (hp : PT n (sz n) P pk pf) (hN : 1000 ≤ N) : f_X11_classes_l50 N (-1) v3 (cd P pf 0) 0 0 K = some (.inl (nI P, nI (mx (fun p => cntK n (sz n) (pk p)) P))) := by
  have s9 := sz_le n (by omega)
  have hp' := hp
  obtain ⟨p1, p2, p3, p4⟩ := hp
  have hb : ∀ p, (fun p => cntK n (sz n) (pk p)) p ≤ 924 := fun p => by have := cntK_le (n := n) (m := sz n) (x := pk p); show cntK n (sz n) (pk p) ≤ 924; omega
  obtain ⟨x, e, rfl⟩ := loop_inv (f := fun s : Int32 × Int32 × Int32 => f_X11_classes_b50 N (-1) v3 s.1 s.2.1 s.2.2 K) (fun p st => st = (cd P pf p, nI p, nI (mx (fun p => cntK n (sz n) (pk p)) p))) (fun x => x = .inl (nI P, nI (mx (fun p => cntK n (sz n) (pk p)) P))) P (by
    rintro p st hpP rfl
    refine ⟨_, ?_, rfl⟩
    show f_X11_classes_b50 N (-1) v3 (cd P pf p) (nI p) (nI (mx (fun p => cntK n (sz n) (pk p)) p)) K = _
    obtain ⟨a1, a2, a3⟩ := p3 p hpP
    have nxt := nextP (N := N) (p := p + 1) n1 n6 ht hp' (Or.inr ⟨p, hpP, rfl, rfl⟩) hN
    have m1 := mx_le hb p
    have m2 := hb p
    have cde : cd P pf p = nI (pf p) := if_pos hpP
    have neg : ¬ nI p = (-1 : Int32) := fun h => neg_nI (show p < 2 ^ 31 by omega) h.symm
    have pm := partM2 (N := N) n1 n6 a1 ht hN
    rw [a2] at pm
    unfold f_X11_classes_b50 f_X11_classes_b50_j95
    rw [cde, if_neg (nI_pos (by omega)), if_neg neg, if_pos rfl, bnd1_some pm, bnd1_some nxt, nI_1, mx]
    by_cases v : mx (fun p => cntK n (sz n) (pk p)) p < cntK n (sz n) (pk p)
    · rw [if_pos v, if_pos ((nI_ltI (by omega) (by simp only at m2; omega)).mpr v)]
    · rw [if_neg v, if_neg (nI_le0 (by omega) (by omega)), bnd1_some nxt]) (by
    rintro st rfl
    refine ⟨_, ?_, rfl⟩
    show f_X11_classes_b50 N (-1) v3 (cd P pf P) (nI P) _ K = _
    unfold f_X11_classes_b50
    rw [show cd P pf P = -1 from if_neg (by omega), if_pos (by decide)]) N 0 (cd P pf 0, 0, 0) (Nat.zero_le _) (by omega) (by rw [nl0]; rfl)
  exact e
theorem oneC {P i : Nat} {pk pf : Nat → Nat} {v3 : Int32} (n1 : 1 ≤ n) (n6 : n ≤ 6) (ht : TA n K) (hp : PT n (sz n) P pk pf) (hi31 : i < 2 ^ 31) (hN : 1000 ≤ N) : (i < P ∧ f_X11_classes_l50 N (nI i) v3 (cd P pf 0) 0 0 K = some (.inr (if v3 = 0 then nI (cntK n (sz n) (pk i)) else nI (pf i), K))) ∨ (P ≤ i ∧ ∃ y, f_X11_classes_l50 N (nI i) v3 (cd P pf 0) 0 0 K = some (.inl y)) := by
  have s9 := sz_le n (by omega)
  have hp' := hp
  obtain ⟨p1, p2, p3, p4⟩ := hp
  obtain ⟨x, e, h⟩ := loop_inv2 (f := fun s : Int32 × Int32 × Int32 => f_X11_classes_b50 N (nI i) v3 s.1 s.2.1 s.2.2 K) (fun p st => st = (cd P pf p, nI p, 0) ∧ p ≤ i) (fun x => (i < P ∧ x = .inr (if v3 = 0 then nI (cntK n (sz n) (pk i)) else nI (pf i), K)) ∨ (P ≤ i ∧ ∃ y, x = .inl y)) P (by
    rintro p st hpP ⟨rfl, pi⟩
    show (∃ s', f_X11_classes_b50 N (nI i) v3 (cd P pf p) (nI p) 0 K = _ ∧ _) ∨ (∃ z, f_X11_classes_b50 N (nI i) v3 (cd P pf p) (nI p) 0 K = _ ∧ _)
    unfold f_X11_classes_b50 f_X11_classes_b50_j95
    by_cases u : p < P
    · obtain ⟨a1, a2, a3⟩ := p3 p u
      have nxt := nextP (N := N) (p := p + 1) n1 n6 ht hp' (Or.inr ⟨p, u, rfl, rfl⟩) hN
      have pm := partM2 (N := N) n1 n6 a1 ht hN
      rw [a2] at pm
      rw [show cd P pf p = nI (pf p) from if_pos u, if_neg (nI_pos (by omega))]
      by_cases y : p = i
      · right
        subst y
        rw [if_pos rfl]
        by_cases v : v3 = 0
        · rw [if_pos v, bnd1_some pm]
          exact ⟨_, rfl, Or.inl ⟨u, by rw [if_pos v]⟩⟩
        · rw [if_neg v]
          exact ⟨_, rfl, Or.inl ⟨u, by rw [if_neg v]⟩⟩
      · left
        have ni : ¬ nI i = (-1 : Int32) := fun h => neg_nI hi31 h.symm
        rw [if_neg (by rw [nI_eq (by omega) hi31]; exact y), if_neg ni, if_neg (by decide), bnd1_some nxt, nI_1]
        exact ⟨_, rfl, ⟨rfl, by omega⟩, u⟩
    · right
      rw [show cd P pf p = -1 from if_neg u, if_pos (by decide)]
      exact ⟨_, rfl, Or.inr ⟨by omega, _, rfl⟩⟩) N 0 (cd P pf 0, 0, 0) (Nat.zero_le _) (by omega) ⟨by rw [nl0], Nat.zero_le _⟩
  rcases h with ⟨h, rfl⟩ | ⟨h, y, rfl⟩
  · exact Or.inl ⟨h, e⟩
  · exact Or.inr ⟨h, y, e⟩
theorem s_classes (hN : 1000 ≤ N) : S_classes N (Inv0 PL0 PA0) := by
  intro X I L x1 x2 x3 hI
  rcases (side_cases x1).symm with ⟨e1, e2⟩ | ⟨n, n1, n6, rfl, e1, e2⟩
  · refine ⟨-2, X, I, L, I, ?_, ?_, hI⟩
    · unfold f_X10_classes; rw [bnd1_some e1, if_pos rfl]
    · unfold f_X11_classes; rw [bnd1_some e2, if_pos rfl]
  by_cases h2 : x2 < -1
  · refine ⟨-1, X, I, L, I, ?_, ?_, hI⟩
    · unfold f_X10_classes; rw [bnd1_some e1, if_neg (by decide), if_pos h2]
    · unfold f_X11_classes; rw [bnd1_some e2, if_neg (by decide), if_pos h2]
  rcases rng_cases x3 1 (by decide) (hi := 1) (by decide) with ⟨x, hx, rfl, e3⟩ | ⟨h1, e3⟩
  · have s9 := sz_le n (by omega)
    have cn : Int32.toNatClampNeg (nI n) = n := nI_clamp (by omega)
    have ts : Int32.toNatClampNeg (tabI 3 (Int32.toNatClampNeg (nI n))) = sz n := by rw [cn, tab3n n (by omega), nI_clamp (by omega)]
    obtain ⟨q, X', I', L', a1, a2, a3, a4, inv, ref⟩ := sides (N := N) n1 n6 hI hN
    obtain ⟨K, b1, b2, b3, b4⟩ := ref I' fr.rfl
    obtain ⟨_, _, P, pk, pf, hp, hP, hT⟩ := a2
    have hp' := hp
    obtain ⟨p1, p2, p3, p4⟩ := hp
    have l0 : ¬ nI x < 0 := nI_pos (by omega)
    have l1 : ¬ (1 : Int32) < nI x := by rw [nl1]; exact nI_le0 (by omega) hx
    have n0 := nextP (N := N) (p := 0) n1 n6 b2 hp' (Or.inl ⟨rfl, rfl⟩) hN
    have hcase : x2 = -1 ∨ ∃ i, i < 2 ^ 31 ∧ x2 = nI i := by
      by_cases z : x2 < 0
      · left
        rw [Int32.lt_iff_toInt_lt] at z h2
        have b1 : (-1 : Int32).toInt = -1 := by decide
        have b0 : (0 : Int32).toInt = 0 := by decide
        exact Int32.toInt_inj.mp (by omega)
      · right
        obtain ⟨i, hi, e⟩ := nI_of z
        exact ⟨i, hi, e⟩
    rcases hcase with rfl | ⟨i, hi31, rfl⟩
    · have aC := allC (N := N) (v3 := nI x) n1 n6 b2 hp' hN
      refine ⟨if nI x = 0 then nI P else nI (mx (fun p => cntK n (sz n) (pk p)) P), X', I', L', K, ?_, ?_, b4 K fr.rfl⟩
      · unfold f_X10_classes
        rw [bnd1_some e1, if_neg (by decide), if_neg h2, if_neg l0, if_neg l1, bnd4_some a1, if_pos rfl, hP, ts, bnd1_some (greatC (z := fun p => cntK n (sz n) (pk p)) hP p1 n6 (fun p hp => (hT p hp).2.1) (fun p => by have := cntK_le (n := n) (m := sz n) (x := pk p); omega) hN)]
        split <;> rfl
      · unfold f_X11_classes
        rw [bnd1_some e2, if_neg (by decide), if_neg h2, bnd1_some e3, if_neg (by decide), bnd1_some b1, bnd1_some n0, aC]
        simp only [bns2]
        rw [if_pos (by decide)]
        split <;> rfl
    · have ni : ¬ nI i = (-1 : Int32) := fun h => neg_nI hi31 h.symm
      rcases oneC (N := N) (v3 := nI x) n1 n6 b2 hp' hi31 hN with ⟨c1, c2⟩ | ⟨c1, y, c2⟩
      · refine ⟨if nI x = 0 then nI (cntK n (sz n) (pk i)) else nI (pf i), X', I', L', K, ?_, ?_, b4 K fr.rfl⟩
        · unfold f_X10_classes
          rw [bnd1_some e1, if_neg (by decide), if_neg h2, if_neg l0, if_neg l1, bnd4_some a1, if_neg ni, hP, if_pos ((nI_ltI (by omega) (by omega)).mpr c1), ts, if_pos (inb_nI (by omega) (by omega)), if_pos (inb_nI (by omega) (by omega)), nI_clamp (by omega), (hT i c1).2.1, (hT i c1).2.2]
          split <;> rfl
        · unfold f_X11_classes
          rw [bnd1_some e2, if_neg (by decide), if_neg h2, bnd1_some e3, if_neg (by decide), bnd1_some b1, bnd1_some n0, c2]
          simp only [bns2]
      · refine ⟨-5, X', I', L', K, ?_, ?_, b4 K fr.rfl⟩
        · unfold f_X10_classes
          rw [bnd1_some e1, if_neg (by decide), if_neg h2, if_neg l0, if_neg l1, bnd4_some a1, if_neg ni, hP, if_neg (nI_le0 hi31 c1)]
        · obtain ⟨y1, y2⟩ := y
          unfold f_X11_classes
          rw [bnd1_some e2, if_neg (by decide), if_neg h2, bnd1_some e3, if_neg (by decide), bnd1_some b1, bnd1_some n0, c2]
          simp only [bns2]
          rw [if_neg (nI_pos hi31)]
  · refine ⟨-1, X, I, L, I, ?_, ?_, hI⟩
    · unfold f_X10_classes
      rw [bnd1_some e1, if_neg (by decide), if_neg h2]
      by_cases q : x3 < 0
      · rw [if_pos q]
      · rw [if_neg q, nl1, if_pos (h1.resolve_left q)]
    · unfold f_X11_classes; rw [bnd1_some e2, if_neg (by decide), if_neg h2, bnd1_some e3, if_pos rfl]
end CL
