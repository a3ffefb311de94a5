/-! ===== listed ===== -/
theorem nl37 : (37 : Int32) = nI 37 := by decide +kernel
theorem nl625 : (625 : Int32) = nI 625 := by decide +kernel
def fnd (len : Nat → Nat) : Nat → Nat → Nat → Option (Nat × Nat)
  | 0, _, _ => none
  | m + 1, t, u => if t < len u then some (t, u) else fnd len m (t - len u) (u + 1)
theorem fnd_at {len : Nat → Nat} : ∀ {m t u b v : Nat}, fnd len m t u = some (b, v) → b < len v ∧ v < u + m
  | 0, t, u, b, v, h => by simp [fnd] at h
  | m + 1, t, u, b, v, h => by
    rw [fnd] at h
    split at h
    · rename_i q
      have := Option.some.inj h
      injection this with h1 h2
      subst h1; subst h2
      exact ⟨q, by omega⟩
    · have := fnd_at h
      exact ⟨this.1, by omega⟩
section LS
variable {r W : Nat → Nat} {N n k a : Nat}
def sel (r W : Nat → Nat) (n k u m : Nat) : List Nat := (rg 0 m).filter (fun s => decide (ws r W n k s = nI u))
theorem pow4 : ∀ n, n < 5 → (n + 1) ^ n ≤ 625 := by decide +kernel
theorem ws_cases {s : Nat} (n6 : n ≤ 6) (hW : ∀ p, W p ≤ 9) : (ws r W n k s = -1 ∧ okb r n k 0 (vec (n + 1) n s) 0 = false) ∨ (ws r W n k s = nI (wl n W 0 (vec (n + 1) n s)) ∧ wl n W 0 (vec (n + 1) n s) ≤ 9 * n ∧ okb r n k 0 (vec (n + 1) n s) 0 = true) := by
  have := wl_le (n := n) hW (q := vec (n + 1) n s) (j := 0)
  rw [vec_len] at this
  unfold ws
  cases h : okb r n k 0 (vec (n + 1) n s) 0 with
  | false => left; rw [if_neg (by decide)]; exact ⟨rfl, rfl⟩
  | true => right; rw [if_pos rfl]; exact ⟨rfl, this, rfl⟩
theorem neg_nI {u : Nat} (hu : u < 2 ^ 31) : ¬ (-1 : Int32) = nI u := fun h => by
  have : ¬ nI u < 0 := nI_pos hu
  rw [← h] at this
  exact absurd (by decide) this
theorem weighS {I : MI} (ha : a + 1 < 92) (n1 : 1 ≤ n) (n4 : n ≤ 4) (hk : k < 2 ^ 31) (hrow : ∀ i, i < n → r i < 2 ^ n) (ho : okC r W n a I) (hW : ∀ p, W p ≤ 9) (hN : 1000 ≤ N) : ∃ J, f_X4_weighStands N a 7 36 (nI k) I = some (nI ((n + 1) ^ n), J) ∧ (∀ s, s < (n + 1) ^ n → J 95 s = ws r W n k s) ∧ (∀ u, u < 37 → J 96 u = nI (sel r W n k u ((n + 1) ^ n)).length) ∧ fr (fun b j => b = 95 ∨ b = 96) I J := by
  have p4 := pow4 n (by omega)
  have l6 : f_X4_weighStands_l6 N a 7 36 (nI k) 1 0 I = some (nI ((n + 1) ^ n)) := by
    have key := loop_inv2 (f := fun s : Int32 × Int32 => f_X4_weighStands_b6 N a 7 36 (nI k) s.1 s.2 I) (fun i st => st.1 = nI ((n + 1) ^ i) ∧ st.2 = nI i) (fun q => q = nI ((n + 1) ^ n)) n ?_ N 0 (1, 0) (Nat.zero_le _) (by omega) ⟨nl1, nl0⟩
    · obtain ⟨q, e, rfl⟩ := key
      exact e
    · rintro i ⟨x, y⟩ hi ⟨e1, e2⟩
      simp only at e1 e2
      subst e1; subst e2
      show (∃ s', f_X4_weighStands_b6 N a 7 36 (nI k) (nI ((n + 1) ^ i)) (nI i) I = _ ∧ _) ∨ (∃ q, f_X4_weighStands_b6 N a 7 36 (nI k) (nI ((n + 1) ^ i)) (nI i) I = _ ∧ _)
      unfold f_X4_weighStands_b6
      rw [ho.1.1]
      by_cases z : i < n
      · left
        rw [if_pos ((nI_ltI (by omega) (by omega)).mpr z), if_pos (by rw [nl4]; exact (nI_ltI (by omega) (by omega)).mpr (by omega)), nI_1, nI_mul, nI_1, ← Nat.pow_succ]
        exact ⟨_, rfl, ⟨rfl, rfl⟩, z⟩
      · right
        rw [if_neg (nI_le0 (by omega) (by omega)), show i = n by omega]
        exact ⟨_, rfl, rfl⟩
  obtain ⟨J, c1, c2, c3, c4⟩ : ∃ J, f_X4_weighStands_l49 N a 7 36 (nI k) (nI ((n + 1) ^ n)) 0 (fillI I 96 37 0) = some J ∧ (∀ s, s < (n + 1) ^ n → J 95 s = ws r W n k s) ∧ (∀ u, u < 37 → J 96 u = nI (sel r W n k u ((n + 1) ^ n)).length) ∧ fr (fun b j => b = 95 ∨ b = 96) I J := by
    refine loop_inv (f := fun s : Int32 × MI => f_X4_weighStands_b49 N a 7 36 (nI k) (nI ((n + 1) ^ n)) s.1 s.2) (fun m st => st.1 = nI m ∧ (∀ s, s < m → st.2 95 s = ws r W n k s) ∧ (∀ u, u < 37 → st.2 96 u = nI (sel r W n k u m).length) ∧ fr (fun b j => b = 95 ∨ b = 96) I st.2) _ ((n + 1) ^ n) ?_ ?_ N 0 (0, fillI I 96 37 0) (Nat.zero_le _) (by omega) ⟨nl0, fun s hs => absurd hs (by omega), fun u hu => by show fillI I 96 37 0 96 u = _; unfold fillI; rw [if_pos ⟨rfl, hu⟩]; exact nl0, fun b j h => by show fillI I 96 37 0 b j = _; unfold fillI; rw [if_neg (fun w => h (Or.inr w.1))]⟩
    · rintro m ⟨c, J⟩ hm ⟨e1, w1, w2, f1⟩
      simp only at e1 w1 w2 f1
      subst e1
      have hoJ : okC r W n a J := ⟨BC_fr f1 (fun _ => by omega) (fun _ => by omega) ho.1, fun p hp => by rw [f1 _ _ (by omega)]; exact ho.2 p hp⟩
      have hst := standC (N := N) (k := k) n1 (by omega) hk hrow hoJ hm (by omega) (by omega)
      show ∃ s', f_X4_weighStands_b49 N a 7 36 (nI k) (nI ((n + 1) ^ n)) (nI m) J = _ ∧ _
      unfold f_X4_weighStands_b49
      have selE : ∀ u, sel r W n k u (m + 1) = sel r W n k u m ++ (if ws r W n k m = nI u then [m] else []) := fun u => by
        unfold sel
        rw [rg_end, List.filter_append, Nat.zero_add, List.filter_cons, List.filter_nil]
        by_cases q : ws r W n k m = nI u
        · rw [if_pos q, if_pos (by simpa using q)]
        · rw [if_neg q, if_neg (by simpa using q)]
      have w1' : ∀ (K : MI), (∀ s, K 95 s = upI J 95 m (ws r W n k m) 95 s) → ∀ s, s < m + 1 → K 95 s = ws r W n k s := fun K hK s hs => by
        rw [hK, upI_at]
        by_cases q : s = m
        · rw [if_pos q, q]
        · rw [if_neg q]; exact w1 s (by omega)
      have sl : ∀ u, (sel r W n k u m).length ≤ m := fun u => by
        unfold sel
        refine Nat.le_trans (List.length_filter_le _ _) ?_
        have : ∀ m a, (rg a m).length = m := by
          intro m
          induction m with
          | zero => intro a; rfl
          | succ m ih => intro a; rw [rg, List.length_cons, ih]
        rw [this]; exact Nat.le_refl _
      rw [if_pos ((nI_ltI (by omega) (by omega)).mpr hm), bnd1_some hst, if_pos (inb_nI (by omega) (by decide)), nI_clamp (by omega)]
      simp only [letv]
      rcases ws_cases (r := r) (k := k) (s := m) (show n ≤ 6 by omega) hW with ⟨h1, _⟩ | ⟨h1, h2, _⟩
      · have neg : ws r W n k m < 0 := by rw [h1]; decide
        rw [if_pos neg]
        refine ⟨_, rfl, nI_1 _, w1' _ (fun s => rfl), fun u hu => ?_, f1.trans (fr.up (Or.inl rfl))⟩
        show upI J 95 m (ws r W n k m) 96 u = _
        rw [upI_ne _ _ (by omega), w2 u hu, selE u, if_neg (by rw [h1]; exact neg_nI (by omega)), List.append_nil]
      · have nneg : ¬ ws r W n k m < 0 := by rw [h1]; exact nI_pos (by omega)
        have s2 := sl (wl n W 0 (vec (n + 1) n m))
        have e96 : upI J 95 m (ws r W n k m) 96 (wl n W 0 (vec (n + 1) n m)) = nI (sel r W n k (wl n W 0 (vec (n + 1) n m)) m).length := by rw [upI_ne _ _ (by omega)]; exact w2 _ (by omega)
        rw [if_neg nneg]
        rw [show inb (ws r W n k m) 37 = true by rw [h1]; exact inb_nI (by omega) (by decide), if_pos rfl, if_pos rfl, show Int32.toNatClampNeg (ws r W n k m) = wl n W 0 (vec (n + 1) n m) by rw [h1, nI_clamp (by omega)], e96]
        refine ⟨_, rfl, nI_1 _, w1' _ (fun s => by show upI (upI J 95 m (ws r W n k m)) 96 (wl n W 0 (vec (n + 1) n m)) (nI (sel r W n k (wl n W 0 (vec (n + 1) n m)) m).length + 1) 95 s = _; rw [upI_ne 95 s (Or.inl (by decide))]), fun u hu => ?_, f1.trans ((fr.up (S := fun b j => b = 95 ∨ b = 96) (Or.inl rfl)).trans (fr.up (S := fun b j => b = 95 ∨ b = 96) (Or.inr rfl)))⟩
        show upI (upI J 95 m (ws r W n k m)) 96 (wl n W 0 (vec (n + 1) n m)) (nI (sel r W n k (wl n W 0 (vec (n + 1) n m)) m).length + 1) 96 u = _
        rw [upI_at, selE u]
        by_cases q : u = wl n W 0 (vec (n + 1) n m)
        · rw [if_pos q, if_pos (by rw [h1, q]), List.length_append, q, nI_1]; rfl
        · rw [if_neg q, upI_ne _ _ (by omega), w2 u hu, if_neg (by rw [h1, nI_eq (by omega) (by omega)]; exact fun h => q h.symm), List.append_nil]
    · rintro ⟨c, J⟩ ⟨e1, w1, w2, f1⟩
      simp only at e1 w1 w2 f1
      subst e1
      refine ⟨J, ?_, w1, w2, f1⟩
      show f_X4_weighStands_b49 N a 7 36 (nI k) (nI ((n + 1) ^ n)) (nI ((n + 1) ^ n)) J = _
      unfold f_X4_weighStands_b49
      rw [if_neg (nI_le0 (by omega) (Nat.le_refl _))]
  refine ⟨J, ?_, c2, c3, c4⟩
  unfold f_X4_weighStands
  rw [bnd1_some l6, bnd1_some (fill_I (by omega) (by decide)), bnd1_some c1]
theorem tallyC {J : MI} {S : Int32} {len : Nat → Nat} (hl : ∀ u, u < 37 → J 96 u = nI (len u) ∧ len u ≤ 625) : ∀ (m t u M : Nat), u + m = 37 → t < 2 ^ 31 → m < M → ∃ x y, loopN (fun s : Int32 × Int32 => f_X4_listedStand_b16 N S s.1 s.2 J) M (nI t, nI u) = some (x, y) ∧ ((fnd len m t u = none ∧ y = nI 37) ∨ (∃ b v, fnd len m t u = some (b, v) ∧ x = nI b ∧ y = nI v)) := by
  intro m
  induction m with
  | zero =>
    intro t u M hu ht hM
    obtain ⟨M', rfl⟩ : ∃ M', M = M' + 1 := ⟨M - 1, by omega⟩
    have : u = 37 := by omega
    subst this
    refine ⟨nI t, nI 37, loopN_inr ?_, Or.inl ⟨rfl, rfl⟩⟩
    show f_X4_listedStand_b16 N S (nI t) (nI 37) J = _
    unfold f_X4_listedStand_b16
    rw [if_neg (by decide)]
  | succ m ih =>
    intro t u M hu ht hM
    obtain ⟨M', rfl⟩ : ∃ M', M = M' + 1 := ⟨M - 1, by omega⟩
    obtain ⟨h1, h2⟩ := hl u (by omega)
    have lt : nI u < (37 : Int32) := by rw [nl37]; exact (nI_ltI (by omega) (by omega)).mpr (by omega)
    have iu : inb (nI u) 37 = true := inb_nI (by omega) (by decide)
    rw [fnd]
    by_cases q : t < len u
    · refine ⟨nI t, nI u, loopN_inr ?_, Or.inr ⟨t, u, by rw [if_pos q], rfl, rfl⟩⟩
      show f_X4_listedStand_b16 N S (nI t) (nI u) J = _
      unfold f_X4_listedStand_b16
      rw [if_pos lt, if_pos iu, nI_clamp (by omega), h1, if_pos ((nI_ltI ht (by omega)).mpr q)]
    · have st : f_X4_listedStand_b16 N S (nI t) (nI u) J = some (.inl (nI (t - len u), nI (u + 1))) := by
        unfold f_X4_listedStand_b16
        rw [if_pos lt, if_pos iu, nI_clamp (by omega), h1, if_neg (nI_le0 ht (by omega)), if_pos iu, nI_sub (by omega), nI_1]
        rfl
      rw [if_neg q, loopN_inl (show (fun s : Int32 × Int32 => f_X4_listedStand_b16 N S s.1 s.2 J) (nI t, nI u) = _ from st)]
      exact ih (t - len u) (u + 1) M' (by omega) (by omega) (by omega)
theorem pickC {J : MI} {S u : Nat} {wf : Nat → Int32} (hS : S ≤ 625) (hw : ∀ s, s < S → J 95 s = wf s) : ∀ (m s b M : Nat), s + m = S → b < 2 ^ 31 → m < M → ∀ q, ((rg s m).filter (fun s => decide (wf s = nI u)))[b]? = some q → loopN (fun st : Int32 × Int32 => f_X4_listedStand_b71 N (nI S) (nI u) st.1 st.2 J) M (nI b, nI s) = some (.inr (nI q, J)) := by
  intro m
  induction m with
  | zero => intro s b M _ _ _ q h; simp [rg] at h
  | succ m ih =>
    intro s b M hs hb hM q h
    obtain ⟨M', rfl⟩ : ∃ M', M = M' + 1 := ⟨M - 1, by omega⟩
    rw [rg, List.filter_cons] at h
    have lt := (nI_ltI (show s < 2 ^ 31 by omega) (show S < 2 ^ 31 by omega)).mpr (show s < S by omega)
    have is : inb (nI s) 625 = true := inb_nI (by omega) (by decide)
    have body : f_X4_listedStand_b71 N (nI S) (nI u) (nI b) (nI s) J = (if wf s = nI u then (if nI b = 0 then some (.inr (.inr (nI s, J))) else some (.inl (nI b + (-1), nI (s + 1)))) else some (.inl (nI b, nI (s + 1)))) := by
      unfold f_X4_listedStand_b71
      rw [if_pos lt, if_pos is, nI_clamp (by omega), hw s (by omega), nI_1]
    by_cases z : wf s = nI u
    · rw [if_pos (by simpa using z)] at h
      rw [if_pos z] at body
      by_cases y : b = 0
      · subst y
        rw [if_pos nl0.symm] at body
        have e : s = q := by simpa using h
        subst e
        exact loopN_inr body
      · rw [if_neg (by rw [nl0, nI_eq hb (by omega)]; exact y), dn3 (by omega)] at body
        rw [loopN_inl (show (fun st : Int32 × Int32 => f_X4_listedStand_b71 N (nI S) (nI u) st.1 st.2 J) (nI b, nI s) = _ from body)]
        refine ih (s + 1) (b - 1) M' (by omega) (by omega) (by omega) q ?_
        rw [← h]
        obtain ⟨b', rfl⟩ : ∃ b', b = b' + 1 := ⟨b - 1, by omega⟩
        rfl
    · rw [if_neg (by simpa using z)] at h
      rw [if_neg z] at body
      rw [loopN_inl (show (fun st : Int32 × Int32 => f_X4_listedStand_b71 N (nI S) (nI u) st.1 st.2 J) (nI b, nI s) = _ from body)]
      exact ih (s + 1) b M' (by omega) hb (by omega) q h
theorem digC2 {s x : Nat} (n4 : n ≤ 4) (hx : x < n) (hs : s < 2 ^ 31) (hN : 20 ≤ N) : f_X4_columnInStand N (nI s) (nI n) (nI x) = some (if s / (n + 1) ^ (n - 1 - x) % (n + 1) < n then nI (s / (n + 1) ^ (n - 1 - x) % (n + 1)) else -1) := by
  have nz : ¬ nI n + 1 = 0 := by rw [nI_1, nl0, nI_eq (by omega) (by omega)]; omega
  have key := loop_inv (f := fun st : Int32 × Int32 => f_X4_columnInStand_b7 N (nI n) (nI x) st.1 st.2) (fun p st => st.1 = nI (s / (n + 1) ^ p) ∧ st.2 = nI (n - 1 - p)) (fun q => q = nI (s / (n + 1) ^ (n - 1 - x))) (n - 1 - x) ?_ ?_ N 0 (nI s, nI n - 1) (Nat.zero_le _) (by omega) ⟨by show nI s = _; rw [Nat.pow_zero, Nat.div_one], by show nI n - 1 = _; rw [dn2 (by omega)]; rfl⟩
  · obtain ⟨q, e, rfl⟩ := key
    have dl := Nat.div_le_self s ((n + 1) ^ (n - 1 - x))
    have ml := Nat.mod_lt (s / (n + 1) ^ (n - 1 - x)) (show n + 1 > 0 by omega)
    unfold f_X4_columnInStand f_X4_columnInStand_l7
    rw [bnd1_some e, if_neg nz, nI_1, nI_rem (by omega) (by omega)]
    by_cases z : s / (n + 1) ^ (n - 1 - x) % (n + 1) < n
    · rw [if_pos z, if_neg (by rw [nI_eq (by omega) (by omega)]; omega)]
    · rw [if_neg z, if_pos (by rw [show s / (n + 1) ^ (n - 1 - x) % (n + 1) = n by omega])]
  · rintro p ⟨y, z⟩ hp ⟨e1, e2⟩
    simp only at e1 e2
    subst e1; subst e2
    have dl := Nat.div_le_self s ((n + 1) ^ p)
    refine ⟨(nI (s / (n + 1) ^ (p + 1)), nI (n - 1 - (p + 1))), ?_, rfl, rfl⟩
    show f_X4_columnInStand_b7 N (nI n) (nI x) (nI (s / (n + 1) ^ p)) (nI (n - 1 - p)) = _
    unfold f_X4_columnInStand_b7
    rw [if_pos ((nI_ltI (by omega) (by omega)).mpr (by omega)), if_neg nz, nI_1, nI_div (by omega) (by omega), Nat.div_div_eq_div_mul, ← Nat.pow_succ, dn3 (by omega), show n - 1 - p - 1 = n - 1 - (p + 1) by omega]
  · rintro ⟨y, z⟩ ⟨e1, e2⟩
    simp only at e1 e2
    subst e1; subst e2
    refine ⟨_, ?_, rfl⟩
    show f_X4_columnInStand_b7 N (nI n) (nI x) (nI (s / (n + 1) ^ (n - 1 - x))) (nI (n - 1 - (n - 1 - x))) = _
    unfold f_X4_columnInStand_b7
    rw [if_neg (nI_le0 (by omega) (by omega))]
end LS
