/-! ===== the reference's walk over all that stand ===== -/
def seg {α : Type} (f : Nat → List α) (c : Nat) : Nat → List α
  | 0 => []
  | m + 1 => f c ++ seg f (c + 1) m
theorem seg_congr {α : Type} {f g : Nat → List α} : ∀ {m c : Nat}, (∀ x, c ≤ x → x < c + m → f x = g x) → seg f c m = seg g c m
  | 0, _, _ => rfl
  | m + 1, c, h => by rw [seg, seg, h c (by omega) (by omega), seg_congr (fun x h1 h2 => h x (by omega) (by omega))]
theorem seg_skip {α : Type} {f : Nat → List α} : ∀ {d c m : Nat}, (∀ x, c ≤ x → x < c + d → f x = []) → seg f c (d + m) = seg f (c + d) m
  | 0, c, m, _ => by rw [Nat.zero_add, Nat.add_zero]
  | d + 1, c, m, h => by
    rw [show d + 1 + m = (d + m) + 1 by omega, seg, h c (by omega) (by omega), List.nil_append, seg_skip (fun x h1 h2 => h x (by omega) (by omega)), show c + 1 + d = c + (d + 1) by omega]
/-- all ways to go on from a row with these columns taken, in their order; n for no ROOK -/
def al (r : Nat → Nat) (n k : Nat) : Nat → Nat → List (List Nat)
  | 0, mask => if bcn 6 mask = k then [[]] else []
  | rem + 1, mask => seg (fun c => if c < n then (if (r (n - (rem + 1))).testBit c = true ∧ mask.testBit c = false then (al r n k rem (mask ||| 2 ^ c)).map (c :: ·) else []) else (al r n k rem mask).map (c :: ·)) 0 (n + 1)
def blk (r : Nat → Nat) (n k rem mask c : Nat) : List (List Nat) := if c < n then (if (r (n - (rem + 1))).testBit c = true ∧ mask.testBit c = false then (al r n k rem (mask ||| 2 ^ c)).map (c :: ·) else []) else (al r n k rem mask).map (c :: ·)
theorem al_blk {r : Nat → Nat} {n k rem mask : Nat} : al r n k (rem + 1) mask = seg (blk r n k rem mask) 0 (n + 1) := rfl
theorem mb8 : ∀ m, m < 64 → ∀ j, j < 6 → m.testBit j = false → bcn 6 (m ||| 2 ^ j) = bcn 6 m + 1 := by decide +kernel
section AL
variable {r : Nat → Nat} {n k : Nat}
theorem seg_nil {α : Type} {f : Nat → List α} {c m : Nat} (h : ∀ x, c ≤ x → x < c + m → f x = []) : seg f c m = [] := by
  have := seg_skip (f := f) (d := m) (c := c) (m := 0) h
  rwa [Nat.add_zero, seg] at this
theorem al_many (n6 : n ≤ 6) : ∀ {rem mask : Nat}, mask < 2 ^ n → k < bcn 6 mask → al r n k rem mask = []
  | 0, mask, hm, h => by rw [al, if_neg (by omega)]
  | rem + 1, mask, hm, h => by
    have t6 := two_le n6
    rw [al_blk]
    refine seg_nil (fun c _ hc => ?_)
    unfold blk
    by_cases q : c < n
    · rw [if_pos q]
      by_cases z : (r (n - (rem + 1))).testBit c = true ∧ mask.testBit c = false
      · rw [if_pos z, al_many n6 (Nat.or_lt_two_pow hm (two_lt q)) (by rw [mb8 mask (by omega) c (by omega) z.2]; omega)]; rfl
      · rw [if_neg z]
    · rw [if_neg q, al_many n6 hm h]; rfl
theorem al_few (n6 : n ≤ 6) : ∀ {rem mask : Nat}, mask < 2 ^ n → bcn 6 mask + rem < k → al r n k rem mask = []
  | 0, mask, hm, h => by rw [al, if_neg (by omega)]
  | rem + 1, mask, hm, h => by
    have t6 := two_le n6
    rw [al_blk]
    refine seg_nil (fun c _ hc => ?_)
    unfold blk
    by_cases q : c < n
    · rw [if_pos q]
      by_cases z : (r (n - (rem + 1))).testBit c = true ∧ mask.testBit c = false
      · rw [if_pos z, al_few n6 (Nat.or_lt_two_pow hm (two_lt q)) (by rw [mb8 mask (by omega) c (by omega) z.2]; omega)]; rfl
      · rw [if_neg z]
    · rw [if_neg q, al_few n6 hm (by omega)]; rfl
end AL
def pl (n x : Nat) : Prop := 1 ≤ x ∧ x ≤ n
def cn (n : Nat) (e : Nat → Nat) : Nat → Nat
  | 0 => 0
  | j + 1 => cn n e j + (if 1 ≤ e j ∧ e j ≤ n then 1 else 0)
def mk (n : Nat) (e : Nat → Nat) : Nat → Nat
  | 0 => 0
  | j + 1 => if 1 ≤ e j ∧ e j ≤ n then mk n e j ||| 2 ^ (e j - 1) else mk n e j
def wt (n : Nat) (W : Nat → Nat) (e : Nat → Nat) : Nat → Nat
  | 0 => 0
  | j + 1 => wt n W e j + (if 1 ≤ e j ∧ e j ≤ n then W (6 * j + (e j - 1)) else 0)
def pre (e : Nat → Nat) : Nat → List Nat
  | 0 => []
  | j + 1 => pre e j ++ [e j - 1]
/-- what is still to come -/
def Qs (r : Nat → Nat) (n k : Nat) (e : Nat → Nat) : Nat → List (List Nat)
  | 0 => []
  | i + 1 => (seg (blk r n k (n - (i + 1)) (mk n e i)) (e i) (n + 1 - e i)).map (pre e i ++ ·) ++ Qs r n k e i
section WK
variable {r W : Nat → Nat} {n k : Nat} {e e' : Nat → Nat}
theorem cn_congr : ∀ {m : Nat}, (∀ j, j < m → e j = e' j) → cn n e m = cn n e' m
  | 0, _ => rfl
  | m + 1, h => by rw [cn, cn, cn_congr (fun j hj => h j (by omega)), h m (by omega)]
theorem mk_congr : ∀ {m : Nat}, (∀ j, j < m → e j = e' j) → mk n e m = mk n e' m
  | 0, _ => rfl
  | m + 1, h => by rw [mk, mk, mk_congr (fun j hj => h j (by omega)), h m (by omega)]
theorem wt_congr : ∀ {m : Nat}, (∀ j, j < m → e j = e' j) → wt n W e m = wt n W e' m
  | 0, _ => rfl
  | m + 1, h => by rw [wt, wt, wt_congr (fun j hj => h j (by omega)), h m (by omega)]
theorem pre_congr : ∀ {m : Nat}, (∀ j, j < m → e j = e' j) → pre e m = pre e' m
  | 0, _ => rfl
  | m + 1, h => by rw [pre, pre, pre_congr (fun j hj => h j (by omega)), h m (by omega)]
theorem Qs_congr : ∀ {m : Nat}, (∀ j, j < m → e j = e' j) → Qs r n k e m = Qs r n k e' m
  | 0, _ => rfl
  | m + 1, h => by
    have h' : ∀ j, j < m → e j = e' j := fun j hj => h j (by omega)
    rw [Qs, Qs, Qs_congr h', h m (by omega), mk_congr h', pre_congr h']
theorem mk_lt (n6 : n ≤ 6) : ∀ {m : Nat}, mk n e m < 2 ^ n
  | 0 => Nat.two_pow_pos n
  | m + 1 => by
    rw [mk]
    split
    · rename_i h
      exact Nat.or_lt_two_pow (mk_lt n6) (two_lt (by omega))
    · exact mk_lt n6
def okE (n : Nat) (e : Nat → Nat) (m : Nat) : Prop := ∀ j, j < m → 1 ≤ e j ∧ e j ≤ n → (mk n e j).testBit (e j - 1) = false
theorem mk_cn (n6 : n ≤ 6) : ∀ {m : Nat}, okE n e m → bcn 6 (mk n e m) = cn n e m
  | 0, _ => by rw [mk, cn]; decide
  | m + 1, h => by
    have t6 := two_le n6
    have ih := mk_cn n6 (m := m) (fun j hj => h j (by omega))
    have ml := mk_lt (e := e) n6 (m := m)
    rw [mk, cn]
    by_cases q : 1 ≤ e m ∧ e m ≤ n
    · rw [if_pos q, if_pos q, mb8 _ (by omega) _ (by omega) (h m (by omega) q), ih]
    · rw [if_neg q, if_neg q, ih, Nat.add_zero]
theorem cn_le : ∀ {m : Nat}, cn n e m ≤ m
  | 0 => Nat.le_refl _
  | m + 1 => by
    rw [cn]
    have := cn_le (m := m)
    split <;> omega
theorem wt_le (hW : ∀ p, W p ≤ 9) : ∀ {m : Nat}, wt n W e m ≤ 9 * m
  | 0 => Nat.le_refl _
  | m + 1 => by
    rw [wt]
    have := wt_le hW (m := m)
    have := hW (6 * m + (e m - 1))
    split <;> omega
end WK
def fG (b j : Nat) : Prop := b = 134 ∨ (b = 99 ∧ 43 ≤ j ∧ j ≤ 46)
def GS (n : Nat) (W e : Nat → Nat) (i : Nat) (K : MI) : Prop := K 99 46 = nI i ∧ (∀ j, j ≤ i → K 134 j = nI (e j) - 1 ∧ e j ≤ n + 1) ∧ (∀ j, j < i → 1 ≤ e j) ∧ K 99 43 = nI (cn n e (i + 1)) ∧ K 99 44 = nI (mk n e (i + 1)) ∧ K 99 45 = nI (wt n W e (i + 1)) ∧ okE n e (i + 1)
/-- the same with row i not yet tried -/
def GL (n : Nat) (W e : Nat → Nat) (i : Nat) (K : MI) : Prop := K 99 46 = nI i ∧ (∀ j, j ≤ i → K 134 j = nI (e j) - 1 ∧ e j ≤ n + 1) ∧ (∀ j, j < i → 1 ≤ e j) ∧ K 99 43 = nI (cn n e i) ∧ K 99 44 = nI (mk n e i) ∧ K 99 45 = nI (wt n W e i) ∧ okE n e i
section GO
variable {r W : Nat → Nat} {N n k w : Nat} {e : Nat → Nat} {K : MI}
theorem cancB (m j : Nat) (hm : m < 64) (hj : j < 6) (h : m.testBit j = false) : (nI (m ||| 2 ^ j) &&& (jshl 1 (nI j) ^^^ (-1))) = nI m := by
  obtain ⟨a1, a2, a3, a4⟩ := mb2 m hm j hj h
  rw [offb _ a4 j hj a2, a1]
theorem nIsub1 {m : Nat} : nI m - 1 < 0 ↔ m = 0 ∨ ¬ (m < 2 ^ 31 + 1 ∧ m ≠ 0) ∧ nI m - 1 < 0 := by
  constructor
  · intro h
    by_cases q : m = 0
    · exact Or.inl q
    · by_cases z : m < 2 ^ 31 + 1
      · exfalso
        rw [dn2 (by omega)] at h
        exact nI_pos (show m - 1 < 2 ^ 31 by omega) h
      · exact Or.inr ⟨by omega, h⟩
  · rintro (rfl | ⟨_, h⟩)
    · decide
    · exact h
theorem lift_spec {i : Nat} (n6 : n ≤ 6) (hi : i < n) (hT : ∀ p, p < 36 → K 105 p = nI (W p)) (hW : ∀ p, W p ≤ 9) (h : GS n W e i K) : ∃ K', f_X11_lift (nI n) K = some K' ∧ GL n W e i K' ∧ fr fG K K' := by
  have t6 := two_le n6
  obtain ⟨g1, g2, g3, g4, g5, g6, g7⟩ := h
  obtain ⟨m1, m2⟩ := g2 i (Nat.le_refl _)
  have ml := mk_lt (e := e) n6 (m := i)
  have ok' : okE n e i := fun j hj => g7 j (by omega)
  unfold f_X11_lift
  rw [g1, if_pos (inb_nI (by omega) (by decide)), nI_clamp (by omega), m1]
  simp only [letv]
  by_cases z : e i = 0
  · rw [z, if_pos (by decide)]
    have np : ¬ (1 ≤ e i ∧ e i ≤ n) := by omega
    rw [cn, if_neg np] at g4
    rw [mk, if_neg np] at g5
    rw [wt, if_neg np] at g6
    exact ⟨K, rfl, ⟨g1, g2, g3, g4, g5, g6, ok'⟩, fr.rfl⟩
  · rw [dn2 (by omega), if_neg (nI_pos (by omega))]
    by_cases y : e i ≤ n
    · have np : 1 ≤ e i ∧ e i ≤ n := by omega
      rw [cn, if_pos np] at g4
      rw [mk, if_pos np] at g5
      rw [wt, if_pos np] at g6
      have tb := g7 i (by omega) np
      have cnl := cn_le (n := n) (e := e) (m := i)
      rw [if_pos ((nI_ltI (by omega) (by omega)).mpr (by omega))]
      rw [upI_ne 99 44 (by omega), g5, cancB _ _ (by omega) (by omega) tb]
      have e46 : ∀ v v', upI (upI K 99 43 v) 99 44 v' 99 46 = nI i := fun v v' => by rw [upI_ne _ _ (by omega), upI_ne _ _ (by omega)]; exact g1
      have e45 : ∀ v v', upI (upI K 99 43 v) 99 44 v' 99 45 = K 99 45 := fun v v' => by rw [upI_ne _ _ (by omega), upI_ne _ _ (by omega)]
      have e105 : ∀ v v' p, upI (upI K 99 43 v) 99 44 v' 105 p = K 105 p := fun v v' p => by rw [upI_ne _ _ (by omega), upI_ne _ _ (by omega)]
      rw [e46, m6, if_pos (inb_nI (by omega) (by decide)), nI_clamp (by omega), e45, e105, hT _ (by omega), g6, g4, dn2 (by omega), nI_sub (by omega), Nat.add_sub_cancel, Nat.add_sub_cancel]
      refine ⟨_, rfl, ⟨?_, fun j hj => ?_, g3, ?_, ?_, upI_eq _ _ _ _, ok'⟩, (fr.up (S := fG) (by unfold fG; omega)).trans ((fr.up (S := fG) (by unfold fG; omega)).trans (fr.up (S := fG) (by unfold fG; omega)))⟩
      · rw [upI_ne _ _ (by omega), upI_ne _ _ (by omega), upI_ne _ _ (by omega)]; exact g1
      · rw [upI_ne _ _ (by omega), upI_ne _ _ (by omega), upI_ne _ _ (by omega)]; exact g2 j hj
      · rw [upI_ne _ _ (by omega), upI_ne _ _ (by omega), upI_eq]
      · rw [upI_ne _ _ (by omega), upI_eq]
    · have np : ¬ (1 ≤ e i ∧ e i ≤ n) := by omega
      rw [cn, if_neg np] at g4
      rw [mk, if_neg np] at g5
      rw [wt, if_neg np] at g6
      rw [if_neg (nI_le0 (by omega) (by omega))]
      exact ⟨K, rfl, ⟨g1, g2, g3, g4, g5, g6, ok'⟩, fr.rfl⟩
/-- what may stand, and what may not leads nowhere -/
theorem may_spec {i c : Nat} (hw : w < 6) (n6 : n ≤ 6) (hi : i < n) (hc : c ≤ n) (hk : k < 2 ^ 31) (hr : ∀ i, i < n → r i < 2 ^ n) (hB : BM K 103 104 w n r) (h : GL n W e i K) : (f_X11_mayStand (nI w) (nI k) (nI c) K = some 1 ∧ (c < n → (r i).testBit c = true ∧ (mk n e i).testBit c = false)) ∨ (f_X11_mayStand (nI w) (nI k) (nI c) K = some 0 ∧ blk r n k (n - (i + 1)) (mk n e i) c = []) := by
  have t6 := two_le n6
  have iw : inb (nI w) 6 = true := inb_nI hw (by decide)
  have cw : Int32.toNatClampNeg (nI w) = w := nI_clamp (by omega)
  obtain ⟨g1, g2, g3, g4, g5, g6, g7⟩ := h
  have ml := mk_lt (e := e) n6 (m := i)
  have cnl := cn_le (n := n) (e := e) (m := i)
  have mc := mk_cn n6 g7
  have er : n - (n - (i + 1) + 1) = i := by omega
  unfold f_X11_mayStand
  rw [if_pos iw, cw, hB.1, g4, g1]
  by_cases q : c = n
  · subst q
    have en : ∀ v : Int32, nI (cn c e i) + nI c - 1 - nI i = nI (cn c e i + c - 1 - i) := fun v => by rw [nI_add, nl1, nI_sub (by omega), nI_sub (by omega)]
    rw [if_pos rfl, en 0]
    by_cases z : cn c e i + c - 1 - i < k
    · right
      rw [if_pos ((nI_ltI (by omega) hk).mpr z)]
      refine ⟨rfl, ?_⟩
      unfold blk
      rw [if_neg (by omega), al_few n6 ml (by rw [mc]; omega)]; rfl
    · left
      rw [if_neg (nI_le0 (by omega) (by omega))]
      exact ⟨rfl, fun h => by omega⟩
  · rw [if_neg (by rw [nI_eq (by omega) (by omega)]; exact q)]
    by_cases z : cn n e i < k
    · rw [if_pos ((nI_ltI (by omega) hk).mpr z), bnd1_some (hasM hw hB.2 (fun i hi => by have := hr i hi; omega) n6 hi (show c < n by omega)), g5, hasT _ (by omega) c (by omega)]
      by_cases y : (r i).testBit c = true
      · rw [if_pos y, if_neg (by decide)]
        by_cases x : (mk n e i).testBit c = true
        · right
          rw [if_pos x, if_neg (by decide)]
          refine ⟨rfl, ?_⟩
          unfold blk
          rw [if_pos (by omega), if_neg (fun v => by rw [x] at v; exact absurd v.2 (by decide))]
        · left
          rw [if_neg x, if_pos rfl]
          exact ⟨rfl, fun _ => ⟨y, by simpa using x⟩⟩
      · right
        rw [if_neg y, if_pos rfl]
        refine ⟨rfl, ?_⟩
        unfold blk
        rw [if_pos (by omega), er, if_neg (fun v => y v.1)]
    · right
      rw [if_neg (nI_le0 (by omega) (by omega))]
      refine ⟨rfl, ?_⟩
      unfold blk
      rw [if_pos (by omega)]
      by_cases y : (r (n - (n - (i + 1) + 1))).testBit c = true ∧ (mk n e i).testBit c = false
      · rw [if_pos y, al_many n6 (Nat.or_lt_two_pow ml (two_lt (by omega))) (by rw [mb8 _ (by omega) c (by omega) y.2, mc]; omega)]; rfl
      · rw [if_neg y]
/-- the next that may stand in row i -/
theorem next_spec {i : Nat} (hw : w < 6) (n6 : n ≤ 6) (hi : i < n) (hk : k < 2 ^ 31) (hr : ∀ i, i < n → r i < 2 ^ n) (hB : BM K 103 104 w n r) (h : GL n W e i K) (hN : 20 ≤ N) : ∃ x, e i ≤ x ∧ x ≤ n + 1 ∧ f_X11_goesOn_l32 N (nI w) (nI k) (nI n) (nI (e i)) K = some (nI x) ∧ (∀ c, e i ≤ c → c < x → blk r n k (n - (i + 1)) (mk n e i) c = []) ∧ (x < n → (r i).testBit x = true ∧ (mk n e i).testBit x = false) := by
  have m2 := (h.2.1 i (Nat.le_refl _)).2
  have key := loop_inv2 (f := fun s : Int32 => f_X11_goesOn_b32 N (nI w) (nI k) (nI n) s K) (fun d s => s = nI (e i + d) ∧ ∀ c, e i ≤ c → c < e i + d → blk r n k (n - (i + 1)) (mk n e i) c = []) (fun y => ∃ x, e i ≤ x ∧ x ≤ n + 1 ∧ y = nI x ∧ (∀ c, e i ≤ c → c < x → blk r n k (n - (i + 1)) (mk n e i) c = []) ∧ (x < n → (r i).testBit x = true ∧ (mk n e i).testBit x = false)) (n + 1 - e i) ?_ N 0 (nI (e i)) (Nat.zero_le _) (by omega) ⟨rfl, fun c h1 h2 => by omega⟩
  · obtain ⟨y, e1, x, x1, x2, rfl, x3, x4⟩ := key
    exact ⟨x, x1, x2, e1, x3, x4⟩
  · rintro d s hd ⟨rfl, H⟩
    show (∃ s', f_X11_goesOn_b32 N (nI w) (nI k) (nI n) (nI (e i + d)) K = _ ∧ _) ∨ (∃ y, f_X11_goesOn_b32 N (nI w) (nI k) (nI n) (nI (e i + d)) K = _ ∧ _)
    unfold f_X11_goesOn_b32
    by_cases q : e i + d ≤ n
    · rw [if_neg (nI_le0 (by omega) q)]
      rcases may_spec (k := k) hw n6 hi q hk hr hB h with ⟨a1, a2⟩ | ⟨a1, a2⟩
      · right
        rw [bnd1_some a1, if_neg (by decide)]
        exact ⟨_, rfl, e i + d, by omega, by omega, rfl, H, a2⟩
      · left
        rw [bnd1_some a1, if_pos rfl]
        refine ⟨_, rfl, ⟨nI_1 _, fun c h1 h2 => ?_⟩, by omega⟩
        by_cases z : c = e i + d
        · rw [z]; exact a2
        · exact H c h1 (by omega)
    · right
      rw [if_pos ((nI_ltI (by omega) (by omega)).mpr (by omega))]
      exact ⟨_, rfl, e i + d, by omega, by omega, rfl, H, fun h => by omega⟩
end GO
