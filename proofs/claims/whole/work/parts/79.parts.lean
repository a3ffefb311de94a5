/-! ===== the ladder's parts ===== -/
def ky (n j : Nat) : Nat := K6 (cN (hh n j) n)
def cntK (n m x : Nat) : Nat := sn (fun j => if ky n j = x then 1 else 0) m
/-- parts of the first m numbers -/
def PT (n m P : Nat) (pk pf : Nat → Nat) : Prop := P ≤ m ∧ (∀ p q, p < q → q < P → pk p < pk q) ∧ (∀ p, p < P → pf p < m ∧ ky n (pf p) = pk p ∧ ∀ j, j < pf p → ky n j ≠ pk p) ∧ ∀ j, j < m → ∃ p, p < P ∧ pk p = ky n j
def LDp (n m q : Nat) (I : MI) (L : ML) : Prop := ∃ (P : Nat) (pk pf : Nat → Nat), PT n m P pk pf ∧ I q 3 = nI P ∧ ∀ p, p < P → L (q + 3) p = qL (pk p) ∧ I (q + 4) p = nI (cntK n m (pk p)) ∧ I (q + 5) p = nI (pf p)
section PS
variable {N n q : Nat}
theorem row_okK (n1 : 1 ≤ n) (n6 : n ≤ 6) {j : Nat} (hj : j < sz n) : okK (cN (hh n j) n) := by
  obtain ⟨_, h2, _⟩ := row_ok n1 n6 hj
  refine okK_of (fun k hk => ?_)
  have := cN_le (n := n) h2 (k := k) (Nat.le_refl n)
  have := gg_fw n (by omega) k hk
  omega
theorem ky_lt (n1 : 1 ≤ n) (n6 : n ≤ 6) {j : Nat} (hj : j < sz n) : ky n j < 2 ^ 63 := K6_lt (row_okK n1 n6 hj)
theorem cntK_le {m x : Nat} : cntK n m x ≤ m := by
  unfold cntK
  induction m with
  | zero => exact Nat.le_refl _
  | succ m ih => rw [sn]; split <;> omega
/-- the first part whose key isn't less -/
theorem firstP {P x : Nat} {pk : Nat → Nat} {L : ML} {S : Nat} (hS : S ≤ 924) (hP : P ≤ S) (hL : ∀ p, p < P → L (q + 3) p = qL (pk p) ∧ pk p < 2 ^ 63) (hx : x < 2 ^ 63) (hi : ∀ p q, p < q → q < P → pk p < pk q) : ∀ (m lo hi' M : Nat), hi' - lo ≤ m → m < M → lo ≤ hi' → hi' ≤ P → (∀ p, p < lo → pk p < x) → (∀ p, hi' ≤ p → p < P → x ≤ pk p) → ∃ r, r ≤ P ∧ loopN (fun s : Int32 × Int32 => f_X2_firstPartFrom_b8 N q S (qL x) s.1 s.2 L) M (nI lo, nI hi') = some (nI r) ∧ (∀ p, p < r → pk p < x) ∧ (∀ p, r ≤ p → p < P → x ≤ pk p) := by
  intro m
  induction m with
  | zero =>
    intro lo h M h1 h2 h3 h4 h5 h6
    obtain ⟨M', rfl⟩ : ∃ M', M = M' + 1 := ⟨M - 1, by omega⟩
    have : lo = h := by omega
    subst this
    refine ⟨lo, h4, loopN_inr ?_, h5, h6⟩
    show f_X2_firstPartFrom_b8 N q S (qL x) (nI lo) (nI lo) L = _
    unfold f_X2_firstPartFrom_b8
    rw [if_neg (nI_le0 (by omega) (Nat.le_refl _))]
  | succ m ih =>
    intro lo h M h1 h2 h3 h4 h5 h6
    obtain ⟨M', rfl⟩ : ∃ M', M = M' + 1 := ⟨M - 1, by omega⟩
    by_cases z : lo < h
    · obtain ⟨mid, hm⟩ : ∃ mid, mid = (lo + h) / 2 := ⟨_, rfl⟩
      obtain ⟨e1, e2⟩ := hL mid (by omega)
      have body : f_X2_firstPartFrom_b8 N q S (qL x) (nI lo) (nI h) L = (if pk mid < x then some (.inl (nI (mid + 1), nI h)) else some (.inl (nI lo, nI mid))) := by
        unfold f_X2_firstPartFrom_b8
        rw [if_pos ((nI_ltI (by omega) (by omega)).mpr z), nI_add, nl2, nI_div (by omega) (by omega), ← hm, if_pos (inb_nI (by omega) (by omega)), nI_clamp (by omega), e1, nI_1]
        by_cases y : pk mid < x
        · rw [if_pos y, if_pos ((qL_lt e2 hx).mpr y)]
        · rw [if_neg y, if_neg (fun w => y ((qL_lt e2 hx).mp w))]
      by_cases y : pk mid < x
      · rw [if_pos y] at body
        rw [loopN_inl (show (fun s : Int32 × Int32 => f_X2_firstPartFrom_b8 N q S (qL x) s.1 s.2 L) (nI lo, nI h) = _ from body)]
        refine ih (mid + 1) h M' (by omega) (by omega) (by omega) h4 (fun p hp => ?_) h6
        by_cases v : p = mid
        · rw [v]; exact y
        · have := hi p mid (by omega) (by omega); omega
      · rw [if_neg y] at body
        rw [loopN_inl (show (fun s : Int32 × Int32 => f_X2_firstPartFrom_b8 N q S (qL x) s.1 s.2 L) (nI lo, nI h) = _ from body)]
        refine ih lo mid M' (by omega) (by omega) (by omega) (by omega) h5 (fun p hp hp' => ?_)
        by_cases v : p = mid
        · rw [v]; omega
        · have := hi mid p (by omega) hp'; omega
    · have : lo = h := by omega
      subst this
      refine ⟨lo, h4, loopN_inr ?_, h5, h6⟩
      show f_X2_firstPartFrom_b8 N q S (qL x) (nI lo) (nI lo) L = _
      unfold f_X2_firstPartFrom_b8
      rw [if_neg (nI_le0 (by omega) (Nat.le_refl _))]
theorem findP {P x m : Nat} {pk pf : Nat → Nat} {I : MI} {L : ML} (n1 : 1 ≤ n) (n6 : n ≤ 6) (hm : m ≤ sz n) (hx : x < 2 ^ 63) (hp : PT n m P pk pf) (hP : I q 3 = nI P) (hL : ∀ p, p < P → L (q + 3) p = qL (pk p)) (hN : 1000 ≤ N) : ∃ r, r ≤ P ∧ f_X2_firstPartFrom N q (sz n) (qL x) I L = some (nI r) ∧ (∀ p, p < r → pk p < x) ∧ (∀ p, r ≤ p → p < P → x ≤ pk p) := by
  have s9 := sz_le n (by omega)
  obtain ⟨p1, p2, p3, p4⟩ := hp
  obtain ⟨r, r1, r2, r3, r4⟩ := firstP (N := N) (q := q) (x := x) (L := L) (S := sz n) (P := P) (pk := pk) s9.1 (by omega) (fun p hp => ⟨hL p hp, by rw [← (p3 p hp).2.1]; exact ky_lt n1 n6 (by have := (p3 p hp).1; omega)⟩) hx p2 P 0 P N (by omega) (by omega) (Nat.zero_le _) (Nat.le_refl _) (fun p hp => absurd hp (by omega)) (fun p h1 h2 => by omega)
  refine ⟨r, r1, ?_, r3, r4⟩
  unfold f_X2_firstPartFrom f_X2_firstPartFrom_l8
  rw [hP, nl0, bnd1_some r2]
theorem cntK_s {m x : Nat} : cntK n (m + 1) x = cntK n m x + (if ky n m = x then 1 else 0) := rfl
theorem cntK_no {m x : Nat} (h : ∀ j, j < m → ky n j ≠ x) : cntK n m x = 0 := by
  unfold cntK
  exact sn_zero (fun j hj => by rw [if_neg (h j hj)])
theorem sortS {m : Nat} {I : MI} {L : ML} (n1 : 1 ≤ n) (n6 : n ≤ 6) (hm : m < sz n) (hk : L (q + 2) m = qL (ky n m)) (h : LDp n m q I L) (hN : 1000 ≤ N) : ∃ I' L', f_X2_sortIn N q (sz n) (nI m) I L = some (I', L') ∧ LDp n (m + 1) q I' L' ∧ fr (fun b j => (b = q ∧ j = 3) ∨ b = q + 4 ∨ b = q + 5) I I' ∧ frL (fun b j => b = q + 3) L L' := by
  have s9 := sz_le n (by omega)
  obtain ⟨P, pk, pf, hp, hP, hT⟩ := h
  have kl := ky_lt n1 n6 hm
  obtain ⟨r, r1, r2, r3, r4⟩ := findP (N := N) (q := q) n1 n6 (by omega) kl hp hP (fun p hp => (hT p hp).1) hN
  obtain ⟨p1, p2, p3, p4⟩ := hp
  have im : inb (nI m) (sz n) = true := inb_nI hm (by omega)
  unfold f_X2_sortIn
  rw [if_pos im, nI_clamp (by omega), hk, bnd1_some r2, hP]
  by_cases hit : r < P ∧ pk r = ky n m
  · obtain ⟨h1, h2⟩ := hit
    have ir : inb (nI r) (sz n) = true := inb_nI (by omega) (by omega)
    obtain ⟨t1, t2, t3⟩ := hT r h1
    refine ⟨upI I (q + 4) r (nI (cntK n m (pk r) + 1)), L, ?_, ⟨P, pk, pf, ⟨by omega, p2, fun p hp => ?_, fun j hj => ?_⟩, by rw [upI_ne _ _ (by omega)]; exact hP, fun p hp => ⟨(hT p hp).1, ?_, by rw [upI_ne _ _ (by omega)]; exact (hT p hp).2.2⟩⟩, fr.up (by omega), frL.rfl⟩
    · rw [if_pos ((nI_ltI (by omega) (by omega)).mpr h1), if_pos ir, if_pos im, nI_clamp (by omega), t1, h2, if_pos rfl, if_pos ir, if_pos ir, t2, h2, nI_1]
      rfl
    · obtain ⟨a, b, c⟩ := p3 p hp
      exact ⟨by omega, b, c⟩
    · by_cases z : j = m
      · rw [z]; exact ⟨r, h1, h2⟩
      · exact p4 j (by omega)
    · rw [upI_at, cntK_s]
      by_cases z : p = r
      · rw [if_pos z, z, if_pos h2.symm]
      · have : ¬ ky n m = pk p := fun e => by
          rcases Nat.lt_or_gt_of_ne z with y | y
          · have := p2 p r y h1; omega
          · have := p2 r p y hp; omega
        rw [if_neg z, if_neg this, Nat.add_zero]; exact (hT p hp).2.1
  · -- a new part
    have lt : ∀ p, r ≤ p → p < P → ky n m < pk p := fun p h1 h2 => by
      have := r4 p h1 h2
      by_cases e : pk p = ky n m
      · by_cases z : p = r
        · exact absurd ⟨by omega, by rw [← z]; exact e⟩ hit
        · have a1 := p2 r p (by omega) h2
          have a2 := r4 r (Nat.le_refl _) (by omega)
          omega
      · omega
    have new : ∀ j, j < m → ky n j ≠ ky n m := fun j hj e => by
      obtain ⟨p, hp, ep⟩ := p4 j hj
      by_cases z : p < r
      · have := r3 p z; omega
      · have := lt p (by omega) hp; omega
    have ir : inb (nI r) (sz n) = true := inb_nI (by omega) (by omega)
    have er : nI r + 1 = nI (r + 1) := nI_1 r
    have em : nI P - nI r = nI (P - r) := nI_sub r1
    have hcp : cpok (nI r) (nI (r + 1)) (nI (P - r)) (sz n) (sz n) = true := by
      simp only [cpok, Bool.and_eq_true, Bool.not_eq_true', decide_eq_false_iff_not, decide_eq_true_eq]
      rw [nI_clamp (by omega), nI_clamp (by omega), nI_clamp (by omega)]
      exact ⟨⟨⟨nI_pos (by omega), nI_pos (by omega)⟩, nI_pos (by omega)⟩, by omega, by omega⟩
    generalize hL1 : cpL L (q + 3) (q + 3) r (r + 1) (P - r) = L1
    generalize hI1 : cpI I (q + 4) (q + 4) r (r + 1) (P - r) = I1
    have l1 : ∀ b j, b ≠ q + 3 → L1 b j = L b j := fun b j hb => by rw [← hL1]; unfold cpL; rw [if_neg hb]
    have i1 : ∀ b j, b ≠ q + 4 → I1 b j = I b j := fun b j hb => by rw [← hI1]; unfold cpI; rw [if_neg hb]
    generalize hI2 : cpI I1 (q + 5) (q + 5) r (r + 1) (P - r) = I2
    have i2 : ∀ b j, b ≠ q + 5 → I2 b j = I1 b j := fun b j hb => by rw [← hI2]; unfold cpI; rw [if_neg hb]
    have v3 : ∀ j, L1 (q + 3) j = if r + 1 ≤ j ∧ j < r + 1 + (P - r) then L (q + 3) (r + (j - (r + 1))) else L (q + 3) j := fun j => by rw [← hL1]; unfold cpL va_cpy; rw [if_pos rfl]
    have v4 : ∀ j, I1 (q + 4) j = if r + 1 ≤ j ∧ j < r + 1 + (P - r) then I (q + 4) (r + (j - (r + 1))) else I (q + 4) j := fun j => by rw [← hI1]; unfold cpI va_cpy; rw [if_pos rfl]
    have v5 : ∀ j, I2 (q + 5) j = if r + 1 ≤ j ∧ j < r + 1 + (P - r) then I (q + 5) (r + (j - (r + 1))) else I (q + 5) j := fun j => by
      rw [← hI2]; unfold cpI va_cpy; rw [if_pos rfl, i1 _ _ (by omega), i1 _ _ (by omega)]
    have j46 : f_X2_sortIn_j46 N q (sz n) (nI m) (nI r) I L = some (upI (upI (upI I2 (q + 4) r 1) (q + 5) r (nI m)) q 3 (nI (P + 1)), upL L1 (q + 3) r (qL (ky n m))) := by
      unfold f_X2_sortIn_j46
      rw [hP, er, em, if_pos hcp]
      simp only [letv]
      rw [nI_clamp (n := r) (by omega), nI_clamp (n := r + 1) (by omega), nI_clamp (n := P - r) (by omega), hL1, if_pos hcp, hI1, i1 q 3 (by omega), hP, em, if_pos hcp, nI_clamp (n := P - r) (by omega), hI2, if_pos im, if_pos ir, if_pos ir, if_pos ir, nI_clamp (n := m) (by omega), l1 _ _ (by omega), hk]
      rw [upI_ne q 3 (by omega), upI_ne q 3 (by omega), i2 q 3 (by omega), i1 q 3 (by omega), hP, nI_1]
    have goal : (if nI r < nI P then if inb (nI r) (sz n) = true then if inb (nI m) (sz n) = true then (if L (q + 3) (Int32.toNatClampNeg (nI r)) = qL (ky n m) then if inb (nI r) (sz n) = true then if inb (nI r) (sz n) = true then letv (upI I (q + 4) (Int32.toNatClampNeg (nI r)) (I (q + 4) (Int32.toNatClampNeg (nI r)) + 1)) fun I10 => some (I10, L) else none else none else f_X2_sortIn_j46 N q (sz n) (nI m) (nI r) I L) else none else none else f_X2_sortIn_j46 N q (sz n) (nI m) (nI r) I L) = f_X2_sortIn_j46 N q (sz n) (nI m) (nI r) I L := by
      by_cases y : r < P
      · have ne : ¬ qL (pk r) = qL (ky n m) := by
          have a := lt r (Nat.le_refl _) y
          have b : pk r < 2 ^ 63 := by rw [← (p3 r y).2.1]; exact ky_lt n1 n6 (by have := (p3 r y).1; omega)
          rw [qL_inj b kl]; omega
        rw [if_pos ((nI_ltI (by omega) (by omega)).mpr y), if_pos ir, if_pos im, nI_clamp (n := r) (by omega), (hT r y).1, if_neg ne]
      · rw [if_neg (nI_le0 (by omega) (by omega))]
    rw [goal, j46]
    have bt : ∀ p, r ≤ p → p ≠ r → r + 1 ≤ p ∧ (p < P + 1 → p < r + 1 + (P - r)) ∧ r + (p - (r + 1)) = p - 1 := fun p h1 h2 => ⟨by omega, fun _ => by omega, by omega⟩
    refine ⟨_, _, rfl, ⟨P + 1, fun p => if p < r then pk p else if p = r then ky n m else pk (p - 1), fun p => if p < r then pf p else if p = r then m else pf (p - 1), ⟨by omega, fun a b hab hb => ?_, fun p hp => ?_, fun j hj => ?_⟩, upI_eq _ _ _ _, fun p hp => ?_⟩, fun b j hb => ?_, fun b j hb => ?_⟩
    · show (if a < r then pk a else if a = r then ky n m else pk (a - 1)) < (if b < r then pk b else if b = r then ky n m else pk (b - 1))
      by_cases x1 : a < r
      · rw [if_pos x1]
        by_cases y1 : b < r
        · rw [if_pos y1]; exact p2 a b hab (by omega)
        · rw [if_neg y1]
          have := r3 a x1
          by_cases y2 : b = r
          · rw [if_pos y2]; exact this
          · rw [if_neg y2]
            have := lt (b - 1) (by omega) (by omega); omega
      · rw [if_neg x1, if_neg (show ¬ b < r by omega)]
        by_cases x2 : a = r
        · rw [if_pos x2, if_neg (show ¬ b = r by omega)]
          exact lt (b - 1) (by omega) (by omega)
        · rw [if_neg x2, if_neg (show ¬ b = r by omega)]
          exact p2 (a - 1) (b - 1) (by omega) (by omega)
    · show (if p < r then pf p else if p = r then m else pf (p - 1)) < m + 1 ∧ ky n (if p < r then pf p else if p = r then m else pf (p - 1)) = (if p < r then pk p else if p = r then ky n m else pk (p - 1)) ∧ ∀ j, j < (if p < r then pf p else if p = r then m else pf (p - 1)) → ky n j ≠ (if p < r then pk p else if p = r then ky n m else pk (p - 1))
      by_cases x1 : p < r
      · simp only [if_pos x1]
        obtain ⟨a, b, c⟩ := p3 p (by omega)
        exact ⟨by omega, b, c⟩
      · simp only [if_neg x1]
        by_cases x2 : p = r
        · simp only [if_pos x2]
          exact ⟨by omega, trivial, new⟩
        · simp only [if_neg x2]
          obtain ⟨a, b, c⟩ := p3 (p - 1) (by omega)
          exact ⟨by omega, b, c⟩
    · by_cases z : j = m
      · refine ⟨r, by omega, ?_⟩
        show (if r < r then pk r else if r = r then ky n m else pk (r - 1)) = _
        rw [if_neg (by omega), if_pos rfl, z]
      · obtain ⟨p, hp, ep⟩ := p4 j (by omega)
        by_cases y : p < r
        · exact ⟨p, by omega, by show (if p < r then pk p else if p = r then ky n m else pk (p - 1)) = _; rw [if_pos y]; exact ep⟩
        · refine ⟨p + 1, by omega, ?_⟩
          show (if p + 1 < r then pk (p + 1) else if p + 1 = r then ky n m else pk (p + 1 - 1)) = _
          rw [if_neg (by omega), if_neg (by omega), Nat.add_sub_cancel]; exact ep
    · show upL L1 (q + 3) r (qL (ky n m)) (q + 3) p = qL (if p < r then pk p else if p = r then ky n m else pk (p - 1)) ∧ upI (upI (upI I2 (q + 4) r 1) (q + 5) r (nI m)) q 3 (nI (P + 1)) (q + 4) p = nI (cntK n (m + 1) (if p < r then pk p else if p = r then ky n m else pk (p - 1))) ∧ upI (upI (upI I2 (q + 4) r 1) (q + 5) r (nI m)) q 3 (nI (P + 1)) (q + 5) p = nI (if p < r then pf p else if p = r then m else pf (p - 1))
      rw [upI_ne (q + 4) p (by omega), upI_ne (q + 4) p (by omega), upI_ne (q + 5) p (by omega), upI_at, upI_at, upL_at, upI_ne (q + 5) p (by omega), i2 (q + 4) p (by omega), v3, v4, v5]
      by_cases x1 : p < r
      · obtain ⟨t1, t2, t3⟩ := hT p (by omega)
        have := r3 p x1
        have nc : ¬ (r + 1 ≤ p ∧ p < r + 1 + (P - r)) := by omega
        simp only [if_pos x1]
        rw [if_neg (show ¬ p = r by omega), if_neg (show ¬ p = r by omega), if_neg (show ¬ p = r by omega), if_neg nc, if_neg nc, if_neg nc, cntK_s, if_neg (by omega), Nat.add_zero]
        exact ⟨t1, t2, t3⟩
      · by_cases x2 : p = r
        · simp only [if_neg x1, if_pos x2]
          rw [cntK_s, if_pos rfl, cntK_no new]
          exact ⟨trivial, nl1, trivial⟩
        · obtain ⟨t1, t2, t3⟩ := hT (p - 1) (by omega)
          have := lt (p - 1) (by omega) (by omega)
          have cd : r + 1 ≤ p ∧ p < r + 1 + (P - r) := by omega
          rw [if_pos cd, if_pos cd, if_pos cd]
          simp only [if_neg x1, if_neg x2]
          rw [show r + (p - (r + 1)) = p - 1 by omega, cntK_s, if_neg (by omega), Nat.add_zero]
          exact ⟨t1, t2, t3⟩
    · rw [upI_ne _ _ (by omega), upI_ne _ _ (by omega), upI_ne _ _ (by omega), i2 _ _ (by omega), i1 _ _ (by omega)]
    · rw [upL_ne _ _ (by omega), l1 _ _ (by omega)]
end PS
