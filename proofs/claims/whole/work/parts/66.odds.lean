/-! ===== odds, mean ===== -/
def qL (n : Nat) : Int64 := Int64.ofNat n
theorem qL_div {a b : Nat} (ha : a < 2 ^ 63) (hb : b < 2 ^ 63) : qL a / qL b = qL (a / b) := by
  apply Int64.toInt_inj.mp
  have h : a / b < 2 ^ 63 := Nat.lt_of_le_of_lt (Nat.div_le_self a b) ha
  rw [Int64.toInt_div]
  show ((Int64.ofNat a).toInt.tdiv (Int64.ofNat b).toInt).bmod (2 ^ 64) = (Int64.ofNat (a / b)).toInt
  rw [Int64.toInt_ofNat_of_lt ha, Int64.toInt_ofNat_of_lt hb, Int64.toInt_ofNat_of_lt h, ← Int.ofNat_tdiv]
  generalize a / b = q at h ⊢
  exact Int.bmod_eq_of_le (by omega) (by omega)
theorem qL_mul (a b : Nat) : qL a * qL b = qL (a * b) := (Int64.ofNat_mul a b).symm
theorem qL_add (a b : Nat) : qL a + qL b = qL (a + b) := (Int64.ofNat_add a b).symm
theorem qL_rem {a b : Nat} (ha : a < 2 ^ 63) (hb : b < 2 ^ 63) : jremL (qL a) (qL b) = qL (a % b) := by
  unfold jremL
  rw [qL_div ha hb, qL_mul]
  have h : a / b * b ≤ a := by rw [Nat.mul_comm]; exact Nat.mul_div_le a b
  show Int64.ofNat a - Int64.ofNat (a / b * b) = Int64.ofNat (a % b)
  rw [← Int64.ofNat_sub _ _ h]
  congr 1
  have := Nat.div_add_mod a b
  rw [Nat.mul_comm]; omega
theorem qL_inj {a b : Nat} (ha : a < 2 ^ 63) (hb : b < 2 ^ 63) : qL a = qL b ↔ a = b := by
  constructor
  · intro h
    have := congrArg Int64.toInt h
    unfold qL at this
    rw [Int64.toInt_ofNat_of_lt ha, Int64.toInt_ofNat_of_lt hb] at this
    omega
  · intro h; rw [h]
theorem qL_0 : (0 : Int64) = qL 0 := by decide
theorem qL_1 : (1 : Int64) = qL 1 := by decide
theorem to64 {a : Nat} (ha : a < 2 ^ 31) : Int32.toInt64 (nI a) = qL a := by
  apply Int64.toInt_inj.mp
  rw [Int32.toInt_toInt64, nI_toInt ha]
  unfold qL
  rw [Int64.toInt_ofNat_of_lt (by omega)]
theorem euclid {N0 : Nat} : ∀ (b a M : Nat), a < 2 ^ 63 → b < 2 ^ 63 → b < M → loopN (fun s : Int64 × Int64 => f_X11_common_b6 N0 s.1 s.2) M (qL a, qL b) = some (qL (Nat.gcd b a)) := by
  intro b
  induction b using Nat.strongRecOn with
  | _ b ih =>
    intro a M ha hb hM
    obtain ⟨M', rfl⟩ : ∃ M', M = M' + 1 := ⟨M - 1, by omega⟩
    by_cases z : b = 0
    · subst z
      refine loopN_inr ?_
      show f_X11_common_b6 N0 (qL a) (qL 0) = _
      unfold f_X11_common_b6
      rw [if_pos qL_0.symm, Nat.gcd_zero_left]
    · have lt := Nat.mod_lt a (show b > 0 by omega)
      have nz : ¬ qL b = 0 := by rw [qL_0, qL_inj hb (by omega)]; exact z
      rw [loopN_inl (s' := (qL b, qL (a % b))) (by
        show f_X11_common_b6 N0 (qL a) (qL b) = _
        unfold f_X11_common_b6
        rw [if_neg nz, if_neg nz, qL_rem ha hb]), ih (a % b) lt b M' hb (by omega) (by omega), ← Nat.gcd_rec]
theorem partM {N a b : Nat} {v4 : Int32} (ha : a < 2 ^ 63) (hb : b < 2 ^ 63) (b1 : 1 ≤ b) (hN : b < N) : f_X11_part N (qL a) (qL b) v4 = some (if v4 = 0 then qL (a / Nat.gcd a b) else qL (b / Nat.gcd a b)) := by
  unfold f_X11_part f_X11_common f_X11_common_l6
  have e := euclid (N0 := N) b a N ha hb hN
  have g1 : 0 < Nat.gcd b a := Nat.gcd_pos_of_pos_left a b1
  have g2 : Nat.gcd b a ≤ b := Nat.gcd_le_left a b1
  have nz : ¬ qL (Nat.gcd b a) = 0 := by rw [qL_0, qL_inj (by omega) (by omega)]; omega
  rw [bnd1_some e, bnd1_some rfl, if_neg nz, if_neg nz, qL_div ha (by omega), qL_div hb (by omega), Nat.gcd_comm b a]
  split <;> rfl
theorem lowC {N h m : Nat} {v2 : Int32} (hh : h < 2 ^ 31) (m1 : 1 ≤ m) (hm : m < 2 ^ 31) (hN : m < N) : f_X10_inLowestTerms N (nI h) (nI m) v2 = some (if v2 = 0 then qL (h / Nat.gcd h m) else qL (m / Nat.gcd h m)) := by
  have g1 : 0 < Nat.gcd h m := Nat.gcd_pos_of_pos_right h m1
  have g2 : Nat.gcd h m ≤ m := Nat.gcd_le_right h m1
  have key := loop_inv2 (f := fun s : Int32 => f_X10_inLowestTerms_b6 N (nI h) (nI m) v2 s) (fun k st => st = nI (m - k) ∧ ∀ v, m - k < v → v ≤ m → ¬ (h % v = 0 ∧ m % v = 0)) (fun r => r = nI (Nat.gcd h m)) (m - 1) ?_ N 0 (nI m) (Nat.zero_le _) (by omega) ⟨rfl, fun v h1 h2 => by omega⟩
  · obtain ⟨r, e, rfl⟩ := key
    unfold f_X10_inLowestTerms f_X10_inLowestTerms_l6
    simp only [letv]
    have nz : ¬ nI (Nat.gcd h m) = 0 := by rw [nl0, nI_eq (by omega) (by omega)]; omega
    have d1 := Nat.div_le_self h (Nat.gcd h m)
    have d2 := Nat.div_le_self m (Nat.gcd h m)
    rw [if_neg (by rw [nl1]; exact nI_le0 (by omega) m1), bnd1_some e, if_neg nz, if_neg nz, nI_div hh (by omega), nI_div hm (by omega), to64 (by omega), to64 (by omega)]
    split <;> rfl
  · rintro k s hk ⟨rfl, H⟩
    show (∃ s', f_X10_inLowestTerms_b6 N (nI h) (nI m) v2 (nI (m - k)) = _ ∧ _) ∨ (∃ r, f_X10_inLowestTerms_b6 N (nI h) (nI m) v2 (nI (m - k)) = _ ∧ _)
    have gd1 := Nat.gcd_dvd_left h m
    have gd2 := Nat.gcd_dvd_right h m
    have gl : Nat.gcd h m ≤ m - k := by
      apply Nat.le_of_not_lt
      intro w
      exact H _ w g2 ⟨Nat.mod_eq_zero_of_dvd gd1, Nat.mod_eq_zero_of_dvd gd2⟩
    unfold f_X10_inLowestTerms_b6
    by_cases z : 1 < m - k
    · have nz : ¬ nI (m - k) = 0 := by rw [nl0, nI_eq (by omega) (by omega)]; omega
      rw [if_pos (by rw [nl1]; exact (nI_ltI (by omega) (by omega)).mpr z), if_neg nz, if_neg nz, nI_rem hh (by omega), nI_rem hm (by omega), dn3 (by omega), nl0]
      have l1 := Nat.mod_le h (m - k)
      have l2 := Nat.mod_le m (m - k)
      have go : ¬ (h % (m - k) = 0 ∧ m % (m - k) = 0) → (nI (m - k - 1) = nI (m - (k + 1)) ∧ ∀ v, m - (k + 1) < v → v ≤ m → ¬ (h % v = 0 ∧ m % v = 0)) := fun w => ⟨by rw [show m - k - 1 = m - (k + 1) by omega], fun v h1 h2 => by
        by_cases y : v = m - k
        · rw [y]; exact w
        · exact H v (by omega) h2⟩
      by_cases a : h % (m - k) = 0
      · rw [if_pos (by rw [a])]
        by_cases b : m % (m - k) = 0
        · right
          rw [if_pos (by rw [b])]
          refine ⟨_, rfl, ?_⟩
          have : (m - k) ∣ Nat.gcd h m := Nat.dvd_gcd (Nat.dvd_of_mod_eq_zero a) (Nat.dvd_of_mod_eq_zero b)
          have := Nat.le_of_dvd g1 this
          rw [show m - k = Nat.gcd h m by omega]
        · left
          rw [if_neg (by rw [nI_eq (by omega) (by omega)]; exact b)]
          exact ⟨_, rfl, go (fun w => b w.2), by omega⟩
      · left
        rw [if_neg (by rw [nI_eq (by omega) (by omega)]; exact a)]
        exact ⟨_, rfl, go (fun w => a w.1), by omega⟩
    · right
      rw [if_neg (by rw [nl1]; exact nI_le0 (by omega) (by omega))]
      exact ⟨_, rfl, by rw [show m - k = Nat.gcd h m by omega]⟩
theorem factM {N n : Nat} (n1 : 1 ≤ n) (n6 : n ≤ 6) (hN : 20 ≤ N) : f_X11_factor N (nI n) = some (qL (fct n)) := by
  have key := loop_inv (f := fun s : Int64 × Int32 => f_X11_factor_b4 N (nI n) s.1 s.2) (fun k st => st.1 = qL (fct (k + 1)) ∧ st.2 = nI (k + 2)) (fun r => r = qL (fct n)) (n - 1) ?_ ?_ N 0 (1, 2) (Nat.zero_le _) (by omega) ⟨by decide, nl2⟩
  · obtain ⟨r, e, rfl⟩ := key
    unfold f_X11_factor f_X11_factor_l4
    exact bnd1_some e
  · rintro k ⟨a, b⟩ hk ⟨e1, e2⟩
    simp only at e1 e2
    subst e1; subst e2
    refine ⟨(qL (fct (k + 2)), nI (k + 3)), ?_, rfl, rfl⟩
    show f_X11_factor_b4 N (nI n) (qL (fct (k + 1))) (nI (k + 2)) = _
    unfold f_X11_factor_b4
    rw [if_neg (nI_le0 (by omega) (by omega)), to64 (by omega), qL_mul, nI_1, show fct (k + 2) = (k + 2) * fct (k + 1) from rfl, Nat.mul_comm]
  · rintro ⟨a, b⟩ ⟨e1, e2⟩
    simp only at e1 e2
    subst e1; subst e2
    refine ⟨qL (fct n), ?_, rfl⟩
    show f_X11_factor_b4 N (nI n) (qL (fct (n - 1 + 1))) (nI (n - 1 + 2)) = _
    unfold f_X11_factor_b4
    rw [if_pos ((nI_ltI (by omega) (by omega)).mpr (by omega)), show n - 1 + 1 = n by omega]
theorem sn_add {f g : Nat → Nat} : ∀ n, sn (fun c => f c + g c) n = sn f n + sn g n
  | 0 => rfl
  | n + 1 => by rw [sn, sn, sn, sn_add n]; omega
theorem sn_mul {f : Nat → Nat} (v : Nat) : ∀ n, sn (fun c => v * f c) n = v * sn f n
  | 0 => rfl
  | n + 1 => by rw [sn, sn, sn_mul v n, Nat.mul_add]
theorem sn_zero {f : Nat → Nat} : ∀ {n : Nat}, (∀ c, c < n → f c = 0) → sn f n = 0
  | 0, _ => rfl
  | n + 1, h => by rw [sn, sn_zero (fun c hc => h c (by omega)), h n (by omega)]
theorem sn_swap {f : Nat → Nat → Nat} (m : Nat) : ∀ n, sn (fun a => sn (fun b => f a b) m) n = sn (fun b => sn (fun a => f a b) n) m
  | 0 => (sn_zero (fun c hc => rfl)).symm
  | n + 1 => by
    rw [sn, sn_swap m n, ← sn_add]
    rfl
theorem sn_le {f g : Nat → Nat} : ∀ {n : Nat}, (∀ c, c < n → f c ≤ g c) → sn f n ≤ sn g n
  | 0, _ => Nat.le_refl _
  | n + 1, h => by
    rw [sn, sn]
    have := sn_le (n := n) (fun c hc => h c (by omega))
    have := h n (by omega)
    omega
theorem ind1 : ∀ n, n < 7 → ∀ S, S < 2 ^ n → sn (fun j => if S.testBit j = true then 1 else 0) n = bcn 6 S := by decide +kernel
theorem ind2 : ∀ n, n < 7 → ∀ S, S < 2 ^ n → ∀ c, c < n → sn (fun j => if S.testBit j = true then (if (S ^^^ 2 ^ j).testBit c = true then 1 else 0) else 0) n = if S.testBit c = true then bcn 6 S - 1 else 0 := by decide +kernel
theorem ind3 : ∀ n, n < 7 → ∀ c, c < n → (2 ^ n - 1).testBit c = true := by decide +kernel
section MN
variable {r : Nat → Nat} {n : Nat}
theorem Hk_big : ∀ {i S t : Nat}, i < t → Hk r n i S t = 0
  | 0, S, t, h => by rw [Hk, if_neg (by omega)]
  | i + 1, S, t, h => by
    rw [Hk]
    refine sn_zero (fun j hj => ?_)
    rw [if_neg (show ¬ t = 0 by omega), Hk_big (i := i) (show i < t - 1 by omega), Hk_big (i := i) (show i < t by omega)]
    split
    · split <;> rfl
    · rfl
theorem shift_sum {U i : Nat} {g : Nat → Nat} (hi : i < 6) : sn (fun t => g t * (if t = 0 then 0 else Hk r n i U (t - 1))) 7 = sn (fun t => g (t + 1) * Hk r n i U t) 7 := by
  have h6 : Hk r n i U 6 = 0 := Hk_big (by omega)
  simp only [sn]
  rw [h6]
  simp
theorem colE {S i j : Nat} {g : Nat → Nat} (hi : i < 6) : sn (fun t => g t * (if S.testBit j = true then (if (r i).testBit j = true then (if t = 0 then 0 else Hk r n i (S ^^^ 2 ^ j) (t - 1)) else Hk r n i (S ^^^ 2 ^ j) t) else 0)) 7 = if S.testBit j = true then (if (r i).testBit j = true then sn (fun t => g (t + 1) * Hk r n i (S ^^^ 2 ^ j) t) 7 else sn (fun t => g t * Hk r n i (S ^^^ 2 ^ j) t) 7) else 0 := by
  by_cases q : S.testBit j = true
  · simp only [if_pos q]
    by_cases z : (r i).testBit j = true
    · simp only [if_pos z]
      exact shift_sum hi
    · simp only [if_neg z]
  · simp only [if_neg q]
    exact sn_zero (fun _ _ => Nat.mul_zero _)
theorem sumE {S i : Nat} {g : Nat → Nat} (hi : i < 6) : sn (fun t => g t * Hk r n (i + 1) S t) 7 = sn (fun j => if S.testBit j = true then (if (r i).testBit j = true then sn (fun t => g (t + 1) * Hk r n i (S ^^^ 2 ^ j) t) 7 else sn (fun t => g t * Hk r n i (S ^^^ 2 ^ j) t) 7) else 0) n := by
  rw [← sn_congr (fun j _ => colE (r := r) (n := n) (S := S) (j := j) (g := g) hi), ← sn_swap]
  refine sn_congr (fun t ht => ?_)
  rw [sn_mul]
  rfl
theorem totH (n6 : n ≤ 6) : ∀ {i S : Nat}, i ≤ 6 → S < 2 ^ n → bcn 6 S = i → sn (fun t => 1 * Hk r n i S t) 7 = fct i
  | 0, S, _, hS, hb => by simp [sn, Hk, fct]
  | i + 1, S, hi, hS, hb => by
    have t6 := two_le n6
    rw [sumE (g := fun _ => 1) (by omega)]
    have e : sn (fun j => if S.testBit j = true then (if (r i).testBit j = true then sn (fun t => 1 * Hk r n i (S ^^^ 2 ^ j) t) 7 else sn (fun t => 1 * Hk r n i (S ^^^ 2 ^ j) t) 7) else 0) n = sn (fun j => fct i * (if S.testBit j = true then 1 else 0)) n := sn_congr (fun j hj => by
      by_cases q : S.testBit j = true
      · have hb' := mb6 S (by omega) j (by omega) q
        have hl := (mb1 S (by omega) j (by omega) q).1
        rw [totH n6 (i := i) (S := S ^^^ 2 ^ j) (by omega) (by omega) (by omega), if_pos q, if_pos q, Nat.mul_one]
        split <;> rfl
      · rw [if_neg q, if_neg q, Nat.mul_zero])
    rw [e, sn_mul, ind1 n (by omega) S hS, hb, Nat.mul_comm]
    rfl
def rc (r : Nat → Nat) (n row S : Nat) : Nat := sn (fun c => if S.testBit c = true ∧ (r row).testBit c = true then 1 else 0) n
theorem rc_off {S row : Nat} (n6 : n ≤ 6) (hS : S < 2 ^ n) : sn (fun j => if S.testBit j = true then rc r n row (S ^^^ 2 ^ j) else 0) n = (bcn 6 S - 1) * rc r n row S := by
  have e : sn (fun j => if S.testBit j = true then rc r n row (S ^^^ 2 ^ j) else 0) n = sn (fun j => sn (fun c => (if (r row).testBit c = true then 1 else 0) * (if S.testBit j = true then (if (S ^^^ 2 ^ j).testBit c = true then 1 else 0) else 0)) n) n := sn_congr (fun j hj => by
    by_cases q : S.testBit j = true
    · rw [if_pos q]
      unfold rc
      refine sn_congr (fun c hc => ?_)
      rw [if_pos q]
      by_cases a : (r row).testBit c = true <;> by_cases b : (S ^^^ 2 ^ j).testBit c = true <;> simp [a, b]
    · rw [if_neg q]
      refine (sn_zero (fun c hc => ?_)).symm
      rw [if_neg q, Nat.mul_zero])
  rw [e, sn_swap]
  unfold rc
  rw [← sn_mul]
  refine sn_congr (fun c hc => ?_)
  rw [sn_mul, ind2 n (by omega) S hS c hc]
  by_cases a : (r row).testBit c = true <;> by_cases b : S.testBit c = true <;> simp [a, b]
theorem ci_off {S : Nat} (n6 : n ≤ 6) (hS : S < 2 ^ n) (i : Nat) : sn (fun j => if S.testBit j = true then sn (fun row => rc r n row (S ^^^ 2 ^ j)) i else 0) n = (bcn 6 S - 1) * sn (fun row => rc r n row S) i := by
  have e : sn (fun j => if S.testBit j = true then sn (fun row => rc r n row (S ^^^ 2 ^ j)) i else 0) n = sn (fun j => sn (fun row => if S.testBit j = true then rc r n row (S ^^^ 2 ^ j) else 0) i) n := sn_congr (fun j hj => by
    by_cases q : S.testBit j = true
    · simp only [if_pos q]
    · simp only [if_neg q]; exact (sn_zero (fun _ _ => rfl)).symm)
  rw [e, sn_swap, ← sn_mul]
  exact sn_congr (fun row _ => rc_off n6 hS)
theorem meanH (n6 : n ≤ 6) : ∀ {i S : Nat}, i < 6 → S < 2 ^ n → bcn 6 S = i + 1 → sn (fun t => t * Hk r n (i + 1) S t) 7 = fct i * sn (fun row => rc r n row S) (i + 1) := by
  intro i
  have t6 := two_le n6
  have stp : ∀ S, i < 6 → S < 2 ^ n → bcn 6 S = i + 1 → sn (fun t => t * Hk r n (i + 1) S t) 7 = sn (fun j => if S.testBit j = true then sn (fun t => t * Hk r n i (S ^^^ 2 ^ j) t) 7 else 0) n + fct i * rc r n i S := fun S hi hS hb => by
    rw [sumE (g := fun t => t) hi]
    unfold rc
    rw [← sn_mul, ← sn_add]
    refine sn_congr (fun j hj => ?_)
    by_cases q : S.testBit j = true
    · have hb' := mb6 S (by omega) j (by omega) q
      have hl := (mb1 S (by omega) j (by omega) q).1
      rw [if_pos q, if_pos q]
      by_cases z : (r i).testBit j = true
      · rw [if_pos z, if_pos ⟨q, z⟩, Nat.mul_one]
        have := totH (r := r) n6 (i := i) (S := S ^^^ 2 ^ j) (by omega) (by omega) (by omega)
        rw [← this, ← sn_add]
        refine sn_congr (fun t _ => ?_)
        rw [Nat.add_mul]
      · rw [if_neg z, if_neg (fun w => z w.2), Nat.mul_zero, Nat.add_zero]
    · rw [if_neg q, if_neg q, if_neg (fun w => q w.1), Nat.mul_zero]
  induction i with
  | zero =>
    intro S hi hS hb
    rw [stp S hi hS hb]
    have e0 : sn (fun j => if S.testBit j = true then sn (fun t => t * Hk r n 0 (S ^^^ 2 ^ j) t) 7 else 0) n = 0 := sn_zero (fun j hj => by
      split
      · exact sn_zero (fun t _ => by
          rw [Hk]
          by_cases q : t = 0
          · rw [q]; simp
          · rw [if_neg q, Nat.mul_zero])
      · rfl)
    rw [e0, Nat.zero_add]
    simp [sn]
  | succ i ih =>
    intro S hi hS hb
    rw [stp S hi hS hb]
    have stp' : ∀ S, i < 6 → S < 2 ^ n → bcn 6 S = i + 1 → sn (fun t => t * Hk r n (i + 1) S t) 7 = sn (fun j => if S.testBit j = true then sn (fun t => t * Hk r n i (S ^^^ 2 ^ j) t) 7 else 0) n + fct i * rc r n i S := fun S hi hS hb => by
      rw [sumE (g := fun t => t) hi]
      unfold rc
      rw [← sn_mul, ← sn_add]
      refine sn_congr (fun j hj => ?_)
      by_cases q : S.testBit j = true
      · have hb' := mb6 S (by omega) j (by omega) q
        have hl := (mb1 S (by omega) j (by omega) q).1
        rw [if_pos q, if_pos q]
        by_cases z : (r i).testBit j = true
        · rw [if_pos z, if_pos ⟨q, z⟩, Nat.mul_one]
          have := totH (r := r) n6 (i := i) (S := S ^^^ 2 ^ j) (by omega) (by omega) (by omega)
          rw [← this, ← sn_add]
          refine sn_congr (fun t _ => ?_)
          rw [Nat.add_mul]
        · rw [if_neg z, if_neg (fun w => z w.2), Nat.mul_zero, Nat.add_zero]
      · rw [if_neg q, if_neg q, if_neg (fun w => q w.1), Nat.mul_zero]
    have e : sn (fun j => if S.testBit j = true then sn (fun t => t * Hk r n (i + 1) (S ^^^ 2 ^ j) t) 7 else 0) n = sn (fun j => fct i * (if S.testBit j = true then sn (fun row => rc r n row (S ^^^ 2 ^ j)) (i + 1) else 0)) n := sn_congr (fun j hj => by
      by_cases q : S.testBit j = true
      · have hb' := mb6 S (by omega) j (by omega) q
        have hl := (mb1 S (by omega) j (by omega) q).1
        rw [if_pos q, if_pos q, ih stp' (by omega) (by omega) (by omega)]
      · rw [if_neg q, if_neg q, Nat.mul_zero])
    rw [e, sn_mul, ci_off n6 hS, hb, show fct (i + 1) = (i + 1) * fct i from rfl, show sn (fun row => rc r n row S) (i + 1 + 1) = sn (fun row => rc r n row S) (i + 1) + rc r n (i + 1) S from rfl, Nat.mul_add, Nat.add_sub_cancel, ← Nat.mul_assoc, Nat.mul_comm (fct i) (i + 1)]
theorem cells_full (n6 : n ≤ 6) (hr : ∀ i, i < n → r i < 2 ^ n) : ∀ {k : Nat}, k ≤ n → sn (fun row => rc r n row (2 ^ n - 1)) k = cs r k
  | 0, _ => rfl
  | k + 1, hk => by
    rw [sn, cs, cells_full n6 hr (by omega), ← ind1 n (by omega) (r k) (hr k (by omega))]
    congr 1
    refine sn_congr (fun c hc => ?_)
    rw [ind3 n (by omega) c hc]
    simp
theorem mean_val (n1 : 1 ≤ n) (n6 : n ≤ 6) (hr : ∀ i, i < n → r i < 2 ^ n) : sn (fun t => t * hit r n t) 7 = fct (n - 1) * cs r n := by
  have p1 := Nat.two_pow_pos n
  obtain ⟨i, rfl⟩ : ∃ i, n = i + 1 := ⟨n - 1, by omega⟩
  unfold hit
  rw [meanH n6 (by omega) (by omega) (full_n _ (by omega)), cells_full n6 hr (Nat.le_refl _), Nat.add_sub_cancel]
theorem fct_le : ∀ n, n < 7 → fct n ≤ 720 := by decide +kernel
theorem fct_pos : ∀ n, n < 7 → 1 ≤ fct n := by decide +kernel
theorem hit_le (n6 : n ≤ 6) {k : Nat} (hk : k < 7) : hit r n k ≤ 720 := by
  have p1 := Nat.two_pow_pos n
  have h := totH (r := r) n6 (i := n) (S := 2 ^ n - 1) n6 (by omega) (full_n n (by omega))
  have := fct_le n (by omega)
  have : 1 * Hk r n n (2 ^ n - 1) k ≤ sn (fun t => 1 * Hk r n n (2 ^ n - 1) t) 7 := by
    have : ∀ (m : Nat) (f : Nat → Nat) (k : Nat), k < m → f k ≤ sn f m := by
      intro m
      induction m with
      | zero => intro f k h; omega
      | succ m ih =>
        intro f k h
        rw [sn]
        by_cases q : k = m
        · rw [q]; omega
        · have := ih f k (by omega); omega
    exact this 7 (fun t => 1 * Hk r n n (2 ^ n - 1) t) k hk
  unfold hit
  omega
end MN
section SOD
variable {PL : MX → MI → ML → Prop} {PA : MI → Prop} {N : Nat}
theorem s_odds (hPL : frPL PL) (hPA : frPA PA) (hN : 1000 ≤ N) : S_odds N (Inv0 PL PA) := by
  intro X I L x1 x2 hI
  rcases (six_cases x1).symm with ⟨e1, e2⟩ | ⟨w, hw, rfl, e1, e2⟩
  · refine ⟨-9223372036854775808, I, I, ?_, ?_, hI⟩
    · unfold f_X10_odds; rw [bnd1_some e1, if_pos rfl]
    · unfold f_X11_odds; rw [bnd1_some e2, if_pos rfl]
  have iw : inb (nI w) 6 = true := inb_nI hw (by decide)
  have cw : Int32.toNatClampNeg (nI w) = w := nI_clamp (by omega)
  rcases rng_cases x2 1 (by decide) (hi := 1) (by decide) with ⟨x, hx, rfl, e3⟩ | ⟨h1, e3⟩
  · obtain ⟨n, r, J, K, n1, n6, hr, hc, hm, a1, b1, b2, a4, b4⟩ := hits_both (N := N) hI hw hN
    have hcJ : J (12 + 4 * w) 0 = nI n := by rw [a4 _ _ (by omega)]; exact hc.1
    have hmK : K 103 w = nI n := by rw [b4 _ _ (by omega), a4 _ _ (by omega)]; exact hm.1
    have hl := hit_le (r := r) n6 (k := 0) (by omega)
    have f1 := fct_le n (by omega)
    have f2 := fct_pos n (by omega)
    have a1' := a1 0 (by omega)
    have b2' := b2 0 (by omega)
    rw [← nl0] at a1' b2'
    refine ⟨if nI x = 0 then qL (hit r n 0 / Nat.gcd (hit r n 0) (fct n)) else qL (fct n / Nat.gcd (hit r n 0) (fct n)), J, K, ?_, ?_, inv_scr hPL hPA hI ((a4.mono (S' := scr) (fun b j h => by unfold scr; omega)).trans (b4.mono (fun b j h => by unfold scr; omega))) frL.rfl⟩
    · unfold f_X10_odds
      rw [bnd1_some e1, if_neg (by decide), if_neg (nI_pos (by omega)), if_neg (by rw [nl1]; exact nI_le0 (by omega) hx), if_pos iw, cw, bnd2_some a1', hcJ, if_pos (inb_nI (by omega) (by decide)), nI_clamp (by omega), tab0 n (by omega), bnd1_some (lowC (by omega) f2 (by omega) (by omega))]
    · unfold f_X11_odds
      rw [bnd1_some e2, if_neg (by decide), bnd1_some e3, if_neg (by decide), bnd1_some b1, bnd1_some b2', if_pos iw, cw, hmK, bnd1_some (factM n1 n6 (by omega)), to64 (by omega), bnd1_some (partM (by omega) (by omega) f2 (by omega))]
  · refine ⟨-9223372036854775808, I, I, ?_, ?_, hI⟩
    · unfold f_X10_odds
      rw [bnd1_some e1, if_neg (by decide)]
      by_cases q : x2 < 0
      · rw [if_pos q]
      · rw [if_neg q, nl1, if_pos (h1.resolve_left q)]
    · unfold f_X11_odds; rw [bnd1_some e2, if_neg (by decide), bnd1_some e3, if_pos rfl]
theorem meanL {w : Nat} {v2 : Int32} {K : MI} {h : Nat → Nat} (hk : ∀ k, k < 7 → f_X11_hitsOf (nI w) (nI k) K = some (nI (h k))) (hl : ∀ k, k < 7 → h k ≤ 720) (hN : 20 ≤ N) : f_X11_mean_l31 N (nI w) v2 0 0 K = some (qL (sn (fun t => t * h t) 7)) := by
  have key := loop_inv (f := fun s : Int64 × Int32 => f_X11_mean_b31 N (nI w) v2 s.1 s.2 K) (fun k st => st.1 = qL (sn (fun t => t * h t) k) ∧ st.2 = nI k) (fun r => r = qL (sn (fun t => t * h t) 7)) 7 ?_ ?_ N 0 (0, 0) (Nat.zero_le _) (by omega) ⟨qL_0, nl0⟩
  · obtain ⟨r, e, rfl⟩ := key
    exact e
  · rintro k ⟨a, b⟩ hk' ⟨e1, e2⟩
    simp only at e1 e2
    subst e1; subst e2
    refine ⟨(qL (sn (fun t => t * h t) (k + 1)), nI (k + 1)), ?_, rfl, rfl⟩
    show f_X11_mean_b31 N (nI w) v2 _ (nI k) K = _
    have := hl k hk'
    unfold f_X11_mean_b31
    rw [if_pos (by rw [nl7]; exact (nI_ltI (by omega) (by omega)).mpr hk'), bnd1_some (hk k hk'), to64 (by omega), to64 (by omega), qL_mul, qL_add, nI_1]
    rfl
  · rintro ⟨a, b⟩ ⟨e1, e2⟩
    simp only at e1 e2
    subst e1; subst e2
    refine ⟨_, ?_, rfl⟩
    show f_X11_mean_b31 N (nI w) v2 _ (nI 7) K = _
    unfold f_X11_mean_b31
    rw [if_neg (by decide)]
theorem cs_le {r : Nat → Nat} {n : Nat} (n6 : n ≤ 6) (hr : ∀ i, i < n → r i < 2 ^ n) : ∀ {k}, k ≤ n → cs r k ≤ 6 * k
  | 0, _ => Nat.le_refl _
  | k + 1, hk => by
    have t6 := two_le n6
    rw [cs]
    have := cs_le n6 hr (k := k) (by omega)
    have := bcn_le (r k) (by have := hr k (by omega); omega)
    omega
theorem s_mean (hPL : frPL PL) (hPA : frPA PA) (hN : 1000 ≤ N) : S_mean N (Inv0 PL PA) := by
  intro X I L x1 x2 hI
  rcases (six_cases x1).symm with ⟨e1, e2⟩ | ⟨w, hw, rfl, e1, e2⟩
  · refine ⟨-9223372036854775808, I, ?_, ?_, hI⟩
    · unfold f_X10_mean; rw [bnd1_some e1, if_pos rfl]
    · unfold f_X11_mean; rw [bnd1_some e2, if_pos rfl]
  have iw : inb (nI w) 6 = true := inb_nI hw (by decide)
  have cw : Int32.toNatClampNeg (nI w) = w := nI_clamp (by omega)
  rcases rng_cases x2 1 (by decide) (hi := 1) (by decide) with ⟨x, hx, rfl, e3⟩ | ⟨h1, e3⟩
  · obtain ⟨n, r, n1, n6, hr, hc, hm⟩ := hI.b hw
    have t6 := two_le n6
    obtain ⟨K, b1, b2, b4⟩ := hitsM (N := N) hw n1 n6 hr hm hN
    have hmK : K 103 w = nI n := by rw [b4 _ _ (by omega)]; exact hm.1
    have cl := cs_le n6 hr (Nat.le_refl n)
    have f1 := fct_le (n - 1) (by omega)
    have f2 := fct_pos (n - 1) (by omega)
    have f3 := fct_le n (by omega)
    have f4 := fct_pos n (by omega)
    have ef : fct n = n * fct (n - 1) := by
      obtain ⟨i, rfl⟩ : ∃ i, n = i + 1 := ⟨n - 1, by omega⟩
      rfl
    have bE : fct (n - 1) * cs r n ≤ 720 * 36 := Nat.mul_le_mul f1 (by omega)
    have eg : Nat.gcd (fct (n - 1) * cs r n) (fct n) = Nat.gcd (cs r n) n * fct (n - 1) := by
      rw [ef, Nat.mul_comm (fct (n - 1)), Nat.gcd_mul_right]
    refine ⟨if nI x = 0 then qL (cs r n / Nat.gcd (cs r n) n) else qL (n / Nat.gcd (cs r n) n), K, ?_, ?_, inv_scr hPL hPA hI (b4.mono (fun b j h => by unfold scr; omega)) frL.rfl⟩
    · unfold f_X10_mean
      rw [bnd1_some e1, if_neg (by decide), if_neg (nI_pos (by omega)), if_neg (by rw [nl1]; exact nI_le0 (by omega) hx), if_pos iw, cw, bnd1_some (cellsC hc n6 (fun i hi => by have := hr i hi; omega) (by omega)), hc.1, bnd1_some (lowC (by omega) n1 (by omega) (by omega))]
    · unfold f_X11_mean
      rw [bnd1_some e2, if_neg (by decide), bnd1_some e3, if_neg (by decide), bnd1_some b1, bnd1_some (meanL (h := hit r n) b2 (fun k hk => hit_le n6 hk) (by omega)), if_pos iw, cw, hmK, bnd1_some (factM n1 n6 (by omega)), mean_val n1 n6 hr, bnd1_some (partM (by omega) (by omega) f4 (by omega)), eg]
      rw [ef, Nat.mul_comm (fct (n - 1)), Nat.mul_div_mul_right _ _ (by omega), Nat.mul_div_mul_right _ _ (by omega)]
  · refine ⟨-9223372036854775808, I, ?_, ?_, hI⟩
    · unfold f_X10_mean
      rw [bnd1_some e1, if_neg (by decide)]
      by_cases q : x2 < 0
      · rw [if_pos q]
      · rw [if_neg q, nl1, if_pos (h1.resolve_left q)]
    · unfold f_X11_mean; rw [bnd1_some e2, if_neg (by decide), bnd1_some e3, if_pos rfl]
end SOD
