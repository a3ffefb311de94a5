/-! ===== listed: stands and their numbers ===== -/
def rg (a : Nat) : Nat → List Nat
  | 0 => []
  | m + 1 => a :: rg (a + 1) m
theorem rg_add : ∀ {m a m' : Nat}, rg a (m + m') = rg a m ++ rg (a + m) m'
  | 0, a, m' => by rw [Nat.zero_add]; rfl
  | m + 1, a, m' => by
    rw [show m + 1 + m' = (m + m') + 1 by omega, rg, rg, rg_add, List.cons_append, show a + 1 + m = a + (m + 1) by omega]
theorem rg_end {m a : Nat} : rg a (m + 1) = rg a m ++ [a + m] := by rw [rg_add]; rfl
theorem rg_mem : ∀ {m a x : Nat}, x ∈ rg a m → a ≤ x ∧ x < a + m
  | 0, a, x, h => by simp [rg] at h
  | m + 1, a, x, h => by
    rw [rg] at h
    rcases List.mem_cons.mp h with rfl | h
    · omega
    · have := rg_mem h; omega
theorem rg_shift {d : Nat} : ∀ {m a : Nat}, rg (d + a) m = (rg a m).map (d + ·)
  | 0, a => rfl
  | m + 1, a => by rw [rg, rg, List.map_cons, ← rg_shift, Nat.add_assoc]
def vec (B : Nat) : Nat → Nat → List Nat
  | 0, _ => []
  | m + 1, s => s / B ^ m :: vec B m (s % B ^ m)
def okb (r : Nat → Nat) (n k : Nat) : Nat → List Nat → Nat → Bool
  | _, [], mask => bcn 6 mask == k
  | i, c :: v, mask => if c < n then ((r i).testBit c && !mask.testBit c && okb r n k (i + 1) v (mask ||| 2 ^ c)) else okb r n k (i + 1) v mask
def smk (n : Nat) : List Nat → Nat
  | [] => 0
  | c :: v => if c < n then smk n v ||| 2 ^ c else smk n v
def cok (r : Nat → Nat) (n : Nat) : Nat → List Nat → Bool
  | _, [] => true
  | i, c :: v => if c < n then ((r i).testBit c && !(smk n v).testBit c && cok r n (i + 1) v) else cok r n (i + 1) v
theorem lb1 : ∀ s, s < 64 → ∀ m, m < 64 → ∀ c, c < 6 → (s &&& (m ||| 2 ^ c) == 0) = ((s &&& m == 0) && !s.testBit c) := by decide +kernel
theorem lb2 : ∀ s, s < 64 → ∀ m, m < 64 → ∀ c, c < 6 → ((s ||| 2 ^ c) &&& m == 0) = ((s &&& m == 0) && !m.testBit c) := by decide +kernel
section LI
variable {r W : Nat → Nat} {n k : Nat}
theorem smk_lt (n6 : n ≤ 6) : ∀ {v : List Nat}, smk n v < 2 ^ n
  | [] => Nat.two_pow_pos n
  | c :: v => by
    rw [smk]
    split
    · rename_i h
      exact Nat.or_lt_two_pow (smk_lt n6) (two_lt h)
    · exact smk_lt n6
theorem okb_cok (n6 : n ≤ 6) : ∀ {v : List Nat} {i mask : Nat}, mask < 2 ^ n → okb r n k i v mask = (cok r n i v && (smk n v &&& mask == 0) && (bcn 6 (mask ||| smk n v) == k))
  | [], i, mask, _ => by
    have h0 : (0 &&& mask == 0) = true := by simp
    rw [okb, cok, smk, h0, Nat.or_zero]; rfl
  | c :: v, i, mask, hm => by
    have t6 := two_le n6
    have sl := smk_lt n6 (v := v)
    rw [okb, cok, smk]
    by_cases q : c < n
    · rw [if_pos q, if_pos q, if_pos q, okb_cok n6 (Nat.or_lt_two_pow hm (two_lt q)), lb1 _ (by omega) _ (by omega) c (by omega), lb2 _ (by omega) _ (by omega) c (by omega), show mask ||| 2 ^ c ||| smk n v = mask ||| (smk n v ||| 2 ^ c) by rw [Nat.or_assoc, Nat.or_comm (2 ^ c)]]
      generalize (r i).testBit c = x1
      generalize mask.testBit c = x2
      generalize cok r n (i + 1) v = x3
      generalize (smk n v &&& mask == 0) = x4
      generalize (smk n v).testBit c = x5
      generalize (bcn 6 (mask ||| (smk n v ||| 2 ^ c)) == k) = x6
      revert x1 x2 x3 x4 x5 x6
      decide
    · rw [if_neg q, if_neg q, if_neg q, okb_cok n6 hm]
theorem al_vec : ∀ {rem mask : Nat}, rem ≤ n → al r n k rem mask = ((rg 0 ((n + 1) ^ rem)).map (vec (n + 1) rem)).filter (fun v => okb r n k (n - rem) v mask)
  | 0, mask, _ => by
    rw [al, Nat.pow_zero]
    show _ = List.filter _ [[]]
    rw [List.filter_cons, List.filter_nil]
    show _ = if (bcn 6 mask == k) = true then _ else _
    by_cases q : bcn 6 mask = k
    · rw [if_pos q, if_pos (by simpa using q)]
    · rw [if_neg q, if_neg (by simpa using q)]
  | rem + 1, mask, hr => by
    have ih : ∀ m, al r n k rem m = ((rg 0 ((n + 1) ^ rem)).map (vec (n + 1) rem)).filter (fun v => okb r n k (n - rem) v m) := fun m => al_vec (by omega)
    have p0 : 0 < (n + 1) ^ rem := Nat.pow_pos (by omega)
    have er : n - (rem + 1) + 1 = n - rem := by omega
    have blkE : ∀ c, blk r n k rem mask c = ((rg (c * (n + 1) ^ rem) ((n + 1) ^ rem)).map (vec (n + 1) (rem + 1))).filter (fun v => okb r n k (n - (rem + 1)) v mask) := fun c => by
      have e1 : (rg (c * (n + 1) ^ rem) ((n + 1) ^ rem)).map (vec (n + 1) (rem + 1)) = ((rg 0 ((n + 1) ^ rem)).map (vec (n + 1) rem)).map (c :: ·) := by
        have := rg_shift (d := c * (n + 1) ^ rem) (m := (n + 1) ^ rem) (a := 0)
        rw [Nat.add_zero] at this
        rw [this, List.map_map, List.map_map]
        refine List.map_congr_left (fun t ht => ?_)
        have hl := (rg_mem ht).2
        show vec (n + 1) (rem + 1) (c * (n + 1) ^ rem + t) = c :: vec (n + 1) rem t
        rw [vec, Nat.mul_comm, Nat.mul_add_div p0, Nat.div_eq_of_lt (by omega), Nat.mul_add_mod, Nat.mod_eq_of_lt (by omega), Nat.add_zero]
      rw [e1, List.filter_map]
      unfold blk
      by_cases q : c < n
      · rw [if_pos q]
        by_cases z : (r (n - (rem + 1))).testBit c = true ∧ mask.testBit c = false
        · rw [if_pos z, ih]
          congr 1
          refine List.filter_congr (fun v _ => ?_)
          show _ = okb r n k (n - (rem + 1)) (c :: v) mask
          rw [okb, if_pos q, z.1, z.2, er]
          rfl
        · rw [if_neg z]
          symm
          rw [List.map_eq_nil_iff, List.filter_eq_nil_iff]
          intro v _
          show ¬ okb r n k (n - (rem + 1)) (c :: v) mask = true
          rw [okb, if_pos q]
          intro h
          rw [Bool.and_eq_true, Bool.and_eq_true, Bool.not_eq_true'] at h
          exact z h.1
      · rw [if_neg q, ih]
        congr 1
        refine List.filter_congr (fun v _ => ?_)
        show _ = okb r n k (n - (rem + 1)) (c :: v) mask
        rw [okb, if_neg q, er]
    have segE : ∀ m c, seg (blk r n k rem mask) c m = ((rg (c * (n + 1) ^ rem) (m * (n + 1) ^ rem)).map (vec (n + 1) (rem + 1))).filter (fun v => okb r n k (n - (rem + 1)) v mask) := by
      intro m
      induction m with
      | zero => intro c; rw [Nat.zero_mul]; rfl
      | succ m ihm =>
        intro c
        rw [seg, blkE, ihm, show (m + 1) * (n + 1) ^ rem = (n + 1) ^ rem + m * (n + 1) ^ rem by rw [Nat.succ_mul, Nat.add_comm], rg_add, List.map_append, List.filter_append, Nat.succ_mul]
    rw [al_blk, segE, Nat.zero_mul, Nat.pow_succ, Nat.mul_comm ((n + 1) ^ rem)]
/-- the stand's letter for each row -/
theorem vec_step {B m s : Nat} (hB : 0 < B) : vec B (m + 1) (s % B ^ (m + 1)) = s / B ^ m % B :: vec B m (s % B ^ m) := by
  rw [vec, Nat.pow_succ, Nat.mod_mul_right_div_self, Nat.mod_mul_right_mod]
theorem vec_get {B : Nat} (hB : 0 < B) : ∀ {m s i : Nat}, s < B ^ m → i < m → (vec B m s).getD i 0 = s / B ^ (m - 1 - i) % B
  | 0, s, i, _, h => by omega
  | m + 1, s, 0, hs, h => by
    show s / B ^ m = s / B ^ (m + 1 - 1 - 0) % B
    rw [Nat.add_sub_cancel, Nat.sub_zero, Nat.mod_eq_of_lt]
    rw [Nat.pow_succ] at hs
    exact Nat.div_lt_of_lt_mul hs
  | m + 1, s, i + 1, hs, h => by
    show (vec B m (s % B ^ m)).getD i 0 = _
    have p0 : 0 < B ^ m := Nat.pow_pos hB
    rw [vec_get hB (Nat.mod_lt _ p0) (by omega), show m + 1 - 1 - (i + 1) = m - 1 - i by omega]
    have e : B ^ m = B ^ (m - 1 - i) * B * B ^ i := by
      rw [← Nat.pow_succ, ← Nat.pow_add]; congr 1; omega
    have d : B ^ (m - 1 - i) * B ∣ B ^ m := ⟨B ^ i, e⟩
    rw [← Nat.mod_mul_right_div_self, ← Nat.mod_mul_right_div_self, Nat.mod_mod_of_dvd _ d]
theorem vec_le {B : Nat} (hB : 0 < B) : ∀ {m s : Nat}, s < B ^ m → ∀ c ∈ vec B m s, c < B
  | 0, s, _, c, h => by simp [vec] at h
  | m + 1, s, hs, c, h => by
    rw [vec] at h
    rcases List.mem_cons.mp h with rfl | h
    · rw [Nat.pow_succ] at hs
      exact Nat.div_lt_of_lt_mul hs
    · exact vec_le hB (Nat.mod_lt _ (Nat.pow_pos hB)) c h
theorem vec_len {B : Nat} : ∀ {m s : Nat}, (vec B m s).length = m
  | 0, _ => rfl
  | m + 1, s => by rw [vec, List.length_cons, vec_len]
end LI
section LC
variable {r W : Nat → Nat} {N n k a : Nat}
/-- what the class puts down for a stand -/
def ws (r W : Nat → Nat) (n k s : Nat) : Int32 := if okb r n k 0 (vec (n + 1) n s) 0 = true then nI (wl n W 0 (vec (n + 1) n s)) else -1
theorem standC {J : MI} {s : Nat} (n1 : 1 ≤ n) (n6 : n ≤ 6) (hk : k < 2 ^ 31) (hrow : ∀ i, i < n → r i < 2 ^ n) (ho : okC r W n a J) (hs : s < (n + 1) ^ n) (hs31 : s < 2 ^ 31) (hN : 20 ≤ N) : f_X4_weightOfStand N a 7 36 (nI s) (nI k) J = some (ws r W n k s) := by
  have t6 := two_le n6
  have B0 : 0 < n + 1 := by omega
  have full : s % (n + 1) ^ n = s := Nat.mod_eq_of_lt hs
  have mono : ∀ d p, p + d ≤ n → cok r n (n - (p + d)) (vec (n + 1) (p + d) (s % (n + 1) ^ (p + d))) = true → cok r n (n - p) (vec (n + 1) p (s % (n + 1) ^ p)) = true := by
    intro d
    induction d with
    | zero => intro p _ h; exact h
    | succ d ih =>
      intro p hp h
      refine ih p (by omega) ?_
      rw [show p + (d + 1) = (p + d) + 1 by omega, vec_step B0, cok] at h
      rw [show n - (p + d + 1) + 1 = n - (p + d) by omega] at h
      split at h
      · rw [Bool.and_eq_true] at h; exact h.2
      · exact h
  have key := loop_inv2 (f := fun st : Int32 × Int32 × Int32 × Int32 => f_X4_weightOfStand_b17 N a 7 36 (nI k) st.1 st.2.1 st.2.2.1 st.2.2.2 J) (fun p st => st.1 = nI (s / (n + 1) ^ p) ∧ st.2.1 = nI (smk n (vec (n + 1) p (s % (n + 1) ^ p))) ∧ st.2.2.1 = nI (wl n W (n - p) (vec (n + 1) p (s % (n + 1) ^ p))) ∧ st.2.2.2 = nI (n - p) - 1 ∧ cok r n (n - p) (vec (n + 1) p (s % (n + 1) ^ p)) = true) (fun q => (q = .inl (nI (smk n (vec (n + 1) n s)), nI (wl n W 0 (vec (n + 1) n s))) ∧ cok r n 0 (vec (n + 1) n s) = true) ∨ (q = .inr (-1) ∧ cok r n 0 (vec (n + 1) n s) = false)) n ?_ N 0 (nI s, 0, 0, nI n - 1) (Nat.zero_le _) (by omega) ⟨by show nI s = _; rw [Nat.pow_zero, Nat.div_one], nl0, nl0, rfl, rfl⟩
  · obtain ⟨q, e, h⟩ := key
    unfold f_X4_weightOfStand f_X4_weightOfStand_l17
    rw [ho.1.1, e]
    have p0 := Nat.two_pow_pos n
    have sl := smk_lt n6 (v := vec (n + 1) n s)
    have bl := bcn_le (smk n (vec (n + 1) n s)) (by omega)
    unfold ws
    rw [okb_cok n6 p0, Nat.and_zero, Nat.zero_or]
    rcases h with ⟨rfl, h⟩ | ⟨rfl, h⟩
    · simp only [bns2]
      rw [bnd1_some (bitC _ (by omega)), h]
      by_cases z : bcn 6 (smk n (vec (n + 1) n s)) = k
      · rw [if_pos (by rw [z]), if_pos (by simp [z])]
      · rw [if_neg (by rw [nI_eq (by omega) hk]; exact z), if_neg (by simp [z])]
    · simp only [bns2]
      rw [h, if_neg (by simp)]
  · rintro p ⟨s1, s2, s3, s4⟩ hp ⟨e1, e2, e3, e4, hc⟩
    simp only at e1 e2 e3 e4
    subst e1; subst e2; subst e3; subst e4
    show (∃ s', f_X4_weightOfStand_b17 N a 7 36 (nI k) (nI (s / (n + 1) ^ p)) (nI (smk n (vec (n + 1) p (s % (n + 1) ^ p)))) (nI (wl n W (n - p) (vec (n + 1) p (s % (n + 1) ^ p)))) (nI (n - p) - 1) J = _ ∧ _) ∨ (∃ q, f_X4_weightOfStand_b17 N a 7 36 (nI k) (nI (s / (n + 1) ^ p)) (nI (smk n (vec (n + 1) p (s % (n + 1) ^ p)))) (nI (wl n W (n - p) (vec (n + 1) p (s % (n + 1) ^ p)))) (nI (n - p) - 1) J = _ ∧ _)
    unfold f_X4_weightOfStand_b17
    by_cases z : p < n
    · have dl := Nat.div_le_self s ((n + 1) ^ p)
      have cl : s / (n + 1) ^ p % (n + 1) < n + 1 := Nat.mod_lt _ B0
      have st := vec_step (B := n + 1) (m := p) (s := s) B0
      have ed : s / (n + 1) ^ p / (n + 1) = s / (n + 1) ^ (p + 1) := by rw [Nat.div_div_eq_div_mul, ← Nat.pow_succ]
      have sl := smk_lt n6 (v := vec (n + 1) p (s % (n + 1) ^ p))
      have nz : ¬ nI n + 1 = 0 := by rw [nI_1, nl0, nI_eq (by omega) (by omega)]; omega
      generalize hcc : s / (n + 1) ^ p % (n + 1) = c at cl st
      generalize hvv : vec (n + 1) p (s % (n + 1) ^ p) = v at hc st sl
      rw [dn1 (show 1 ≤ n - p by omega), dn2 (show 1 ≤ n - p by omega), if_neg (nI_pos (by omega)), ho.1.1, if_neg nz, if_neg nz, nI_1, nI_rem (by omega) (by omega), hcc, nI_div (by omega) (by omega), ed]
      have ei : n - (p + 1) = n - p - 1 := by omega
      have ei1 : n - (p + 1) + 1 = n - p := by omega
      have er4 : nI (n - p - 1) - 1 = nI (n - (p + 1)) - 1 := by rw [ei]
      by_cases y : c = n
      · left
        rw [if_pos (by rw [y])]
        refine ⟨_, rfl, ⟨rfl, ?_, ?_, er4, ?_⟩, z⟩
        · show nI (smk n v) = _
          rw [st, smk, if_neg (by omega)]
        · show nI (wl n W (n - p) v) = _
          rw [st, wl, if_neg (by omega), ei1, Nat.zero_add]
        · rw [st, cok, if_neg (by omega), ei1]; exact hc
      · have cn : c < n := by omega
        rw [if_neg (by rw [nI_eq (by omega) (by omega)]; exact y), bnd1_some (hasC ho.1.2 (fun i hi => by have := hrow i hi; omega) n6 (show n - p - 1 < n by omega) cn), hasT _ (by omega) c (by omega)]
        have bad : ¬ ((r (n - p - 1)).testBit c = true ∧ (smk n v).testBit c = false) → cok r n 0 (vec (n + 1) n s) = false := fun h => by
          cases g : cok r n 0 (vec (n + 1) n s) with
          | false => rfl
          | true =>
            exfalso
            have := mono (n - (p + 1)) (p + 1) (by omega) (by rw [show p + 1 + (n - (p + 1)) = n by omega, Nat.sub_self, full]; exact g)
            rw [st, cok, if_pos cn, ei, Bool.and_eq_true, Bool.and_eq_true, Bool.not_eq_true'] at this
            exact h this.1
        by_cases x : (r (n - p - 1)).testBit c = true
        · rw [if_pos x, if_neg (by decide)]
          by_cases u : (smk n v).testBit c = true
          · right
            rw [if_pos u, if_neg (by decide)]
            exact ⟨_, rfl, Or.inr ⟨rfl, bad (fun h => by rw [u] at h; exact absurd h.2 (by decide))⟩⟩
          · left
            have u' : (smk n v).testBit c = false := by simpa using u
            rw [if_neg u, if_pos rfl]
            simp only [letv]
            rw [m6b, if_pos (inb_nI (by omega) (by decide)), nI_clamp (by omega), ho.2 _ (by omega), shl1 c (by omega), nI_or, nI_add]
            refine ⟨_, rfl, ⟨rfl, ?_, ?_, er4, ?_⟩, z⟩
            · show nI (smk n v ||| 2 ^ c) = _
              rw [st, smk, if_pos cn]
            · show nI (wl n W (n - p) v + W (6 * (n - p - 1) + c)) = _
              rw [st, wl, if_pos cn, ei1, ei, Nat.add_comm]
            · rw [st, cok, if_pos cn, ei1, ei, x, u', hc]; rfl
        · right
          rw [if_neg x, if_pos rfl]
          exact ⟨_, rfl, Or.inr ⟨rfl, bad (fun h => x h.1)⟩⟩
    · right
      have : p = n := by omega
      subst this
      rw [Nat.sub_self] at hc ⊢
      rw [full] at hc ⊢
      rw [if_pos (by decide)]
      exact ⟨_, rfl, Or.inl ⟨rfl, hc⟩⟩
end LC
