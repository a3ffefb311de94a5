/-! ===== cheapest, the class's side ===== -/
theorem nl1000 : (1000 : Int32) = nI 1000 := by decide +kernel
theorem m6b {i j : Nat} : nI i * 6 + nI j = nI (6 * i + j) := by rw [nl6, nI_mul, nI_add, Nat.mul_comm]
theorem m64 {i j : Nat} : nI i * 64 + nI j = nI (64 * i + j) := by rw [nl64, nI_mul, nI_add, Nat.mul_comm]
section CC2
variable {r W : Nat → Nat} {N n k a : Nat}
def okC (r W : Nat → Nat) (n a : Nat) (J : MI) : Prop := BC J a n r ∧ ∀ p, p < 36 → J 7 p = nI (W p)
theorem okC_fr {J J' : MI} (ha : a + 1 < 92) (h : okC r W n a J) (f : fr (fun b j => b = 94) J J') : okC r W n a J' := ⟨BC_fr f (fun _ => by omega) (fun _ => by omega) h.1, fun p hp => by rw [f _ _ (by omega)]; exact h.2 p hp⟩
def TB (r W : Nat → Nat) (n k m : Nat) (J : MI) : Prop := ∀ rem, rem ≤ m → ∀ mask, mask < 2 ^ n → J 94 (64 * (n - rem) + mask) = nI (lst r W n k rem mask)
theorem withC {J : MI} {rem mask j : Nat} (n6 : n ≤ 6) (hr : rem + 1 ≤ n) (hm : mask < 2 ^ n) (hj : j < n) (ho : okC r W n a J) (hW : ∀ p, W p ≤ 9) (hb : TB r W n k rem J) : f_X4_leastWith 7 36 (nI (n - (rem + 1))) (nI j) (nI mask) J = some (nI (W (6 * (n - (rem + 1)) + j) + lst r W n k rem (mask ||| 2 ^ j))) := by
  have t6 := two_le n6
  have ml := Nat.or_lt_two_pow hm (two_lt hj)
  unfold f_X4_leastWith
  rw [m6b, if_pos (inb_nI (by omega) (by decide)), nI_1, shl1 j (by omega), nI_or, m64, if_pos (inb_nI (by omega) (by decide)), nI_clamp (by omega), nI_clamp (by omega), ho.2 _ (by omega), show n - (rem + 1) + 1 = n - rem by omega, hb rem (Nat.le_refl _) _ ml, nI_add]
theorem fromC {J : MI} {rem mask : Nat} (n6 : n ≤ 6) (hrow : ∀ i, i < n → r i < 2 ^ n) (hr : rem + 1 ≤ n) (hm : mask < 2 ^ n) (ho : okC r W n a J) (hW : ∀ p, W p ≤ 9) (hb : TB r W n k rem J) (hN : 20 ≤ N) : f_X4_leastFrom N a 7 36 (nI (n - (rem + 1))) (nI mask) J = some (nI (lst r W n k (rem + 1) mask)) := by
  have t6 := two_le n6
  have key := loop_inv (f := fun s : Int32 × Int32 => f_X4_leastFrom_b19 N a 7 36 (nI (n - (rem + 1))) (nI mask) s.1 s.2 J) (fun j st => st.1 = nI (lm r W n k rem mask j) ∧ st.2 = nI j) (fun q => q = nI (lst r W n k (rem + 1) mask)) n ?_ ?_ N 0 (nI (lst r W n k rem mask), 0) (Nat.zero_le _) (by omega) ⟨rfl, nl0⟩
  · obtain ⟨q, e, rfl⟩ := key
    unfold f_X4_leastFrom f_X4_leastFrom_l19
    rw [nI_1, m64, if_pos (inb_nI (by omega) (by decide)), nI_clamp (by omega), show n - (rem + 1) + 1 = n - rem by omega, hb rem (Nat.le_refl _) _ hm]
    simp only [letv]
    rw [bnd1_some e]
  · rintro j ⟨x, y⟩ hj ⟨e1, e2⟩
    simp only at e1 e2
    subst e1; subst e2
    show ∃ s', f_X4_leastFrom_b19 N a 7 36 (nI (n - (rem + 1))) (nI mask) (nI (lm r W n k rem mask j)) (nI j) J = _ ∧ _
    have ll : lm r W n k rem mask j ≤ 1000 := Nat.le_trans lm_le lst_le
    have l2 : lst r W n k rem (mask ||| 2 ^ j) ≤ 1000 := lst_le
    have l3 := hW (6 * (n - (rem + 1)) + j)
    unfold f_X4_leastFrom_b19
    rw [ho.1.1, if_pos ((nI_ltI (by omega) (by omega)).mpr hj), bnd1_some (hasC ho.1.2 (fun i hi => by have := hrow i hi; omega) n6 (show n - (rem + 1) < n by omega) hj), hasT mask (by omega) j (by omega)]
    by_cases q : (r (n - (rem + 1))).testBit j = true
    · rw [if_pos q, if_neg (by decide)]
      by_cases z : mask.testBit j = true
      · rw [if_pos z, if_neg (by decide)]
        refine ⟨_, rfl, ?_, nI_1 _⟩
        show nI (lm r W n k rem mask j) = _
        rw [lm, if_neg (fun h => by rw [z] at h; exact absurd h.2 (by decide))]
      · have z' : mask.testBit j = false := by simpa using z
        rw [if_neg z, if_pos rfl, bnd1_some (withC n6 hr hm hj ho hW hb)]
        simp only [letv]
        refine ⟨_, rfl, ?_, nI_1 _⟩
        show (if nI _ < nI _ then nI _ else nI _) = _
        rw [lm, if_pos (show (r (n - (rem + 1))).testBit j = true ∧ mask.testBit j = false from ⟨q, z'⟩)]
        by_cases y : W (6 * (n - (rem + 1)) + j) + lst r W n k rem (mask ||| 2 ^ j) < lm r W n k rem mask j
        · rw [if_pos y, if_pos ((nI_ltI (by omega) (by omega)).mpr y)]
        · rw [if_neg y, if_neg (nI_le0 (by omega) (by omega))]
    · rw [if_neg q, if_pos rfl]
      refine ⟨_, rfl, ?_, nI_1 _⟩
      show nI (lm r W n k rem mask j) = _
      rw [lm, if_neg (fun h => q h.1)]
  · rintro ⟨x, y⟩ ⟨e1, e2⟩
    simp only at e1 e2
    subst e1; subst e2
    refine ⟨_, ?_, rfl⟩
    show f_X4_leastFrom_b19 N a 7 36 (nI (n - (rem + 1))) (nI mask) (nI (lm r W n k rem mask n)) (nI n) J = _
    unfold f_X4_leastFrom_b19
    rw [ho.1.1, if_neg (nI_le0 (by omega) (Nat.le_refl _)), lst_lm]
theorem weighC {I : MI} (ha : a + 1 < 92) (n1 : 1 ≤ n) (n6 : n ≤ 6) (hk : k < 2 ^ 31) (hrow : ∀ i, i < n → r i < 2 ^ n) (ho : okC r W n a I) (hW : ∀ p, W p ≤ 9) (hN : 1000 ≤ N) : ∃ J, f_X4_weighCheapest N a 7 36 (nI k) I = some (nI (lst r W n k n 0), J) ∧ TB r W n k n J ∧ fr (fun b j => b = 94) I J := by
  have t6 := two_le n6
  have p1 := Nat.two_pow_pos n
  obtain ⟨I1, a1, a2, a3⟩ : ∃ J, f_X4_weighCheapest_l20 N a 7 36 (nI k) (nI (2 ^ n)) (nI (64 * n)) 0 I = some J ∧ (∀ m, m < 2 ^ n → J 94 (64 * n + m) = nI (lst r W n k 0 m)) ∧ fr (fun b j => b = 94) I J := by
    refine loop_inv (f := fun s : Int32 × MI => f_X4_weighCheapest_b20 N a 7 36 (nI k) (nI (2 ^ n)) (nI (64 * n)) s.1 s.2) (fun m st => st.1 = nI m ∧ (∀ q, q < m → st.2 94 (64 * n + q) = nI (lst r W n k 0 q)) ∧ fr (fun b j => b = 94) I st.2) _ (2 ^ n) ?_ ?_ N 0 (0, I) (Nat.zero_le _) (by omega) ⟨nl0, fun q hq => absurd hq (by omega), fr.rfl⟩
    · rintro m ⟨c, J⟩ hm ⟨e1, w1, f1⟩
      simp only at e1 w1 f1
      subst e1
      have bl := bcn_le m (by omega)
      refine ⟨(nI (m + 1), upI J 94 (64 * n + m) (nI (lst r W n k 0 m))), ?_, rfl, fun q hq => ?_, f1.trans (fr.up rfl)⟩
      · show f_X4_weighCheapest_b20 N a 7 36 (nI k) (nI (2 ^ n)) (nI (64 * n)) (nI m) J = _
        unfold f_X4_weighCheapest_b20
        rw [if_pos ((nI_ltI (by omega) (by omega)).mpr hm), bnd1_some (bitC m (by omega)), nI_add, if_pos (inb_nI (by omega) (by decide)), if_pos (inb_nI (by omega) (by decide)), nI_clamp (by omega), nI_1, lst]
        by_cases z : bcn 6 m = k
        · rw [if_pos z, if_pos (by rw [z]), ← nl0]; rfl
        · rw [if_neg z, if_neg (by rw [nI_eq (by omega) hk]; exact z), ← nl1000]; rfl
      · show upI J 94 (64 * n + m) _ 94 (64 * n + q) = _
        rw [upI_at]
        by_cases z : q = m
        · rw [if_pos (by omega), z]
        · rw [if_neg (by omega)]; exact w1 q (by omega)
    · rintro ⟨c, J⟩ ⟨e1, w1, f1⟩
      simp only at e1 w1 f1
      subst e1
      refine ⟨J, ?_, w1, f1⟩
      show f_X4_weighCheapest_b20 N a 7 36 (nI k) (nI (2 ^ n)) (nI (64 * n)) (nI (2 ^ n)) J = _
      unfold f_X4_weighCheapest_b20
      rw [if_neg (nI_le0 (by omega) (Nat.le_refl _))]
  have rowL : ∀ (rem : Nat) (J : MI), rem + 1 ≤ n → okC r W n a J → TB r W n k rem J → ∃ J', f_X4_weighCheapest_l75 N a 7 36 (nI (2 ^ n)) (nI (n - (rem + 1))) 0 J = some J' ∧ TB r W n k (rem + 1) J' ∧ fr (fun b j => b = 94) J J' := fun rem J hr hoJ hb => by
    obtain ⟨J', c1, c2, c3⟩ : ∃ J', f_X4_weighCheapest_l75 N a 7 36 (nI (2 ^ n)) (nI (n - (rem + 1))) 0 J = some J' ∧ (∀ q, q < 2 ^ n → J' 94 (64 * (n - (rem + 1)) + q) = nI (lst r W n k (rem + 1) q)) ∧ fr (fun b j => b = 94 ∧ 64 * (n - (rem + 1)) ≤ j ∧ j < 64 * (n - (rem + 1)) + 64) J J' := by
      refine loop_inv (f := fun s : Int32 × MI => f_X4_weighCheapest_b75 N a 7 36 (nI (2 ^ n)) (nI (n - (rem + 1))) s.1 s.2) (fun m st => st.1 = nI m ∧ (∀ q, q < m → st.2 94 (64 * (n - (rem + 1)) + q) = nI (lst r W n k (rem + 1) q)) ∧ fr (fun b j => b = 94 ∧ 64 * (n - (rem + 1)) ≤ j ∧ j < 64 * (n - (rem + 1)) + 64) J st.2) _ (2 ^ n) ?_ ?_ N 0 (0, J) (Nat.zero_le _) (by omega) ⟨nl0, fun q hq => absurd hq (by omega), fr.rfl⟩
      · rintro m ⟨c, J1⟩ hm ⟨e1, w1, f1⟩
        simp only at e1 w1 f1
        subst e1
        have hb1 : TB r W n k rem J1 := fun x hx mask hmask => by rw [f1 _ _ (by omega)]; exact hb x hx mask hmask
        refine ⟨(nI (m + 1), upI J1 94 (64 * (n - (rem + 1)) + m) (nI (lst r W n k (rem + 1) m))), ?_, rfl, fun q hq => ?_, f1.trans (fr.up ⟨rfl, by omega, by omega⟩)⟩
        · show f_X4_weighCheapest_b75 N a 7 36 (nI (2 ^ n)) (nI (n - (rem + 1))) (nI m) J1 = _
          unfold f_X4_weighCheapest_b75
          rw [if_pos ((nI_ltI (by omega) (by omega)).mpr hm), bnd1_some (fromC n6 hrow hr hm (okC_fr ha hoJ (f1.mono (fun b j h => h.1))) hW hb1 (by omega)), m64, if_pos (inb_nI (by omega) (by decide)), nI_clamp (by omega), nI_1]
          rfl
        · show upI J1 94 _ _ 94 (64 * (n - (rem + 1)) + q) = _
          rw [upI_at]
          by_cases z : q = m
          · rw [if_pos (by omega), z]
          · rw [if_neg (by omega)]; exact w1 q (by omega)
      · rintro ⟨c, J1⟩ ⟨e1, w1, f1⟩
        simp only at e1 w1 f1
        subst e1
        refine ⟨J1, ?_, w1, f1⟩
        show f_X4_weighCheapest_b75 N a 7 36 (nI (2 ^ n)) (nI (n - (rem + 1))) (nI (2 ^ n)) J1 = _
        unfold f_X4_weighCheapest_b75
        rw [if_neg (nI_le0 (by omega) (Nat.le_refl _))]
    refine ⟨J', c1, fun x hx mask hmask => ?_, c3.mono (fun b j h => h.1)⟩
    by_cases z : x = rem + 1
    · rw [z]; exact c2 mask hmask
    · rw [c3 _ _ (by omega)]; exact hb x (by omega) mask hmask
  obtain ⟨I2, b1, b2, b3⟩ : ∃ J, f_X4_weighCheapest_l67 N a 7 36 (nI (2 ^ n)) (nI n - 1) I1 = some J ∧ TB r W n k n J ∧ fr (fun b j => b = 94) I J := by
    refine loop_inv (f := fun s : Int32 × MI => f_X4_weighCheapest_b67 N a 7 36 (nI (2 ^ n)) s.1 s.2) (fun m st => st.1 = nI (n - m) - 1 ∧ TB r W n k m st.2 ∧ fr (fun b j => b = 94) I st.2) _ n ?_ ?_ N 0 (nI n - 1, I1) (Nat.zero_le _) (by omega) ⟨rfl, fun x hx mask hmask => by rw [show x = 0 by omega]; exact a2 mask hmask, a3⟩
    · rintro m ⟨c, J⟩ hm ⟨e1, w1, f1⟩
      simp only at e1 w1 f1
      subst e1
      obtain ⟨J', c1, c2, c3⟩ := rowL m J hm (okC_fr ha ho f1) w1
      refine ⟨(nI (n - (m + 1)) - 1, J'), ?_, rfl, c2, f1.trans c3⟩
      show f_X4_weighCheapest_b67 N a 7 36 (nI (2 ^ n)) (nI (n - m) - 1) J = _
      unfold f_X4_weighCheapest_b67
      rw [dn1 (show 1 ≤ n - m by omega), dn2 (show 1 ≤ n - m by omega), if_neg (nI_pos (by omega)), show n - m - 1 = n - (m + 1) by omega, bnd1_some c1]
    · rintro ⟨c, J⟩ ⟨e1, w1, f1⟩
      simp only at e1 w1 f1
      subst e1
      refine ⟨J, ?_, w1, f1⟩
      show f_X4_weighCheapest_b67 N a 7 36 (nI (2 ^ n)) (nI (n - n) - 1) J = _
      unfold f_X4_weighCheapest_b67
      rw [Nat.sub_self, if_pos (by decide)]
  refine ⟨I2, ?_, b2, b3⟩
  have e0 := b2 n (Nat.le_refl _) 0 p1
  rw [show 64 * (n - n) + 0 = 0 by omega] at e0
  unfold f_X4_weighCheapest
  rw [ho.1.1, shl1 n (by omega), show nI n * 64 = nI (64 * n) by rw [nl64, nI_mul, Nat.mul_comm], bnd1_some a1, a3 _ _ (by omega), ho.1.1, bnd1_some b1, if_pos (by decide), show Int32.toNatClampNeg 0 = 0 by decide, e0]
theorem colC {J : MI} {rem mask : Nat} {c : Nat} {t : List Nat} (n6 : n ≤ 6) (hrow : ∀ i, i < n → r i < 2 ^ n) (hr : rem + 1 ≤ n) (hm : mask < 2 ^ n) (ho : okC r W n a J) (hW : ∀ p, W p ≤ 9) (hb : TB r W n k n J) (hf : fir r W n k (rem + 1) mask = some (c :: t)) (hN : 20 ≤ N) : f_X4_columnOfLeast N a 7 36 (nI (n - (rem + 1))) (nI mask) J = some (if c < n then nI c else -1) := by
  have t6 := two_le n6
  obtain ⟨c', t', e0, c1, c2, c3, c4⟩ := cheap_col n6 hW hr hf
  injection e0 with e0 e0'
  subst e0; subst e0'
  have hb1 : TB r W n k rem J := fun x hx => hb x (by omega)
  have hl : J 94 (64 * (n - (rem + 1)) + mask) = nI (lst r W n k (rem + 1) mask) := hb (rem + 1) hr mask hm
  have key := loop_inv2 (f := fun s : Int32 => f_X4_columnOfLeast_b3 N a 7 36 (nI (n - (rem + 1))) (nI mask) s J) (fun j s => s = nI j ∧ j ≤ c) (fun q => (c < n ∧ q = .inr (nI c)) ∨ (c = n ∧ q = .inl ())) n ?_ N 0 0 (Nat.zero_le _) (by omega) ⟨nl0, Nat.zero_le _⟩
  · obtain ⟨q, e, h⟩ := key
    unfold f_X4_columnOfLeast f_X4_columnOfLeast_l3
    rcases h with ⟨h1, rfl⟩ | ⟨h1, rfl⟩
    · rw [bns1_inr e, if_pos h1]
    · rw [bns1_inl e, if_neg (by omega)]
  · rintro j s hj ⟨rfl, hjc⟩
    show (∃ s', f_X4_columnOfLeast_b3 N a 7 36 (nI (n - (rem + 1))) (nI mask) (nI j) J = _ ∧ _) ∨ (∃ q, f_X4_columnOfLeast_b3 N a 7 36 (nI (n - (rem + 1))) (nI mask) (nI j) J = _ ∧ _)
    unfold f_X4_columnOfLeast_b3
    rw [ho.1.1]
    by_cases z : j < n
    · rw [if_pos ((nI_ltI (by omega) (by omega)).mpr z), bnd1_some (hasC ho.1.2 (fun i hi => by have := hrow i hi; omega) n6 (show n - (rem + 1) < n by omega) z), hasT mask (by omega) j (by omega)]
      by_cases y : (r (n - (rem + 1))).testBit j = true ∧ mask.testBit j = false
      · have l2 : lst r W n k rem (mask ||| 2 ^ j) ≤ 1000 := lst_le
        have l3 := hW (6 * (n - (rem + 1)) + j)
        have l4 : lst r W n k (rem + 1) mask ≤ 1000 := lst_le
        rw [if_pos y.1, if_neg (by decide), if_neg (show ¬ mask.testBit j = true by rw [y.2]; decide), if_pos rfl, bnd1_some (withC n6 hr hm z ho hW hb1), m64, if_pos (inb_nI (by omega) (by decide)), nI_clamp (by omega), hl]
        by_cases x : j = c
        · right
          subst x
          rw [if_pos (by rw [(c2 z).2.1])]
          exact ⟨_, rfl, Or.inl ⟨z, rfl⟩⟩
        · left
          have := c4 j (by omega) y
          rw [if_neg (by rw [nI_eq (by omega) (by omega)]; exact this)]
          exact ⟨_, rfl, ⟨nI_1 _, by omega⟩, z⟩
      · left
        have jc : j ≠ c := fun h => y (by rw [h]; exact (c2 (by omega)).1)
        by_cases x : (r (n - (rem + 1))).testBit j = true
        · have x' : mask.testBit j = true := by
            cases h : mask.testBit j with
            | true => rfl
            | false => exact absurd ⟨x, h⟩ y
          rw [if_pos x, if_neg (by decide), if_pos x', if_neg (by decide)]
          exact ⟨_, rfl, ⟨nI_1 _, by omega⟩, z⟩
        · rw [if_neg x, if_pos rfl]
          exact ⟨_, rfl, ⟨nI_1 _, by omega⟩, z⟩
    · right
      rw [if_neg (nI_le0 (by omega) (by omega))]
      exact ⟨_, rfl, Or.inr ⟨by omega, rfl⟩⟩
theorem findC {J : MI} {p : List Nat} {x : Nat} (n6 : n ≤ 6) (hrow : ∀ i, i < n → r i < 2 ^ n) (hx : x < n) (ho : okC r W n a J) (hW : ∀ p, W p ≤ 9) (hb : TB r W n k n J) (hf : fir r W n k n 0 = some p) (hN : 20 ≤ N) : f_X4_cheapestColumn N a 7 36 (nI x) J = some (if p.getD x 0 < n then nI (p.getD x 0) else -1) := by
  have pl := (fir_len hf).1
  have key := loop_inv (f := fun s : Int32 × Int32 × Int32 => f_X4_cheapestColumn_b9 N a 7 36 (nI x) s.1 s.2.1 s.2.2 J) (fun i st => st.2.2 = nI i ∧ (∃ m, m < 2 ^ n ∧ st.1 = nI m ∧ fir r W n k (n - i) m = some (p.drop i)) ∧ (1 ≤ i → st.2.1 = if p.getD (i - 1) 0 < n then nI (p.getD (i - 1) 0) else -1)) (fun q => q = if p.getD x 0 < n then nI (p.getD x 0) else -1) (x + 1) ?_ ?_ N 0 (0, -1, 0) (Nat.zero_le _) (by omega) ⟨nl0, ⟨0, Nat.two_pow_pos n, nl0, by simpa using hf⟩, fun h => by omega⟩
  · obtain ⟨q, e, rfl⟩ := key
    unfold f_X4_cheapestColumn f_X4_cheapestColumn_l9
    exact bnd1_some e
  · rintro i ⟨m0, c0, i0⟩ hi ⟨e1, ⟨m, hm, e2, hfi⟩, e3⟩
    simp only at e1 e2 e3
    subst e1; subst e2
    obtain ⟨rem, hrem⟩ : ∃ rem, n - i = rem + 1 := ⟨n - i - 1, by omega⟩
    rw [hrem] at hfi
    have hdr : p.drop i = p.getD i 0 :: p.drop (i + 1) := by
      rw [List.drop_eq_getElem_cons (by omega)]
      congr 1
      rw [List.getD_eq_getElem?_getD, List.getElem?_eq_getElem (by omega)]
      rfl
    rw [hdr] at hfi
    have cc := colC (N := N) n6 hrow (by omega) hm ho hW hb hfi hN
    rw [show n - (rem + 1) = i by omega] at cc
    obtain ⟨c', t', e0, c1, c2, c3, c4⟩ := cheap_col n6 hW (by omega) hfi
    injection e0 with e0 e0'
    rw [← e0'] at c2 c3
    rw [← e0] at c1 c2 c3
    show ∃ s', f_X4_cheapestColumn_b9 N a 7 36 (nI x) (nI m) c0 (nI i) J = _ ∧ _
    unfold f_X4_cheapestColumn_b9
    rw [if_neg (nI_le0 (by omega) (by omega)), ho.1.1, if_pos ((nI_ltI (by omega) (by omega)).mpr (by omega)), bnd1_some cc]
    by_cases z : p.getD i 0 < n
    · rw [if_pos z, if_neg (nI_pos (by omega)), shl1 _ (by omega), nI_or]
      refine ⟨_, rfl, nI_1 _, ⟨m ||| 2 ^ p.getD i 0, Nat.or_lt_two_pow hm (two_lt z), rfl, ?_⟩, fun _ => ?_⟩
      · rw [show n - (i + 1) = rem by omega]; exact (c2 z).2.2
      · show nI (p.getD i 0) = _
        rw [Nat.add_sub_cancel, if_pos z]
    · rw [if_neg z, if_pos (by decide)]
      refine ⟨_, rfl, nI_1 _, ⟨m, hm, ?_, ?_⟩, fun _ => ?_⟩
      · show nI m ||| 0 = nI m
        rw [nl0, nI_or, Nat.or_zero]
      · rw [show n - (i + 1) = rem by omega]; exact c3 (by omega)
      · show (-1 : Int32) = _
        rw [Nat.add_sub_cancel, if_neg z]
  · rintro ⟨m0, c0, i0⟩ ⟨e1, ⟨m, hm, e2, hfi⟩, e3⟩
    simp only at e1 e2 e3
    subst e1; subst e2
    refine ⟨c0, ?_, by rw [e3 (by omega), Nat.add_sub_cancel]⟩
    show f_X4_cheapestColumn_b9 N a 7 36 (nI x) (nI m) c0 (nI (x + 1)) J = _
    unfold f_X4_cheapestColumn_b9
    rw [if_pos ((nI_ltI (by omega) (by omega)).mpr (by omega))]
end CC2
