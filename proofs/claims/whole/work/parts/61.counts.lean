/-! ===== rooks: ways and COUNTS ===== -/
def sm (f : Nat → Int32) : Nat → Int32
  | 0 => 0
  | k + 1 => sm f k + f k
theorem sm_congr {f g : Nat → Int32} : ∀ {n : Nat}, (∀ c, c < n → f c = g c) → sm f n = sm g n
  | 0, _ => rfl
  | n + 1, h => by rw [sm, sm, sm_congr (fun c hc => h c (by omega)), h n (by omega)]
theorem sm_zero {f : Nat → Int32} : ∀ {n : Nat}, (∀ c, c < n → f c = 0) → sm f n = 0
  | 0, _ => rfl
  | n + 1, h => by rw [sm, sm_zero (fun c hc => h c (by omega)), h n (by omega), Int32.add_zero]
theorem sm_one {f g : Nat → Int32} {j : Nat} {v : Int32} : ∀ {n : Nat}, j < n → (∀ c, c < n → c ≠ j → g c = f c) → f j = 0 → g j = v → sm g n = sm f n + v
  | 0, h, _, _, _ => by omega
  | n + 1, h, h1, h2, h3 => by
    rw [sm, sm]
    by_cases q : j = n
    · subst q
      rw [sm_congr (fun c hc => h1 c (by omega) (by omega)), h2, h3, Int32.add_zero]
    · rw [sm_one (n := n) (by omega) (fun c hc => h1 c (by omega)) h2 h3, h1 n (by omega) (by omega), Int32.add_assoc, Int32.add_assoc, Int32.add_comm v]
theorem mb1 : ∀ S, S < 64 → ∀ c, c < 6 → S.testBit c = true → S ^^^ 2 ^ c < S ∧ (S ^^^ 2 ^ c).testBit c = false ∧ (S ^^^ 2 ^ c) ||| 2 ^ c = S := by decide +kernel
theorem mb2 : ∀ m, m < 64 → ∀ j, j < 6 → m.testBit j = false → (m ||| 2 ^ j) ^^^ 2 ^ j = m ∧ (m ||| 2 ^ j).testBit j = true ∧ m < m ||| 2 ^ j ∧ m ||| 2 ^ j < 64 := by decide +kernel
theorem mb3 : ∀ m, m < 64 → ∀ j, j < 6 → ∀ c, c < 6 → m.testBit j = false → (m ||| 2 ^ j) ^^^ 2 ^ c = m → c = j := by decide +kernel
theorem freeb : ∀ r, r < 64 → ∀ m, m < 64 → ∀ j, j < 6 → (jshr (nI r &&& (nI m ^^^ (-1))) (nI j) &&& 1) = if (r.testBit j && !m.testBit j) = true then 1 else 0 := by decide +kernel
theorem offb : ∀ m, m < 64 → ∀ j, j < 6 → m.testBit j = true → (nI m &&& (jshl 1 (nI j) ^^^ (-1))) = nI (m ^^^ 2 ^ j) := by decide +kernel
/-- in how many ways ROOKS stand in the rows below i, on just these columns -/
def Wy (r : Nat → Nat) (n : Nat) : Nat → Nat → Int32
  | 0, S => if S = 0 then 1 else 0
  | i + 1, S => Wy r n i S + sm (fun c => if S.testBit c = true ∧ (r i).testBit c = true then Wy r n i (S ^^^ 2 ^ c) else 0) n
def stW (r : Nat → Nat) (n i m j S : Nat) : Int32 := Wy r n i S + sm (fun c => if (S.testBit c = true ∧ (r i).testBit c = true) ∧ (m < S ^^^ 2 ^ c ∨ (S ^^^ 2 ^ c = m ∧ c < j)) then Wy r n i (S ^^^ 2 ^ c) else 0) n
theorem two_lt {n i : Nat} (h : i < n) : 2 ^ i < 2 ^ n := Nat.pow_lt_pow_right (by omega) h
section CN
variable {r : Nat → Nat} {n i m j S : Nat}
theorem stW_start (n6 : n ≤ 6) (hS : S < 2 ^ n) (hm : m + 1 = 2 ^ n) : stW r n i m 0 S = Wy r n i S := by
  unfold stW
  rw [sm_zero (fun c hc => ?_), Int32.add_zero]
  have := Nat.xor_lt_two_pow hS (two_lt hc)
  rw [if_neg (by omega)]
theorem stW_own (n6 : n ≤ 6) (hS : m < 2 ^ n) : stW r n i m j m = Wy r n i m := by
  unfold stW
  have t6 := two_le n6
  rw [sm_zero (fun c hc => ?_), Int32.add_zero]
  by_cases q : m.testBit c = true
  · have := (mb1 m (by omega) c (by omega) q).1
    rw [if_neg (by omega)]
  · rw [if_neg (fun w => q w.1.1)]
theorem stW_next : stW r n i (m + 1) n S = stW r n i m 0 S := by
  unfold stW
  congr 1
  refine sm_congr (fun c hc => ?_)
  have : (m + 1 < S ^^^ 2 ^ c ∨ (S ^^^ 2 ^ c = m + 1 ∧ c < n)) ↔ (m < S ^^^ 2 ^ c ∨ (S ^^^ 2 ^ c = m ∧ c < 0)) := by omega
  simp only [this]
theorem stW_end : stW r n i 0 n S = Wy r n (i + 1) S := by
  unfold stW
  rw [Wy]
  congr 1
  refine sm_congr (fun c hc => ?_)
  have : ((S.testBit c = true ∧ (r i).testBit c = true) ∧ (0 < S ^^^ 2 ^ c ∨ (S ^^^ 2 ^ c = 0 ∧ c < n))) ↔ (S.testBit c = true ∧ (r i).testBit c = true) := by
    constructor
    · exact fun h => h.1
    · exact fun h => ⟨h, by omega⟩
  simp only [this]
theorem stW_skip (h : Wy r n i m = 0) : stW r n i m n S = stW r n i m 0 S := by
  unfold stW
  congr 1
  refine sm_congr (fun c hc => ?_)
  by_cases q : S ^^^ 2 ^ c = m
  · rw [q, h]
    simp
  · have : (m < S ^^^ 2 ^ c ∨ (S ^^^ 2 ^ c = m ∧ c < n)) ↔ (m < S ^^^ 2 ^ c ∨ (S ^^^ 2 ^ c = m ∧ c < 0)) := by omega
    simp only [this]
theorem stW_step (n6 : n ≤ 6) (hj : j < n) (hS : S < 2 ^ n) (hm : m < 2 ^ n) (h : (r i).testBit j = true) (h' : m.testBit j = false) : stW r n i m (j + 1) S = if S = m ||| 2 ^ j then stW r n i m j S + Wy r n i m else stW r n i m j S := by
  have t6 := two_le n6
  obtain ⟨a1, a2, a3, a4⟩ := mb2 m (by omega) j (by omega) h'
  by_cases q : S = m ||| 2 ^ j
  · rw [if_pos q]
    unfold stW
    rw [Int32.add_assoc]
    congr 1
    refine sm_one hj (fun c hc hcj => ?_) ?_ ?_
    · have : (m < S ^^^ 2 ^ c ∨ (S ^^^ 2 ^ c = m ∧ c < j + 1)) ↔ (m < S ^^^ 2 ^ c ∨ (S ^^^ 2 ^ c = m ∧ c < j)) := by omega
      simp only [this]
    · rw [q, a1, if_neg (by omega)]
    · rw [q, a1, if_pos ⟨⟨a2, h⟩, Or.inr ⟨rfl, by omega⟩⟩]
  · rw [if_neg q]
    unfold stW
    congr 1
    refine sm_congr (fun c hc => ?_)
    by_cases z : S.testBit c = true
    · by_cases y : c = j
      · subst y
        obtain ⟨b1, b2, b3⟩ := mb1 S (by omega) c (by omega) z
        have : ¬ S ^^^ 2 ^ c = m := fun w => q (by rw [← w]; exact b3.symm)
        have : (m < S ^^^ 2 ^ c ∨ (S ^^^ 2 ^ c = m ∧ c < c + 1)) ↔ (m < S ^^^ 2 ^ c ∨ (S ^^^ 2 ^ c = m ∧ c < c)) := by omega
        simp only [this]
      · have : (m < S ^^^ 2 ^ c ∨ (S ^^^ 2 ^ c = m ∧ c < j + 1)) ↔ (m < S ^^^ 2 ^ c ∨ (S ^^^ 2 ^ c = m ∧ c < j)) := by omega
        simp only [this]
    · rw [if_neg (fun w => z w.1.1), if_neg (fun w => z w.1.1)]
theorem stW_pass (n6 : n ≤ 6) (hj : j < n) (hS : S < 2 ^ n) (h : ¬ ((r i).testBit j = true ∧ m.testBit j = false)) : stW r n i m (j + 1) S = stW r n i m j S := by
  have t6 := two_le n6
  unfold stW
  congr 1
  refine sm_congr (fun c hc => ?_)
  by_cases z : S.testBit c = true ∧ (r i).testBit c = true
  · by_cases y : c = j
    · subst y
      obtain ⟨b1, b2, b3⟩ := mb1 S (by omega) c (by omega) z.1
      have : ¬ S ^^^ 2 ^ c = m := fun w => h ⟨z.2, by rw [← w]; exact b2⟩
      have : (m < S ^^^ 2 ^ c ∨ (S ^^^ 2 ^ c = m ∧ c < c + 1)) ↔ (m < S ^^^ 2 ^ c ∨ (S ^^^ 2 ^ c = m ∧ c < c)) := by omega
      simp only [this]
    · have : (m < S ^^^ 2 ^ c ∨ (S ^^^ 2 ^ c = m ∧ c < j + 1)) ↔ (m < S ^^^ 2 ^ c ∨ (S ^^^ 2 ^ c = m ∧ c < j)) := by omega
      simp only [this]
  · rw [if_neg (fun w => z w.1), if_neg (fun w => z w.1)]
end CN
def ct (w : Nat → Int32) : Nat → Nat → Int32
  | 0, _ => 0
  | m + 1, k => ct w m k + (if bcn 6 m = k then w m else 0)
theorem ct_congr {w w' : Nat → Int32} {k : Nat} : ∀ {m : Nat}, (∀ S, S < m → w S = w' S) → ct w m k = ct w' m k
  | 0, _ => rfl
  | m + 1, h => by rw [ct, ct, ct_congr (fun S hS => h S (by omega)), h m (by omega)]
theorem bcn_le : ∀ r, r < 64 → bcn 6 r ≤ 6 := by decide +kernel
section CC
variable {r : Nat → Nat} {N n a : Nat}
theorem placeC {I : MI} {i m : Nat} (ha : a + 1 < 92) (n6 : n ≤ 6) (hi : i < n) (hm : m < 2 ^ n) (hr : ∀ i, i < n → r i < 2 ^ n) (hc : BC I a n r) (hw : ∀ S, S < 2 ^ n → I 92 S = stW r n i m 0 S) (hN : 20 ≤ N) : ∃ J, f_X4_placeOne N a (nI i) (nI m) I = some J ∧ (∀ S, S < 2 ^ n → J 92 S = stW r n i m n S) ∧ fr (fun b j => b = 92) I J := by
  have t6 := two_le n6
  have hri := hr i hi
  have key := loop_inv (f := fun s : Int32 × MI => f_X4_placeOne_b15 N a (nI m) (nI (r i) &&& (nI m ^^^ (-1))) s.1 s.2) (fun j st => st.1 = nI j ∧ (∀ S, S < 2 ^ n → st.2 92 S = stW r n i m j S) ∧ fr (fun b j => b = 92) I st.2) (fun J => (∀ S, S < 2 ^ n → J 92 S = stW r n i m n S) ∧ fr (fun b j => b = 92) I J) n ?_ ?_ N 0 (0, I) (Nat.zero_le _) (by omega) ⟨nl0, hw, fr.rfl⟩
  · obtain ⟨J, e, p1, p2⟩ := key
    refine ⟨J, ?_, p1, p2⟩
    unfold f_X4_placeOne f_X4_placeOne_l15
    rw [if_pos (inb_nI (by omega) (by decide)), nI_clamp (by omega), hc.2 i hi]
    simp only [letv]
    rw [bnd1_some e]
  · rintro j ⟨c, J⟩ hj ⟨e1, w1, f1⟩
    simp only at e1 w1 f1
    subst e1
    show ∃ s', f_X4_placeOne_b15 N a (nI m) (nI (r i) &&& (nI m ^^^ (-1))) (nI j) J = _ ∧ _
    unfold f_X4_placeOne_b15
    rw [f1 a 0 (by omega), hc.1, if_pos ((nI_ltI (by omega) (by omega)).mpr hj), freeb (r i) (by omega) m (by omega) j (by omega)]
    by_cases q : (r i).testBit j = true ∧ m.testBit j = false
    · have e2 : ((r i).testBit j && !m.testBit j) = true := by rw [q.1, q.2]; rfl
      obtain ⟨a1, a2, a3, a4⟩ := mb2 m (by omega) j (by omega) q.2
      have a5 : m ||| 2 ^ j < 2 ^ n := Nat.or_lt_two_pow hm (two_lt hj)
      rw [if_pos e2, if_neg (by decide), shl1 j (by omega), nI_or, if_pos (inb_nI (by omega) (by decide)), if_pos (inb_nI (by omega) (by decide)), if_pos (inb_nI (by omega) (by decide)), nI_clamp (by omega), nI_clamp (by omega), w1 _ a5, w1 m hm, stW_own n6 hm]
      simp only [letv]
      refine ⟨_, rfl, nI_1 _, fun S hS => ?_, f1.trans (fr.up rfl)⟩
      show upI J 92 (m ||| 2 ^ j) (stW r n i m j (m ||| 2 ^ j) + Wy r n i m) 92 S = _
      rw [stW_step n6 hj hS hm q.1 q.2, upI_at]
      by_cases z : S = m ||| 2 ^ j
      · rw [if_pos z, if_pos z, z]
      · rw [if_neg z, if_neg z]; exact w1 S hS
    · have e2 : ¬ ((r i).testBit j && !m.testBit j) = true := fun w => by
        rw [Bool.and_eq_true, Bool.not_eq_true'] at w
        exact q w
      rw [if_neg e2, if_pos rfl]
      exact ⟨_, rfl, nI_1 _, fun S hS => by rw [stW_pass n6 hj hS q]; exact w1 S hS, f1⟩
  · rintro ⟨c, J⟩ ⟨e1, w1, f1⟩
    simp only at e1 w1 f1
    subst e1
    refine ⟨J, ?_, w1, f1⟩
    show f_X4_placeOne_b15 N a (nI m) (nI (r i) &&& (nI m ^^^ (-1))) (nI n) J = _
    unfold f_X4_placeOne_b15
    rw [f1 a 0 (by omega), hc.1, if_neg (nI_le0 (by omega) (Nat.le_refl _))]
theorem BC_fr {S : Nat → Nat → Prop} {I J : MI} (h : fr S I J) (h1 : ∀ j, ¬ S a j) (h2 : ∀ j, ¬ S (a + 1) j) (p : BC I a n r) : BC J a n r := ⟨(h _ _ (h1 _)).trans p.1, fun i hi => (h _ _ (h2 _)).trans (p.2 i hi)⟩
theorem rowC {I : MI} {i : Nat} {v2 : Int32} (ha : a + 1 < 92) (n6 : n ≤ 6) (hi : i < n) (hr : ∀ i, i < n → r i < 2 ^ n) (hc : BC I a n r) (hw : ∀ S, S < 2 ^ n → I 92 S = Wy r n i S) (hN : 1000 ≤ N) : ∃ J, f_X4_countsOf_l37 N a v2 (nI i) (nI (2 ^ n) - 1) I = some J ∧ (∀ S, S < 2 ^ n → J 92 S = Wy r n (i + 1) S) ∧ fr (fun b j => b = 92) I J := by
  have t6 := two_le n6
  have p1 := Nat.two_pow_pos n
  refine loop_inv (f := fun s : Int32 × MI => f_X4_countsOf_b37 N a v2 (nI i) s.1 s.2) (fun k st => st.1 = nI (2 ^ n - k) - 1 ∧ (∀ S, S < 2 ^ n → st.2 92 S = if k = 2 ^ n then Wy r n (i + 1) S else stW r n i (2 ^ n - k - 1) 0 S) ∧ fr (fun b j => b = 92) I st.2) _ (2 ^ n) ?_ ?_ N 0 (nI (2 ^ n) - 1, I) (Nat.zero_le _) (by omega) ⟨rfl, fun S hS => by rw [if_neg (by omega), stW_start n6 hS (by omega)]; exact hw S hS, fr.rfl⟩
  · rintro k ⟨c, J⟩ hk ⟨e1, w1, f1⟩
    simp only at e1 w1 f1
    subst e1
    simp only [if_neg (show ¬ k = 2 ^ n by omega)] at w1
    obtain ⟨m, hm⟩ : ∃ m, m = 2 ^ n - k - 1 := ⟨_, rfl⟩
    rw [← hm] at w1
    have em : nI (2 ^ n - k) - 1 = nI m := by rw [dn2 (by omega), hm]
    have em2 : nI (2 ^ n - k) - 1 + -1 = nI (2 ^ n - (k + 1)) - 1 := by rw [dn1 (by omega)]; rfl
    have fin : ∀ S, stW r n i m n S = if k + 1 = 2 ^ n then Wy r n (i + 1) S else stW r n i (2 ^ n - (k + 1) - 1) 0 S := fun S => by
      by_cases z : k + 1 = 2 ^ n
      · rw [if_pos z, show m = 0 by omega, stW_end]
      · rw [if_neg z, ← stW_next, show 2 ^ n - (k + 1) - 1 + 1 = m by omega]
    show ∃ s', f_X4_countsOf_b37 N a v2 (nI i) (nI (2 ^ n - k) - 1) J = _ ∧ _
    unfold f_X4_countsOf_b37
    rw [em2, em, if_neg (nI_pos (by omega)), if_pos (inb_nI (by omega) (by decide)), nI_clamp (by omega), w1 m (by omega), stW_own n6 (by omega)]
    by_cases q : Wy r n i m = 0
    · rw [if_pos q]
      exact ⟨_, rfl, rfl, fun S hS => by show J 92 S = _; rw [w1 S hS, ← fin S, stW_skip q], f1⟩
    · obtain ⟨J1, g1, g2, g3⟩ := placeC (N := N) (I := J) ha n6 hi (show m < 2 ^ n by omega) hr (BC_fr f1 (fun _ => by omega) (fun _ => by omega) hc) w1 (by omega)
      rw [if_neg q, bnd1_some g1]
      exact ⟨_, rfl, rfl, fun S hS => by rw [← fin S]; exact g2 S hS, f1.trans g3⟩
  · rintro ⟨c, J⟩ ⟨e1, w1, f1⟩
    simp only at e1 w1 f1
    subst e1
    refine ⟨J, ?_, fun S hS => by rw [w1 S hS, if_pos trivial], f1⟩
    show f_X4_countsOf_b37 N a v2 (nI i) (nI (2 ^ n - 2 ^ n) - 1) J = _
    unfold f_X4_countsOf_b37
    rw [Nat.sub_self, if_pos (by decide)]
theorem cntC {I : MI} (ha : a + 1 < 92) (n6 : n ≤ 6) (hr : ∀ i, i < n → r i < 2 ^ n) (hc : BC I a n r) (hN : 1000 ≤ N) : ∃ J, f_X4_countsOf N a I = some J ∧ (∀ S, S < 2 ^ n → J 92 S = Wy r n n S) ∧ (∀ k, k < 7 → J 93 k = ct (Wy r n n) (2 ^ n) k) ∧ fr (fun b j => b = 92 ∨ b = 93) I J := by
  have t6 := two_le n6
  have p1 := Nat.two_pow_pos n
  have z0 : Int32.toNatClampNeg 0 = 0 := by decide
  generalize hI1 : upI (fillI I 92 64 0) 92 0 1 = I1
  have a1 : ∀ S, S < 64 → I1 92 S = if S = 0 then 1 else 0 := fun S hS => by
    rw [← hI1, upI_at]
    by_cases q : S = 0
    · rw [if_pos q, if_pos q]
    · rw [if_neg q, if_neg q]; unfold fillI; rw [if_pos ⟨rfl, hS⟩]
  have a2 : fr (fun b j => b = 92) I I1 := fun b j h => by
    rw [← hI1, upI_ne _ _ (Or.inl h)]; unfold fillI; rw [if_neg (fun w => h w.1)]
  obtain ⟨I2, b1, b2, b3⟩ : ∃ J, f_X4_countsOf_l24 N a (nI (2 ^ n)) 0 I1 = some J ∧ (∀ S, S < 2 ^ n → J 92 S = Wy r n n S) ∧ fr (fun b j => b = 92) I J := by
    refine loop_inv (f := fun s : Int32 × MI => f_X4_countsOf_b24 N a (nI (2 ^ n)) s.1 s.2) (fun i st => st.1 = nI i ∧ (∀ S, S < 2 ^ n → st.2 92 S = Wy r n i S) ∧ fr (fun b j => b = 92) I st.2) _ n ?_ ?_ N 0 (0, I1) (Nat.zero_le _) (by omega) ⟨nl0, fun S hS => a1 S (by omega), a2⟩
    · rintro i ⟨c, J⟩ hi ⟨e1, w1, f1⟩
      simp only at e1 w1 f1
      subst e1
      have hcJ := BC_fr (a := a) (n := n) (r := r) f1 (fun _ => by omega) (fun _ => by omega) hc
      obtain ⟨J1, g1, g2, g3⟩ := rowC (N := N) (v2 := nI (2 ^ n)) ha n6 hi hr hcJ w1 hN
      refine ⟨(nI (i + 1), J1), ?_, rfl, g2, f1.trans g3⟩
      show f_X4_countsOf_b24 N a (nI (2 ^ n)) (nI i) J = _
      unfold f_X4_countsOf_b24
      rw [hcJ.1, if_pos ((nI_ltI (by omega) (by omega)).mpr hi), bnd1_some g1, nI_1]
    · rintro ⟨c, J⟩ ⟨e1, w1, f1⟩
      simp only at e1 w1 f1
      subst e1
      refine ⟨J, ?_, w1, f1⟩
      show f_X4_countsOf_b24 N a (nI (2 ^ n)) (nI n) J = _
      unfold f_X4_countsOf_b24
      rw [f1 a 0 (by omega), hc.1, if_neg (nI_le0 (by omega) (Nat.le_refl _))]
  obtain ⟨I4, d1, d2, d3⟩ : ∃ J, f_X4_countsOf_l82 N (nI (2 ^ n)) 0 (fillI I2 93 7 0) = some J ∧ (∀ k, k < 7 → J 93 k = ct (Wy r n n) (2 ^ n) k) ∧ fr (fun b j => b = 93) I2 J := by
    refine loop_inv (f := fun s : Int32 × MI => f_X4_countsOf_b82 N (nI (2 ^ n)) s.1 s.2) (fun m st => st.1 = nI m ∧ (∀ k, k < 7 → st.2 93 k = ct (Wy r n n) m k) ∧ fr (fun b j => b = 93) I2 st.2) _ (2 ^ n) ?_ ?_ N 0 (0, fillI I2 93 7 0) (Nat.zero_le _) (by omega) ⟨nl0, fun k hk => by show fillI I2 93 7 0 93 k = 0; unfold fillI; rw [if_pos ⟨rfl, hk⟩], fun b j h => by show fillI I2 93 7 0 b j = _; unfold fillI; rw [if_neg (fun w => h w.1)]⟩
    · rintro m ⟨c, J⟩ hm ⟨e1, w1, f1⟩
      simp only at e1 w1 f1
      subst e1
      have bl := bcn_le m (by omega)
      refine ⟨(nI (m + 1), upI J 93 (bcn 6 m) (ct (Wy r n n) m (bcn 6 m) + Wy r n n m)), ?_, rfl, fun k hk => ?_, f1.trans (fr.up rfl)⟩
      · show f_X4_countsOf_b82 N (nI (2 ^ n)) (nI m) J = _
        unfold f_X4_countsOf_b82
        rw [if_pos ((nI_ltI (by omega) (by omega)).mpr hm), bnd1_some (bitC m (by omega)), if_pos (inb_nI (by omega) (by decide)), if_pos (inb_nI (by omega) (by decide)), if_pos (inb_nI (by omega) (by decide)), nI_clamp (by omega), nI_clamp (by omega), w1 _ (by omega), f1 92 m (by omega), b2 m hm, nI_1]
        rfl
      · show upI J 93 (bcn 6 m) _ 93 k = _
        rw [upI_at, ct]
        by_cases z : k = bcn 6 m
        · rw [if_pos z, if_pos z.symm, z]
        · rw [if_neg z, if_neg (fun w => z w.symm), Int32.add_zero]; exact w1 k hk
    · rintro ⟨c, J⟩ ⟨e1, w1, f1⟩
      simp only at e1 w1 f1
      subst e1
      refine ⟨J, ?_, w1, f1⟩
      show f_X4_countsOf_b82 N (nI (2 ^ n)) (nI (2 ^ n)) J = _
      unfold f_X4_countsOf_b82
      rw [if_neg (nI_le0 (by omega) (Nat.le_refl _))]
  refine ⟨I4, ?_, fun S hS => by rw [d3 _ _ (by omega)]; exact b2 S hS, d2, fun b j h => by rw [d3 _ _ (by omega), b3 _ _ (by omega)]⟩
  unfold f_X4_countsOf
  rw [bnd1_some (fill_I (by omega) (by decide)), if_pos (by decide), z0, hc.1, shl1 n (by omega)]
  simp only [letv]
  rw [hI1, bnd1_some b1, bnd1_some (fill_I (by omega) (by decide)), bnd1_some d1]
end CC
