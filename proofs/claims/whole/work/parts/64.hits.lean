/-! ===== HITS: what is taken off by turns ===== -/
theorem sm_add {f g : Nat → Int32} : ∀ n, sm (fun c => f c + g c) n = sm f n + sm g n
  | 0 => by rw [sm, sm, sm, Int32.add_zero]
  | n + 1 => by rw [sm, sm, sm, sm_add n]; grind
theorem sm_mul {f : Nat → Int32} (v : Int32) : ∀ n, sm (fun c => v * f c) n = v * sm f n
  | 0 => by rw [sm, sm]; grind
  | n + 1 => by rw [sm, sm, sm_mul v n]; grind
theorem sm_swap {f : Nat → Nat → Int32} (m : Nat) : ∀ n, sm (fun a => sm (fun b => f a b) m) n = sm (fun b => sm (fun a => f a b) n) m
  | 0 => (sm_zero (fun c hc => rfl)).symm
  | n + 1 => by
    rw [sm, sm_swap m n, ← sm_add]
    rfl
theorem sm_split {f : Nat → Int32} (a : Nat) : ∀ b, sm f (a + b) = sm f a + sm (fun c => f (a + c)) b
  | 0 => by rw [sm, Int32.add_zero]; rfl
  | b + 1 => by rw [← Nat.add_assoc, sm, sm, sm_split a b, Int32.add_assoc]
theorem mb4 : ∀ n, n < 6 → ∀ T, T < 2 ^ n → T.testBit n = false ∧ (2 ^ n + T).testBit n = true ∧ T ^^^ 2 ^ n = 2 ^ n + T := by decide +kernel
theorem mb5 : ∀ n, n < 6 → ∀ j, j < n → ∀ T, T < 2 ^ n → (2 ^ n + T).testBit j = T.testBit j ∧ (2 ^ n + T) ^^^ 2 ^ j = 2 ^ n + (T ^^^ 2 ^ j) := by decide +kernel
theorem reidx : ∀ {n j : Nat} {g : Nat → Int32}, n ≤ 6 → j < n → sm (fun T => if T.testBit j = false then g (T ^^^ 2 ^ j) else 0) (2 ^ n) = sm (fun T => if T.testBit j = true then g T else 0) (2 ^ n)
  | 0, j, g, _, h => by omega
  | n + 1, j, g, n6, h => by
    rw [show 2 ^ (n + 1) = 2 ^ n + 2 ^ n by rw [Nat.pow_succ]; omega, sm_split, sm_split]
    by_cases q : j = n
    · subst q
      rw [sm_zero (f := fun T => if T.testBit j = true then g T else 0) (fun T hT => by rw [if_neg (by rw [(mb4 j (by omega) T hT).1]; decide)])]
      rw [sm_zero (f := fun T => if (2 ^ j + T).testBit j = false then g ((2 ^ j + T) ^^^ 2 ^ j) else 0) (fun T hT => by rw [if_neg (by rw [(mb4 j (by omega) T hT).2.1]; decide)])]
      rw [Int32.add_zero, Int32.zero_add]
      refine sm_congr (fun T hT => ?_)
      rw [if_pos (mb4 j (by omega) T hT).1, if_pos (mb4 j (by omega) T hT).2.1, (mb4 j (by omega) T hT).2.2]
    · have h1 := reidx (n := n) (j := j) (g := g) (by omega) (by omega)
      have h2 := reidx (n := n) (j := j) (g := fun T => g (2 ^ n + T)) (by omega) (by omega)
      rw [h1]
      congr 1
      refine Eq.trans (sm_congr (fun T hT => ?_)) (h2.trans (sm_congr (fun T hT => ?_)))
      · rw [(mb5 n (by omega) j (by omega) T hT).1, (mb5 n (by omega) j (by omega) T hT).2]
      · rw [(mb5 n (by omega) j (by omega) T hT).1]
def bp : Nat → Nat → Int32
  | 0, t => if t = 0 then 1 else 0
  | m + 1, t => (if t = 0 then 0 else bp m (t - 1)) - bp m t
def fct : Nat → Nat
  | 0 => 1
  | m + 1 => (m + 1) * fct m
def sn (f : Nat → Nat) : Nat → Nat
  | 0 => 0
  | k + 1 => sn f k + f k
theorem sn_congr {f g : Nat → Nat} : ∀ {n : Nat}, (∀ c, c < n → f c = g c) → sn f n = sn g n
  | 0, _ => rfl
  | n + 1, h => by rw [sn, sn, sn_congr (fun c hc => h c (by omega)), h n (by omega)]
theorem sn_nI {f : Nat → Nat} : ∀ n, nI (sn f n) = sm (fun c => nI (f c)) n
  | 0 => rfl
  | n + 1 => by rw [sn, sm, ← sn_nI n, nI_add]
def Hk (r : Nat → Nat) (n : Nat) : Nat → Nat → Nat → Nat
  | 0, _, t => if t = 0 then 1 else 0
  | i + 1, S, t => sn (fun j => if S.testBit j = true then (if (r i).testBit j = true then (if t = 0 then 0 else Hk r n i (S ^^^ 2 ^ j) (t - 1)) else Hk r n i (S ^^^ 2 ^ j) t) else 0) n
theorem mb6 : ∀ S, S < 64 → ∀ c, c < 6 → S.testBit c = true → bcn 6 (S ^^^ 2 ^ c) + 1 = bcn 6 S := by decide +kernel
theorem mb7 : ∀ S, S < 64 → bcn 6 S = 0 → S = 0 := by decide +kernel
theorem g1b : ∀ S, S < 64 → ∀ j, j < 6 → ∀ T, T < 64 → S.testBit j = true → (T &&& (S ^^^ 2 ^ j) == T) = ((T &&& S == T) && !T.testBit j) := by decide +kernel
theorem g2b : ∀ S, S < 64 → ∀ j, j < 6 → ∀ T, T < 64 → S.testBit j = true → T.testBit j = false → ((T ^^^ 2 ^ j) &&& S == T ^^^ 2 ^ j) = (T &&& S == T) := by decide +kernel
theorem g1 {S j T : Nat} (hS : S < 64) (hj : j < 6) (hT : T < 64) (h : S.testBit j = true) : (T &&& (S ^^^ 2 ^ j) = T) ↔ (T &&& S = T ∧ T.testBit j = false) := by
  have := g1b S hS j hj T hT h
  rw [Bool.eq_iff_iff] at this
  simpa using this
theorem g2 {S j T : Nat} (hS : S < 64) (hj : j < 6) (hT : T < 64) (h : S.testBit j = true) (h' : T.testBit j = false) : ((T ^^^ 2 ^ j) &&& S = T ^^^ 2 ^ j) ↔ T &&& S = T := by
  have := g2b S hS j hj T hT h h'
  rw [Bool.eq_iff_iff] at this
  simpa using this
theorem g3 : ∀ S, S < 64 → ∀ j, j < 6 → ∀ T, T < 64 → T &&& S = T → T.testBit j = true → S.testBit j = true := by decide +kernel
theorem g4 : ∀ n, n < 7 → ∀ S, S < 2 ^ n → ∀ T, T < 2 ^ n → T &&& S = T → sm (fun j => if S.testBit j = true ∧ T.testBit j = false then 1 else 0) n = nI (bcn 6 S - bcn 6 T) := by decide +kernel
theorem W_big {r : Nat → Nat} {n : Nat} (n6 : n ≤ 6) : ∀ {i T : Nat}, T < 64 → i < bcn 6 T → Wy r n i T = 0
  | 0, T, hT, h => by
    rw [Wy, if_neg (fun w => by rw [w] at h; exact absurd h (by decide))]
  | i + 1, T, hT, h => by
    rw [Wy, W_big n6 hT (by omega), Int32.zero_add]
    refine sm_zero (fun c hc => ?_)
    by_cases q : T.testBit c = true
    · have h1 := mb6 T hT c (by omega) q
      have h2 := (mb1 T hT c (by omega) q).1
      rw [W_big n6 (i := i) (T := T ^^^ 2 ^ c) (by omega) (by omega)]
      split <;> rfl
    · rw [if_neg (fun w => q w.1)]
theorem bp_up (m t : Nat) : bp m t + bp (m + 1) t = if t = 0 then 0 else bp m (t - 1) := by
  rw [bp]; grind
theorem hits_id {r : Nat → Nat} {n : Nat} (n6 : n ≤ 6) : ∀ {i : Nat} {S t : Nat}, S < 2 ^ n → bcn 6 S = i → nI (Hk r n i S t) = sm (fun T => if T &&& S = T then Wy r n i T * nI (fct (i - bcn 6 T)) * bp (bcn 6 T) t else 0) (2 ^ n)
  | 0, S, t, hS, hb => by
    have t6 := two_le n6
    have p0 := Nat.two_pow_pos n
    have := mb7 S (by omega) hb
    subst this
    have e := sm_one (f := fun _ => 0) (g := fun T => if T &&& 0 = T then Wy r n 0 T * nI (fct (0 - bcn 6 T)) * bp (bcn 6 T) t else 0) (j := 0) (v := nI (Hk r n 0 0 t)) p0 (fun c hc h => by
      show (if c &&& 0 = c then Wy r n 0 c * nI (fct (0 - bcn 6 c)) * bp (bcn 6 c) t else 0) = 0
      rw [Wy, if_neg (show ¬ c = 0 from h)]
      split
      · grind
      · rfl) rfl (by
      show (if 0 &&& 0 = 0 then Wy r n 0 0 * nI (fct (0 - bcn 6 0)) * bp (bcn 6 0) t else 0) = _
      rw [if_pos (by decide), Wy, if_pos rfl, show bcn 6 0 = 0 by decide, bp, Hk, show nI (fct (0 - 0)) = 1 by decide]
      by_cases q : t = 0
      · rw [if_pos q, if_pos q]; decide
      · rw [if_neg q, if_neg q]; decide)
    rw [e, sm_zero (fun _ _ => rfl), Int32.zero_add]
  | i + 1, S, t, hS, hb => by
    have t6 := two_le n6
    -- one column of the last row
    have col : ∀ j, j < n → nI (if S.testBit j = true then (if (r i).testBit j = true then (if t = 0 then 0 else Hk r n i (S ^^^ 2 ^ j) (t - 1)) else Hk r n i (S ^^^ 2 ^ j) t) else 0) = sm (fun T => (if S.testBit j = true ∧ T.testBit j = false then (if T &&& S = T then Wy r n i T * nI (fct (i - bcn 6 T)) * bp (bcn 6 T) t else 0) else 0) + (if T.testBit j = true then (if (T &&& S = T) ∧ (r i).testBit j = true then Wy r n i (T ^^^ 2 ^ j) * nI (fct (i + 1 - bcn 6 T)) * bp (bcn 6 T) t else 0) else 0)) (2 ^ n) := by
      intro j hj
      by_cases q : S.testBit j = true
      · have hb' : bcn 6 (S ^^^ 2 ^ j) = i := by have := mb6 S (by omega) j (by omega) q; omega
        have hl := (mb1 S (by omega) j (by omega) q).1
        have ih : ∀ t, nI (Hk r n i (S ^^^ 2 ^ j) t) = sm (fun T => if T &&& (S ^^^ 2 ^ j) = T then Wy r n i T * nI (fct (i - bcn 6 T)) * bp (bcn 6 T) t else 0) (2 ^ n) := fun t => hits_id n6 (by omega) hb'
        have big : nI (if S.testBit j = true then (if (r i).testBit j = true then (if t = 0 then 0 else Hk r n i (S ^^^ 2 ^ j) (t - 1)) else Hk r n i (S ^^^ 2 ^ j) t) else 0) = sm (fun T => (if T.testBit j = false then (if T &&& S = T then Wy r n i T * nI (fct (i - bcn 6 T)) * bp (bcn 6 T) t else 0) else 0) + (if T.testBit j = false then (if (T &&& S = T) ∧ (r i).testBit j = true then Wy r n i T * nI (fct (i - bcn 6 T)) * bp (bcn 6 T + 1) t else 0) else 0)) (2 ^ n) := by
          rw [if_pos q]
          by_cases z : (r i).testBit j = true
          · rw [if_pos z]
            by_cases y : t = 0
            · rw [if_pos y, ← nl0]
              refine (sm_zero (fun T hT => ?_)).symm
              have b0 := bp_up (bcn 6 T) t
              rw [if_pos y] at b0
              by_cases x : T.testBit j = false
              · rw [if_pos x, if_pos x]
                by_cases v : T &&& S = T
                · rw [if_pos v, if_pos (show (T &&& S = T) ∧ (r i).testBit j = true from ⟨v, z⟩)]; grind
                · rw [if_neg v, if_neg (show ¬ ((T &&& S = T) ∧ (r i).testBit j = true) from fun w => v w.1), Int32.add_zero]
              · rw [if_neg x, if_neg x, Int32.add_zero]
            · rw [if_neg y, ih]
              refine sm_congr (fun T hT => ?_)
              have b0 := bp_up (bcn 6 T) t
              rw [if_neg y] at b0
              have h1 := g1 (S := S) (j := j) (T := T) (by omega) (by omega) (by omega) q
              by_cases x : T.testBit j = false
              · rw [if_pos x, if_pos x]
                by_cases v : T &&& S = T
                · rw [if_pos v, if_pos (show (T &&& S = T) ∧ (r i).testBit j = true from ⟨v, z⟩), if_pos (h1.mpr ⟨v, x⟩), ← b0]; grind
                · rw [if_neg v, if_neg (show ¬ ((T &&& S = T) ∧ (r i).testBit j = true) from fun w => v w.1), if_neg (show ¬ (T &&& (S ^^^ 2 ^ j) = T) from fun w => v (h1.mp w).1), Int32.add_zero]
              · rw [if_neg x, if_neg x, if_neg (fun w => x (h1.mp w).2), Int32.add_zero]
          · rw [if_neg z, ih]
            refine sm_congr (fun T hT => ?_)
            have h1 := g1 (S := S) (j := j) (T := T) (by omega) (by omega) (by omega) q
            by_cases x : T.testBit j = false
            · rw [if_pos x, if_pos x, if_neg (show ¬ ((T &&& S = T) ∧ (r i).testBit j = true) from fun w => z w.2), Int32.add_zero]
              by_cases v : T &&& S = T
              · rw [if_pos v, if_pos (h1.mpr ⟨v, x⟩)]
              · rw [if_neg v, if_neg (show ¬ (T &&& (S ^^^ 2 ^ j) = T) from fun w => v (h1.mp w).1)]
            · rw [if_neg x, if_neg x, if_neg (fun w => x (h1.mp w).2), Int32.add_zero]
        rw [big, sm_add, sm_add]
        congr 1
        · refine sm_congr (fun T hT => ?_)
          by_cases x : T.testBit j = false
          · rw [if_pos x, if_pos (show S.testBit j = true ∧ T.testBit j = false from ⟨q, x⟩)]
          · rw [if_neg x, if_neg (show ¬ (S.testBit j = true ∧ T.testBit j = false) from fun w => x w.2)]
        · have re := reidx (n := n) (j := j) (g := fun T => if (T &&& S = T) ∧ (r i).testBit j = true then Wy r n i (T ^^^ 2 ^ j) * nI (fct (i + 1 - bcn 6 T)) * bp (bcn 6 T) t else 0) n6 hj
          rw [← re]
          refine sm_congr (fun T hT => ?_)
          by_cases x : T.testBit j = false
          · rw [if_pos x, if_pos x]
            have h2 := g2 (S := S) (j := j) (T := T) (by omega) (by omega) (by omega) q x
            obtain ⟨c1, c2, c3, c4⟩ := mb2 T (by omega) j (by omega) x
            have e1 : T ^^^ 2 ^ j ^^^ 2 ^ j = T := by rw [Nat.xor_assoc, Nat.xor_self, Nat.xor_zero]
            have e3 : (T ^^^ 2 ^ j).testBit j = true := by rw [Nat.testBit_xor, x, Nat.testBit_two_pow_self]; rfl
            have e4 : T ^^^ 2 ^ j < 64 := by have := Nat.xor_lt_two_pow hT (two_lt hj); omega
            have e5 := mb6 (T ^^^ 2 ^ j) e4 j (by omega) e3
            rw [e1] at e5
            by_cases v : (T &&& S = T) ∧ (r i).testBit j = true
            · rw [if_pos v, if_pos ⟨h2.mpr v.1, v.2⟩, e1, ← e5, show i + 1 - (bcn 6 T + 1) = i - bcn 6 T by omega]
            · rw [if_neg v, if_neg (fun w => v ⟨h2.mp w.1, w.2⟩)]
          · rw [if_neg x, if_neg x]
      · rw [if_neg q, ← nl0]
        refine (sm_zero (fun T hT => ?_)).symm
        rw [if_neg (fun w => q w.1)]
        by_cases x : T.testBit j = true
        · rw [if_pos x, if_neg (fun w => q (g3 S (by omega) j (by omega) T (by omega) w.1 x)), Int32.add_zero]
        · rw [if_neg x, Int32.add_zero]
    rw [Hk, sn_nI, sm_congr col, sm_swap]
    refine sm_congr (fun T hT => ?_)
    rw [sm_add]
    by_cases v : T &&& S = T
    · have c4 := g4 n (by omega) S hS T hT v
      have e1 : sm (fun j => if S.testBit j = true ∧ T.testBit j = false then (if T &&& S = T then Wy r n i T * nI (fct (i - bcn 6 T)) * bp (bcn 6 T) t else 0) else 0) n = Wy r n i T * nI (fct (i - bcn 6 T)) * bp (bcn 6 T) t * nI (bcn 6 S - bcn 6 T) := by
        rw [← c4, ← sm_mul]
        refine sm_congr (fun j hj => ?_)
        rw [if_pos v]
        by_cases x : S.testBit j = true ∧ T.testBit j = false
        · rw [if_pos x, if_pos x]; grind
        · rw [if_neg x, if_neg x]; grind
      have e2 : sm (fun j => if T.testBit j = true then (if (T &&& S = T) ∧ (r i).testBit j = true then Wy r n i (T ^^^ 2 ^ j) * nI (fct (i + 1 - bcn 6 T)) * bp (bcn 6 T) t else 0) else 0) n = nI (fct (i + 1 - bcn 6 T)) * bp (bcn 6 T) t * sm (fun c => if T.testBit c = true ∧ (r i).testBit c = true then Wy r n i (T ^^^ 2 ^ c) else 0) n := by
        rw [← sm_mul]
        refine sm_congr (fun j hj => ?_)
        by_cases x : T.testBit j = true
        · rw [if_pos x]
          by_cases y : (r i).testBit j = true
          · rw [if_pos ⟨v, y⟩, if_pos ⟨x, y⟩]; grind
          · rw [if_neg (fun w => y w.2), if_neg (fun w => y w.2)]; grind
        · rw [if_neg x, if_neg (fun w => x w.1)]; grind
      rw [e1, e2, if_pos v, Wy, hb]
      by_cases y : bcn 6 T ≤ i
      · have ef : nI (fct (i + 1 - bcn 6 T)) = nI (i + 1 - bcn 6 T) * nI (fct (i - bcn 6 T)) := by
          rw [show i + 1 - bcn 6 T = (i - bcn 6 T) + 1 by omega, fct, nI_mul]
        rw [ef]; grind
      · rw [W_big n6 (by omega) (show i < bcn 6 T by omega)]; grind
    · have z1 := sm_zero (f := fun j => if S.testBit j = true ∧ T.testBit j = false then (if T &&& S = T then Wy r n i T * nI (fct (i - bcn 6 T)) * bp (bcn 6 T) t else 0) else 0) (n := n) (fun j hj => by
        show (if S.testBit j = true ∧ T.testBit j = false then (if T &&& S = T then Wy r n i T * nI (fct (i - bcn 6 T)) * bp (bcn 6 T) t else 0) else 0) = 0
        rw [if_neg v]; split <;> rfl)
      have z2 := sm_zero (f := fun j => if T.testBit j = true then (if (T &&& S = T) ∧ (r i).testBit j = true then Wy r n i (T ^^^ 2 ^ j) * nI (fct (i + 1 - bcn 6 T)) * bp (bcn 6 T) t else 0) else 0) (n := n) (fun j hj => by
        show (if T.testBit j = true then (if (T &&& S = T) ∧ (r i).testBit j = true then Wy r n i (T ^^^ 2 ^ j) * nI (fct (i + 1 - bcn 6 T)) * bp (bcn 6 T) t else 0) else 0) = 0
        rw [if_neg (show ¬ ((T &&& S = T) ∧ (r i).testBit j = true) from fun w => v w.1)]; split <;> rfl)
      rw [z1, z2, if_neg v, Int32.add_zero]
