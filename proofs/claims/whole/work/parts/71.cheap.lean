/-! ===== the first of least WEIGHT ===== -/
def wl (n : Nat) (W : Nat → Nat) : Nat → List Nat → Nat
  | _, [] => 0
  | j, c :: l => (if c < n then W (6 * j + c) else 0) + wl n W (j + 1) l
def fsm (w : List Nat → Nat) : Option (List Nat) → List (List Nat) → Option (List Nat)
  | b, [] => b
  | none, q :: Q => fsm w (some q) Q
  | some p, q :: Q => if w q < w p then fsm w (some q) Q else fsm w (some p) Q
def mrg (w : List Nat → Nat) : Option (List Nat) → Option (List Nat) → Option (List Nat)
  | none, b => b
  | some p, none => some p
  | some p, some q => if w q < w p then some q else some p
section FM
variable {w : List Nat → Nat}
theorem mrg_none (b : Option (List Nat)) : mrg w b none = b := by cases b <;> rfl
theorem mrg_assoc (a b c : Option (List Nat)) : mrg w (mrg w a b) c = mrg w a (mrg w b c) := by
  cases a with
  | none => rfl
  | some p =>
    cases b with
    | none => rfl
    | some q =>
      cases c with
      | none => rw [mrg_none, mrg_none]
      | some s =>
        by_cases h1 : w q < w p <;> by_cases h2 : w s < w q <;> by_cases h3 : w s < w p <;> simp only [mrg, h1, h2, h3, if_true, if_false] <;> first | rfl | omega
theorem fsm_some {p : List Nat} : ∀ {Q : List (List Nat)}, fsm w (some p) Q = mrg w (some p) (fsm w none Q)
  | [] => rfl
  | q :: Q => by
    have h1 := fsm_some (p := p) (Q := Q)
    have h2 := fsm_some (p := q) (Q := Q)
    show (if w q < w p then fsm w (some q) Q else fsm w (some p) Q) = mrg w (some p) (fsm w (some q) Q)
    rw [h2, ← mrg_assoc]
    show _ = mrg w (if w q < w p then some q else some p) _
    by_cases z : w q < w p
    · rw [if_pos z, if_pos z]
    · rw [if_neg z, if_neg z, h1]
theorem fsm_mrg (b : Option (List Nat)) (Q : List (List Nat)) : fsm w b Q = mrg w b (fsm w none Q) := by
  cases b with
  | none => rfl
  | some p => exact fsm_some
theorem fsm_app : ∀ {A B : List (List Nat)} {b : Option (List Nat)}, fsm w b (A ++ B) = fsm w (fsm w b A) B
  | [], B, b => by cases b <;> rfl
  | q :: A, B, none => by
    show fsm w (some q) (A ++ B) = fsm w (fsm w (some q) A) B
    exact fsm_app
  | q :: A, B, some p => by
    show (if w q < w p then fsm w (some q) (A ++ B) else fsm w (some p) (A ++ B)) = fsm w (if w q < w p then fsm w (some q) A else fsm w (some p) A) B
    by_cases z : w q < w p
    · rw [if_pos z, if_pos z]; exact fsm_app
    · rw [if_neg z, if_neg z]; exact fsm_app
theorem fsm_cat (A B : List (List Nat)) : fsm w none (A ++ B) = mrg w (fsm w none A) (fsm w none B) := by rw [fsm_app, fsm_mrg]
/-- the first least one of a row of blocks -/
theorem fsm_seg {f : Nat → List (List Nat)} : ∀ {m c : Nat}, (fsm w none (seg f c m) = none ∧ ∀ x, c ≤ x → x < c + m → fsm w none (f x) = none) ∨ (∃ x q, c ≤ x ∧ x < c + m ∧ fsm w none (seg f c m) = some q ∧ fsm w none (f x) = some q ∧ (∀ y, c ≤ y → y < x → ∀ s, fsm w none (f y) = some s → w q < w s) ∧ (∀ y, x ≤ y → y < c + m → ∀ s, fsm w none (f y) = some s → w q ≤ w s))
  | 0, c => Or.inl ⟨rfl, fun x h1 h2 => by omega⟩
  | m + 1, c => by
    have e : fsm w none (seg f c (m + 1)) = mrg w (fsm w none (f c)) (fsm w none (seg f (c + 1) m)) := by rw [seg, fsm_cat]
    rw [e]
    rcases fsm_seg (f := f) (m := m) (c := c + 1) with ⟨h1, h2⟩ | ⟨x, q, x1, x2, x3, x4, x5, x6⟩
    · rw [h1, mrg_none]
      cases g : fsm w none (f c) with
      | none =>
        left
        refine ⟨rfl, fun x a1 a2 => ?_⟩
        by_cases z : x = c
        · rw [z]; exact g
        · exact h2 x (by omega) (by omega)
      | some p =>
        right
        refine ⟨c, p, Nat.le_refl _, by omega, rfl, g, fun y a1 a2 => by omega, fun y a1 a2 s hs => ?_⟩
        by_cases z : y = c
        · rw [z, g] at hs
          rw [Option.some.inj hs]; exact Nat.le_refl _
        · rw [h2 y (by omega) (by omega)] at hs
          exact absurd hs (by simp)
    · rw [x3]
      cases g : fsm w none (f c) with
      | none =>
        right
        refine ⟨x, q, by omega, by omega, rfl, x4, fun y a1 a2 s hs => ?_, fun y a1 a2 s hs => x6 y a1 (by omega) s hs⟩
        by_cases z : y = c
        · rw [z, g] at hs
          exact absurd hs (by simp)
        · exact x5 y (by omega) a2 s hs
      | some p =>
        right
        by_cases z : w q < w p
        · refine ⟨x, q, by omega, by omega, by simp only [mrg, z, if_true], x4, fun y a1 a2 s hs => ?_, fun y a1 a2 s hs => x6 y a1 (by omega) s hs⟩
          by_cases v : y = c
          · rw [v, g] at hs
            rw [← Option.some.inj hs]; exact z
          · exact x5 y (by omega) a2 s hs
        · refine ⟨c, p, Nat.le_refl _, by omega, by simp only [mrg, z, if_false], g, fun y a1 a2 => by omega, fun y a1 a2 s hs => ?_⟩
          by_cases v : y = c
          · rw [v, g] at hs
            rw [Option.some.inj hs]; exact Nat.le_refl _
          · by_cases u : y < x
            · have := x5 y (by omega) u s hs; omega
            · have := x6 y (by omega) (by omega) s hs; omega
end FM
theorem fsm_map {w w' : List Nat → Nat} {c d : Nat} (h : ∀ l, w (c :: l) = d + w' l) : ∀ {A : List (List Nat)} {b : Option (List Nat)}, fsm w (b.map (c :: ·)) (A.map (c :: ·)) = (fsm w' b A).map (c :: ·)
  | [], b => by cases b <;> rfl
  | q :: A, none => by
    show fsm w (some (c :: q)) (A.map (c :: ·)) = (fsm w' (some q) A).map (c :: ·)
    exact fsm_map h (A := A) (b := some q)
  | q :: A, some p => by
    show (if w (c :: q) < w (c :: p) then fsm w (some (c :: q)) (A.map (c :: ·)) else fsm w (some (c :: p)) (A.map (c :: ·))) = (if w' q < w' p then fsm w' (some q) A else fsm w' (some p) A).map (c :: ·)
    rw [h, h]
    by_cases z : w' q < w' p
    · rw [if_pos z, if_pos (by omega)]; exact fsm_map h (A := A) (b := some q)
    · rw [if_neg z, if_neg (by omega)]; exact fsm_map h (A := A) (b := some p)
section CH
variable {r W : Nat → Nat} {n k : Nat}
/-- the least WEIGHT from a row on, as the class lays it -/
def lst (r W : Nat → Nat) (n k : Nat) : Nat → Nat → Nat
  | 0, mask => if bcn 6 mask = k then 0 else 1000
  | rem + 1, mask => Nat.rec (lst r W n k rem mask) (fun j b => if (r (n - (rem + 1))).testBit j = true ∧ mask.testBit j = false then (if W (6 * (n - (rem + 1)) + j) + lst r W n k rem (mask ||| 2 ^ j) < b then W (6 * (n - (rem + 1)) + j) + lst r W n k rem (mask ||| 2 ^ j) else b) else b) n
def lm (r W : Nat → Nat) (n k rem mask : Nat) : Nat → Nat
  | 0 => lst r W n k rem mask
  | j + 1 => if (r (n - (rem + 1))).testBit j = true ∧ mask.testBit j = false then (if W (6 * (n - (rem + 1)) + j) + lst r W n k rem (mask ||| 2 ^ j) < lm r W n k rem mask j then W (6 * (n - (rem + 1)) + j) + lst r W n k rem (mask ||| 2 ^ j) else lm r W n k rem mask j) else lm r W n k rem mask j
theorem lst_lm {rem mask : Nat} : lst r W n k (rem + 1) mask = lm r W n k rem mask n := by
  have : ∀ m, (Nat.rec (lst r W n k rem mask) (fun j b => if (r (n - (rem + 1))).testBit j = true ∧ mask.testBit j = false then (if W (6 * (n - (rem + 1)) + j) + lst r W n k rem (mask ||| 2 ^ j) < b then W (6 * (n - (rem + 1)) + j) + lst r W n k rem (mask ||| 2 ^ j) else b) else b) m : Nat) = lm r W n k rem mask m := by
    intro m
    induction m with
    | zero => rfl
    | succ m ih => simp only [lm]; rw [ih]
  exact this n
theorem lm_le {rem mask : Nat} : ∀ {j : Nat}, lm r W n k rem mask j ≤ lst r W n k rem mask
  | 0 => Nat.le_refl _
  | j + 1 => by
    have := lm_le (rem := rem) (mask := mask) (j := j)
    rw [lm]
    split
    · split <;> omega
    · exact this
theorem lst_le : ∀ {rem mask : Nat}, lst r W n k rem mask ≤ 1000
  | 0, mask => by rw [lst]; split <;> omega
  | rem + 1, mask => by
    rw [lst_lm]
    exact Nat.le_trans lm_le lst_le
theorem al_len : ∀ {rem mask : Nat} {q : List Nat}, q ∈ al r n k rem mask → q.length = rem ∧ ∀ c ∈ q, c ≤ n
  | 0, mask, q, h => by
    rw [al] at h
    split at h
    · simp at h; subst h; simp
    · simp at h
  | rem + 1, mask, q, h => by
    rw [al_blk] at h
    have key : ∀ m c, c + m ≤ n + 1 → q ∈ seg (blk r n k rem mask) c m → q.length = rem + 1 ∧ ∀ c ∈ q, c ≤ n := by
      intro m
      induction m with
      | zero => intro c _ h; simp [seg] at h
      | succ m ih =>
        intro c hc h
        rw [seg, List.mem_append] at h
        rcases h with h | h
        · have go : ∀ mk', q ∈ (al r n k rem mk').map (c :: ·) → q.length = rem + 1 ∧ ∀ c ∈ q, c ≤ n := fun mk' h => by
            obtain ⟨l, hl, rfl⟩ := List.mem_map.mp h
            obtain ⟨a, b⟩ := al_len hl
            refine ⟨by simp [a], fun x hx => ?_⟩
            rcases List.mem_cons.mp hx with rfl | hx
            · omega
            · exact b x hx
          unfold blk at h
          split at h
          · split at h
            · exact go _ h
            · simp at h
          · exact go _ h
        · exact ih (c + 1) (by omega) h
    exact key (n + 1) 0 (by omega) h
theorem wl_le (hW : ∀ p, W p ≤ 9) : ∀ {q : List Nat} {j : Nat}, wl n W j q ≤ 9 * q.length
  | [], _ => Nat.le_refl _
  | c :: q, j => by
    rw [wl, List.length_cons]
    have := wl_le hW (q := q) (j := j + 1)
    have := hW (6 * j + c)
    split <;> omega
theorem fsm_mem {w : List Nat → Nat} : ∀ {Q : List (List Nat)} {b : Option (List Nat)} {q : List Nat}, fsm w b Q = some q → q ∈ Q ∨ b = some q
  | [], b, q, h => by right; cases b <;> exact h
  | s :: Q, none, q, h => by
    left
    rcases fsm_mem (Q := Q) (b := some s) h with h | h
    · exact List.mem_cons_of_mem _ h
    · rw [Option.some.inj h]; exact List.mem_cons_self
  | s :: Q, some p, q, h => by
    have h' : (if w s < w p then fsm w (some s) Q else fsm w (some p) Q) = some q := h
    split at h'
    · rcases fsm_mem h' with h | h
      · exact Or.inl (List.mem_cons_of_mem _ h)
      · left; rw [Option.some.inj h]; exact List.mem_cons_self
    · rcases fsm_mem h' with h | h
      · exact Or.inl (List.mem_cons_of_mem _ h)
      · exact Or.inr h
/-- the first of least WEIGHT from a row on -/
def fir (r W : Nat → Nat) (n k rem mask : Nat) : Option (List Nat) := fsm (wl n W (n - rem)) none (al r n k rem mask)
theorem fir_blk {rem mask c : Nat} (hr : rem + 1 ≤ n) : fsm (wl n W (n - (rem + 1))) none (blk r n k rem mask c) = if c < n then (if (r (n - (rem + 1))).testBit c = true ∧ mask.testBit c = false then (fir r W n k rem (mask ||| 2 ^ c)).map (c :: ·) else none) else (fir r W n k rem mask).map (c :: ·) := by
  have e1 : n - (rem + 1) + 1 = n - rem := by omega
  unfold blk fir
  by_cases q : c < n
  · rw [if_pos q, if_pos q]
    split
    · exact fsm_map (b := none) (d := W (6 * (n - (rem + 1)) + c)) (fun l => by rw [wl, if_pos q, e1])
    · rfl
  · rw [if_neg q, if_neg q]
    exact fsm_map (b := none) (d := 0) (fun l => by rw [wl, if_neg q, e1])
theorem fir_len {rem mask : Nat} {q : List Nat} (h : fir r W n k rem mask = some q) : q.length = rem ∧ ∀ c ∈ q, c ≤ n := by
  rcases fsm_mem h with h | h
  · exact al_len h
  · exact absurd h (by simp)
/-- what the class lays is the WEIGHT of the first least one, and finds it again -/
theorem cheap_id (n6 : n ≤ 6) (hW : ∀ p, W p ≤ 9) : ∀ {rem mask : Nat}, rem ≤ n → (fir r W n k rem mask = none ∧ lst r W n k rem mask = 1000) ∨ ∃ q, fir r W n k rem mask = some q ∧ wl n W (n - rem) q = lst r W n k rem mask
  | 0, mask, _ => by
    unfold fir
    rw [al, lst]
    split
    · right; exact ⟨[], rfl, rfl⟩
    · left; exact ⟨rfl, rfl⟩
  | rem + 1, mask, hr => by
    have e1 : n - (rem + 1) + 1 = n - rem := by omega
    have ih : ∀ m, (fir r W n k rem m = none ∧ lst r W n k rem m = 1000) ∨ ∃ q, fir r W n k rem m = some q ∧ wl n W (n - rem) q = lst r W n k rem m := fun m => cheap_id n6 hW (by omega)
    have small : ∀ m q, fir r W n k rem m = some q → wl n W (n - rem) q < 1000 := fun m q h => by
      have := wl_le (n := n) hW (q := q) (j := n - rem)
      have := (fir_len h).1
      omega
    -- the value of a fold over the columns below j
    have low : ∀ j, j ≤ n → (∀ c, c < j → (r (n - (rem + 1))).testBit c = true ∧ mask.testBit c = false → lm r W n k rem mask j ≤ W (6 * (n - (rem + 1)) + c) + lst r W n k rem (mask ||| 2 ^ c)) ∧ (lm r W n k rem mask j = lst r W n k rem mask ∨ ∃ c, c < j ∧ ((r (n - (rem + 1))).testBit c = true ∧ mask.testBit c = false) ∧ lm r W n k rem mask j = W (6 * (n - (rem + 1)) + c) + lst r W n k rem (mask ||| 2 ^ c)) := by
      intro j
      induction j with
      | zero => intro _; exact ⟨fun c h => by omega, Or.inl rfl⟩
      | succ j ihj =>
        intro hj
        obtain ⟨a1, a2⟩ := ihj (by omega)
        rw [lm]
        by_cases q : (r (n - (rem + 1))).testBit j = true ∧ mask.testBit j = false
        · rw [if_pos q]
          by_cases z : W (6 * (n - (rem + 1)) + j) + lst r W n k rem (mask ||| 2 ^ j) < lm r W n k rem mask j
          · rw [if_pos z]
            refine ⟨fun c hc hq => ?_, Or.inr ⟨j, by omega, q, rfl⟩⟩
            by_cases y : c = j
            · rw [y]; exact Nat.le_refl _
            · have := a1 c (by omega) hq; omega
          · rw [if_neg z]
            refine ⟨fun c hc hq => ?_, ?_⟩
            · by_cases y : c = j
              · rw [y]; omega
              · exact a1 c (by omega) hq
            · rcases a2 with a2 | ⟨c, c1, c2, c3⟩
              · exact Or.inl a2
              · exact Or.inr ⟨c, by omega, c2, c3⟩
        · rw [if_neg q]
          refine ⟨fun c hc hq => ?_, ?_⟩
          · by_cases y : c = j
            · rw [y] at hq; exact absurd hq q
            · exact a1 c (by omega) hq
          · rcases a2 with a2 | ⟨c, c1, c2, c3⟩
            · exact Or.inl a2
            · exact Or.inr ⟨c, by omega, c2, c3⟩
    obtain ⟨l1, l2⟩ := low n (Nat.le_refl _)
    have l3 := lm_le (r := r) (W := W) (n := n) (k := k) (rem := rem) (mask := mask) (j := n)
    have l4 : lst r W n k rem mask ≤ 1000 := lst_le
    rw [lst_lm]
    have wcons : ∀ c l, wl n W (n - (rem + 1)) (c :: l) = (if c < n then W (6 * (n - (rem + 1)) + c) else 0) + wl n W (n - rem) l := fun c l => by rw [wl, e1]
    rcases fsm_seg (w := wl n W (n - (rem + 1))) (f := blk r n k rem mask) (m := n + 1) (c := 0) with ⟨h1, h2⟩ | ⟨x, q, x1, x2, x3, x4, x5, x6⟩
    · left
      refine ⟨h1, ?_⟩
      have none_n : fir r W n k rem mask = none := by
        have := h2 n (by omega) (by omega)
        rw [fir_blk hr, if_neg (by omega)] at this
        simpa using this
      have v0 : lst r W n k rem mask = 1000 := by
        rcases ih mask with ⟨_, h⟩ | ⟨q, h, _⟩
        · exact h
        · rw [none_n] at h; exact absurd h (by simp)
      rcases l2 with l2 | ⟨c, c1, c2, c3⟩
      · omega
      · have := h2 c (by omega) (by omega)
        rw [fir_blk hr, if_pos c1, if_pos c2] at this
        have nn : fir r W n k rem (mask ||| 2 ^ c) = none := by simpa using this
        rcases ih (mask ||| 2 ^ c) with ⟨_, h⟩ | ⟨q, h, _⟩
        · omega
        · rw [nn] at h; exact absurd h (by simp)
    · right
      refine ⟨q, x3, ?_⟩
      -- w of every block is at least w q
      have least : ∀ y, y < n + 1 → ∀ s, fsm (wl n W (n - (rem + 1))) none (blk r n k rem mask y) = some s → wl n W (n - (rem + 1)) q ≤ wl n W (n - (rem + 1)) s := fun y hy s hs => by
        by_cases u : y < x
        · have := x5 y (by omega) u s hs; omega
        · exact x6 y (by omega) (by omega) s hs
      have qs : wl n W (n - (rem + 1)) q < 1000 := by
        rw [fir_blk hr] at x4
        by_cases u : x < n
        · rw [if_pos u] at x4
          by_cases v : (r (n - (rem + 1))).testBit x = true ∧ mask.testBit x = false
          · rw [if_pos v] at x4
            obtain ⟨t, t1, rfl⟩ := Option.map_eq_some_iff.mp x4
            have a1 := wl_le (n := n) hW (q := t) (j := n - rem)
            have a2 := (fir_len t1).1
            have a3 := hW (6 * (n - (rem + 1)) + x)
            rw [wcons, if_pos u]; omega
          · rw [if_neg v] at x4; exact absurd x4 (by simp)
        · rw [if_neg u] at x4
          obtain ⟨t, t1, rfl⟩ := Option.map_eq_some_iff.mp x4
          have a1 := wl_le (n := n) hW (q := t) (j := n - rem)
          have a2 := (fir_len t1).1
          rw [wcons, if_neg u]; omega
      apply Nat.le_antisymm
      · rcases l2 with l2 | ⟨c, c1, c2, c3⟩
        · rcases ih mask with ⟨_, h⟩ | ⟨s, h, hs⟩
          · omega
          · have := least n (by omega) (n :: s) (by rw [fir_blk hr, if_neg (by omega), h]; rfl)
            rw [wcons n s, if_neg (by omega)] at this
            omega
        · rcases ih (mask ||| 2 ^ c) with ⟨_, h⟩ | ⟨s, h, hs⟩
          · omega
          · have := least c (by omega) (c :: s) (by rw [fir_blk hr, if_pos c1, if_pos c2, h]; rfl)
            rw [wcons c s, if_pos c1] at this
            omega
      · rw [fir_blk hr] at x4
        by_cases u : x < n
        · rw [if_pos u] at x4
          by_cases v : (r (n - (rem + 1))).testBit x = true ∧ mask.testBit x = false
          · rw [if_pos v] at x4
            obtain ⟨t, t1, rfl⟩ := Option.map_eq_some_iff.mp x4
            have := l1 x u v
            rcases ih (mask ||| 2 ^ x) with ⟨h, _⟩ | ⟨s, h, hs⟩
            · rw [h] at t1; exact absurd t1 (by simp)
            · rw [h] at t1
              rw [Option.some.inj t1] at hs
              rw [wcons, if_pos u]; omega
          · rw [if_neg v] at x4; exact absurd x4 (by simp)
        · rw [if_neg u] at x4
          obtain ⟨t, t1, rfl⟩ := Option.map_eq_some_iff.mp x4
          rcases ih mask with ⟨h, _⟩ | ⟨s, h, hs⟩
          · rw [h] at t1; exact absurd t1 (by simp)
          · rw [h] at t1
            rw [Option.some.inj t1] at hs
            rw [wcons, if_neg u]; omega
/-- its column in the first row -/
theorem cheap_col (n6 : n ≤ 6) (hW : ∀ p, W p ≤ 9) {rem mask : Nat} (hr : rem + 1 ≤ n) {q : List Nat} (h : fir r W n k (rem + 1) mask = some q) : ∃ c t, q = c :: t ∧ c ≤ n ∧ (c < n → ((r (n - (rem + 1))).testBit c = true ∧ mask.testBit c = false) ∧ W (6 * (n - (rem + 1)) + c) + lst r W n k rem (mask ||| 2 ^ c) = lst r W n k (rem + 1) mask ∧ fir r W n k rem (mask ||| 2 ^ c) = some t) ∧ (c = n → fir r W n k rem mask = some t) ∧ (∀ j, j < c → (r (n - (rem + 1))).testBit j = true ∧ mask.testBit j = false → ¬ W (6 * (n - (rem + 1)) + j) + lst r W n k rem (mask ||| 2 ^ j) = lst r W n k (rem + 1) mask) := by
  have e1 : n - (rem + 1) + 1 = n - rem := by omega
  have wcons : ∀ c l, wl n W (n - (rem + 1)) (c :: l) = (if c < n then W (6 * (n - (rem + 1)) + c) else 0) + wl n W (n - rem) l := fun c l => by rw [wl, e1]
  have hq : wl n W (n - (rem + 1)) q = lst r W n k (rem + 1) mask := by
    rcases cheap_id (r := r) (k := k) n6 hW hr (mask := mask) with ⟨h', _⟩ | ⟨q', h1, h2⟩
    · rw [h] at h'; exact absurd h' (by simp)
    · rw [h] at h1
      rw [Option.some.inj h1]; exact h2
  have small : wl n W (n - (rem + 1)) q < 1000 := by
    have := wl_le (n := n) hW (q := q) (j := n - (rem + 1))
    have := (fir_len h).1
    omega
  have h' : fsm (wl n W (n - (rem + 1))) none (seg (blk r n k rem mask) 0 (n + 1)) = some q := h
  rcases fsm_seg (w := wl n W (n - (rem + 1))) (f := blk r n k rem mask) (m := n + 1) (c := 0) with ⟨h1, h2⟩ | ⟨x, q', x1, x2, x3, x4, x5, x6⟩
  · rw [h1] at h'; exact absurd h' (by simp)
  · rw [x3] at h'
    rw [Option.some.inj h'] at x4 x5 x6
    have early : ∀ j, j < x → j < n → (r (n - (rem + 1))).testBit j = true ∧ mask.testBit j = false → ¬ W (6 * (n - (rem + 1)) + j) + lst r W n k rem (mask ||| 2 ^ j) = lst r W n k (rem + 1) mask := fun j hj jn hv he => by
      rcases cheap_id (r := r) (k := k) n6 hW (show rem ≤ n by omega) (mask := mask ||| 2 ^ j) with ⟨_, h2⟩ | ⟨s, h1, h2⟩
      · omega
      · have := x5 j (by omega) hj (j :: s) (by rw [fir_blk hr, if_pos jn, if_pos hv, h1]; rfl)
        rw [wcons j s, if_pos jn] at this
        omega
    rw [fir_blk hr] at x4
    by_cases u : x < n
    · rw [if_pos u] at x4
      by_cases v : (r (n - (rem + 1))).testBit x = true ∧ mask.testBit x = false
      · rw [if_pos v] at x4
        obtain ⟨t, t1, rfl⟩ := Option.map_eq_some_iff.mp x4
        refine ⟨x, t, rfl, by omega, fun _ => ⟨v, ?_, t1⟩, fun h => by omega, fun j hj hv => early j hj (by omega) hv⟩
        rcases cheap_id (r := r) (k := k) n6 hW (show rem ≤ n by omega) (mask := mask ||| 2 ^ x) with ⟨h2, _⟩ | ⟨s, h1, h2⟩
        · rw [h2] at t1; exact absurd t1 (by simp)
        · rw [h1] at t1
          rw [Option.some.inj t1] at h2
          rw [wcons, if_pos u] at hq
          omega
      · rw [if_neg v] at x4; exact absurd x4 (by simp)
    · rw [if_neg u] at x4
      obtain ⟨t, t1, rfl⟩ := Option.map_eq_some_iff.mp x4
      exact ⟨x, t, rfl, by omega, fun h => absurd h u, fun _ => t1, fun j hj hv => early j hj (by omega) hv⟩
end CH
