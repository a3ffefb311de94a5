/-! ===== the functions' side: loops, numbers, frames ===== -/
theorem loopN_inl {σ ρ : Type} {f : σ → Option (σ ⊕ ρ)} {s s' : σ} {n : Nat} (h : f s = some (.inl s')) : loopN f (n + 1) s = loopN f n s' := by
  show (match f s with | none => none | some (.inl s') => loopN f n s' | some (.inr r) => some r) = _
  rw [h]
theorem loopN_inr {σ ρ : Type} {f : σ → Option (σ ⊕ ρ)} {s : σ} {r : ρ} {n : Nat} (h : f s = some (.inr r)) : loopN f (n + 1) s = some r := by
  show (match f s with | none => none | some (.inl s') => loopN f n s' | some (.inr r) => some r) = _
  rw [h]
theorem loop_for {σ ρ : Type} {f : σ → Option (σ ⊕ ρ)} (st : Nat → σ) (n : Nat) {r : ρ} (hs : ∀ k, k < n → f (st k) = some (.inl (st (k + 1)))) (he : f (st n) = some (.inr r)) : ∀ (N k : Nat), k ≤ n → n - k < N → loopN f N (st k) = some r := by
  intro N
  induction N with
  | zero => intro k h1 h2; omega
  | succ N ih =>
    intro k h1 h2
    by_cases hk : k < n
    · rw [loopN_inl (hs k hk)]
      exact ih (k + 1) (by omega) (by omega)
    · have : k = n := by omega
      subst this
      exact loopN_inr he
theorem loop_inv {σ ρ : Type} {f : σ → Option (σ ⊕ ρ)} (P : Nat → σ → Prop) (R : ρ → Prop) (n : Nat) (hs : ∀ k s, k < n → P k s → ∃ s', f s = some (.inl s') ∧ P (k + 1) s') (he : ∀ s, P n s → ∃ r, f s = some (.inr r) ∧ R r) : ∀ (N k : Nat) (s : σ), k ≤ n → n - k < N → P k s → ∃ r, loopN f N s = some r ∧ R r := by
  intro N
  induction N with
  | zero => intro k s h1 h2; omega
  | succ N ih =>
    intro k s h1 h2 hp
    by_cases hk : k < n
    · obtain ⟨s', e, hp'⟩ := hs k s hk hp
      rw [loopN_inl e]
      exact ih (k + 1) s' (by omega) (by omega) hp'
    · have : k = n := by omega
      subst this
      obtain ⟨r, e, hr⟩ := he s hp
      exact ⟨r, loopN_inr e, hr⟩
theorem loop_inv2 {σ ρ : Type} {f : σ → Option (σ ⊕ ρ)} (P : Nat → σ → Prop) (R : ρ → Prop) (n : Nat) (hs : ∀ k s, k ≤ n → P k s → (∃ s', f s = some (.inl s') ∧ P (k + 1) s' ∧ k < n) ∨ (∃ r, f s = some (.inr r) ∧ R r)) : ∀ (N k : Nat) (s : σ), k ≤ n → n - k < N → P k s → ∃ r, loopN f N s = some r ∧ R r := by
  intro N
  induction N with
  | zero => intro k s h1 h2; omega
  | succ N ih =>
    intro k s h1 h2 hp
    rcases hs k s h1 hp with ⟨s', e, hp', hk⟩ | ⟨r, e, hr⟩
    · rw [loopN_inl e]
      exact ih (k + 1) s' (by omega) (by omega) hp'
    · exact ⟨r, loopN_inr e, hr⟩
/-! numbers -/
theorem nI_sub {a b : Nat} (h : b ≤ a) : nI a - nI b = nI (a - b) := by
  have e : a = (a - b) + b := by omega
  rw [e, ← nI_add, Nat.add_sub_cancel]
  exact Int32.add_sub_cancel _ _
theorem nI_mul (a b : Nat) : nI a * nI b = nI (a * b) := (Int32.ofNat_mul a b).symm
theorem inb_nI {k n : Nat} (hk : k < n) (hn : n < 2 ^ 31) : inb (nI k) n = true := by
  simp only [inb, Bool.and_eq_true, Bool.not_eq_true', decide_eq_false_iff_not, decide_eq_true_eq]
  exact ⟨nI_pos (by omega), by rw [nI_clamp (by omega)]; exact hk⟩
theorem inb_of {i : Int32} {k n : Nat} (e : i = nI k) (hk : k < n) (hn : n < 2 ^ 31) : inb i n = true := by rw [e]; exact inb_nI hk hn
theorem nl0 : (0 : Int32) = nI 0 := by decide +kernel
theorem nl1 : (1 : Int32) = nI 1 := by decide +kernel
theorem nl2 : (2 : Int32) = nI 2 := by decide +kernel
theorem nl3 : (3 : Int32) = nI 3 := by decide +kernel
theorem nl4 : (4 : Int32) = nI 4 := by decide +kernel
theorem nl5 : (5 : Int32) = nI 5 := by decide +kernel
theorem nl6 : (6 : Int32) = nI 6 := by decide +kernel
theorem nl9 : (9 : Int32) = nI 9 := by decide +kernel
theorem nl10 : (10 : Int32) = nI 10 := by decide +kernel
theorem nl12 : (12 : Int32) = nI 12 := by decide +kernel
theorem nl13 : (13 : Int32) = nI 13 := by decide +kernel
theorem nl14 : (14 : Int32) = nI 14 := by decide +kernel
theorem nl20 : (20 : Int32) = nI 20 := by decide +kernel
theorem nl36 : (36 : Int32) = nI 36 := by decide +kernel
theorem nl40 : (40 : Int32) = nI 40 := by decide +kernel
theorem nl60 : (60 : Int32) = nI 60 := by decide +kernel
theorem nl80 : (80 : Int32) = nI 80 := by decide +kernel
/-- a number is one of 0 .. n - 1, or it isn't -/
theorem nI_cases (v : Int32) (n : Nat) (hn : n < 2 ^ 31) : (∃ w, w < n ∧ v = nI w) ∨ (v < 0 ∨ ¬ v < nI n) := by
  by_cases h0 : v < 0
  · exact Or.inr (Or.inl h0)
  · by_cases h1 : v < nI n
    · obtain ⟨j, hj, e⟩ := nI_of h0
      rw [e, nI_ltI hj hn] at h1
      exact Or.inl ⟨j, h1, e⟩
    · exact Or.inr (Or.inr h1)
/-! frames -/
def fr (S : Nat → Nat → Prop) (I I' : MI) : Prop := ∀ b j, ¬ S b j → I' b j = I b j
def frL (S : Nat → Nat → Prop) (I I' : ML) : Prop := ∀ b j, ¬ S b j → I' b j = I b j
theorem fr.rfl {S : Nat → Nat → Prop} {I : MI} : fr S I I := fun _ _ _ => Eq.refl _
theorem fr.trans {S : Nat → Nat → Prop} {I I' I'' : MI} (h : fr S I I') (h' : fr S I' I'') : fr S I I'' := fun b j n => (h' b j n).trans (h b j n)
theorem fr.mono {S S' : Nat → Nat → Prop} {I I' : MI} (h : fr S I I') (hs : ∀ b j, S b j → S' b j) : fr S' I I' := fun b j n => h b j (fun q => n (hs b j q))
theorem fr.up {S : Nat → Nat → Prop} {I : MI} {a k : Nat} {v : Int32} (h : S a k) : fr S I (upI I a k v) := fun b j n => upI_ne b j (by
  by_cases e : b = a
  · right; intro e2; subst e; subst e2; exact n h
  · left; exact e)
theorem frL.rfl {S : Nat → Nat → Prop} {I : ML} : frL S I I := fun _ _ _ => Eq.refl _
theorem frL.trans {S : Nat → Nat → Prop} {I I' I'' : ML} (h : frL S I I') (h' : frL S I' I'') : frL S I I'' := fun b j n => (h' b j n).trans (h b j n)
theorem frL.mono {S S' : Nat → Nat → Prop} {I I' : ML} (h : frL S I I') (hs : ∀ b j, S b j → S' b j) : frL S' I I' := fun b j n => h b j (fun q => n (hs b j q))
theorem upL_ne {I : ML} {a k : Nat} {v : Int64} : ∀ b j, (b ≠ a ∨ j ≠ k) → upL I a k v b j = I b j := by
  intro b j h
  unfold upL
  rw [if_neg (fun e => h.elim (fun q => q e.1) (fun q => q e.2))]
theorem frL.up {S : Nat → Nat → Prop} {I : ML} {a k : Nat} {v : Int64} (h : S a k) : frL S I (upL I a k v) := fun b j n => upL_ne b j (by
  by_cases e : b = a
  · right; intro e2; subst e; subst e2; exact n h
  · left; exact e)
theorem upI_eq (I : MI) (a k : Nat) (v : Int32) : upI I a k v a k = v := by rw [upI_at, if_pos rfl]
theorem upL_eq (I : ML) (a k : Nat) (v : Int64) : upL I a k v a k = v := by rw [upL_at, if_pos rfl]
/-! the judges of arguments -/
theorem piece_ok {w : Nat} (hw : w < 6) : f_X10_isPiece (nI w) = some 1 := by
  unfold f_X10_isPiece
  rw [if_neg (nI_pos (by omega)), nl6, if_pos ((nI_ltI (by omega) (by omega)).mpr hw)]
theorem piece_no {v : Int32} (h : v < 0 ∨ ¬ v < 6) : f_X10_isPiece v = some 0 := by
  unfold f_X10_isPiece
  by_cases h0 : v < 0
  · rw [if_pos h0]
  · rw [if_neg h0, if_neg (h.resolve_left h0)]
theorem in_of {v : Int32} {lo hi : Int64} {a b : Int} (hl : lo.toInt = a) (hh : hi.toInt = b) : f_X11_in (Int32.toInt64 v) lo hi = some (if a ≤ v.toInt ∧ v.toInt ≤ b then 1 else 0) := by
  have e1 : Int32.toInt64 v < lo ↔ v.toInt < a := by rw [Int64.lt_iff_toInt_lt, Int32.toInt_toInt64, hl]
  have e2 : hi < Int32.toInt64 v ↔ b < v.toInt := by rw [Int64.lt_iff_toInt_lt, Int32.toInt_toInt64, hh]
  unfold f_X11_in
  by_cases h1 : v.toInt < a
  · rw [if_pos (e1.mpr h1), if_neg (by omega)]
  · rw [if_neg (fun q => h1 (e1.mp q))]
    by_cases h2 : b < v.toInt
    · rw [if_pos (e2.mpr h2), if_neg (by omega)]
    · rw [if_neg (fun q => h2 (e2.mp q)), if_pos (by omega)]
theorem in_ok {w : Nat} {lo hi : Int64} {a b : Nat} (hl : lo.toInt = a) (hh : hi.toInt = b) (h31 : w < 2 ^ 31) (h1 : a ≤ w) (h2 : w ≤ b) : f_X11_in (Int32.toInt64 (nI w)) lo hi = some 1 := by
  rw [in_of hl hh, nI_toInt h31, if_pos (by omega)]
theorem in_no {v : Int32} {lo hi : Int64} {a b : Int} (hl : lo.toInt = a) (hh : hi.toInt = b) (h : v.toInt < a ∨ b < v.toInt) : f_X11_in (Int32.toInt64 v) lo hi = some 0 := by
  rw [in_of hl hh, if_neg (by omega)]
theorem six_ok {w : Nat} (hw : w < 6) : f_X11_isSix (nI w) = some 1 := by
  unfold f_X11_isSix
  rw [in_ok (a := 0) (b := 5) (by decide) (by decide) (by omega) (by omega) (by omega)]
  rfl
theorem six_no {v : Int32} (h : v < 0 ∨ ¬ v < 6) : f_X11_isSix v = some 0 := by
  have h6 : (6 : Int32).toInt = 6 := by decide
  unfold f_X11_isSix
  rw [in_no (a := 0) (b := 5) (by decide) (by decide) (by
    rcases h with h | h
    · left; rw [Int32.lt_iff_toInt_lt] at h; simpa using h
    · right; rw [Int32.lt_iff_toInt_lt, h6] at h; omega)]
  rfl
/-- one of six pieces, or none: both sides say so -/
theorem six_cases (v : Int32) : (∃ w, w < 6 ∧ v = nI w ∧ f_X10_isPiece v = some 1 ∧ f_X11_isSix v = some 1) ∨ (f_X10_isPiece v = some 0 ∧ f_X11_isSix v = some 0) := by
  rcases nI_cases v 6 (by decide) with ⟨w, hw, rfl⟩ | h
  · exact Or.inl ⟨w, hw, rfl, piece_ok hw, six_ok hw⟩
  · rw [← nl6] at h
    exact Or.inr ⟨piece_no h, six_no h⟩
theorem side_ok {n : Nat} (h1 : 1 ≤ n) (h6 : n ≤ 6) : f_X10_isSide (nI n) = some 1 := by
  unfold f_X10_isSide
  rw [nl1, if_neg (by rw [nI_ltI (by omega) (by omega)]; omega), nl6, if_neg (by rw [nI_ltI (by omega) (by omega)]; omega)]
theorem side_cases (v : Int32) : (∃ n, 1 ≤ n ∧ n ≤ 6 ∧ v = nI n ∧ f_X10_isSide v = some 1 ∧ f_X11_in (Int32.toInt64 v) 1 6 = some 1) ∨ (f_X10_isSide v = some 0 ∧ f_X11_in (Int32.toInt64 v) 1 6 = some 0) := by
  rcases nI_cases v 7 (by decide) with ⟨w, hw, rfl⟩ | h
  · by_cases h1 : 1 ≤ w
    · exact Or.inl ⟨w, h1, by omega, rfl, side_ok h1 (by omega), in_ok (a := 1) (b := 6) (by decide) (by decide) (by omega) h1 (by omega)⟩
    · have : w = 0 := by omega
      subst this
      exact Or.inr ⟨by decide, by decide⟩
  · have h7 : (nI 7).toInt = 7 := nI_toInt (by decide)
    have h1 : (1 : Int32).toInt = 1 := by decide
    have h6 : (6 : Int32).toInt = 6 := by decide
    have h0 : (0 : Int32).toInt = 0 := by decide
    have hv : v.toInt < 1 ∨ 6 < v.toInt := by
      rw [Int32.lt_iff_toInt_lt, Int32.lt_iff_toInt_lt, h7, h0] at h
      omega
    refine Or.inr ⟨?_, in_no (a := 1) (b := 6) (by decide) (by decide) hv⟩
    unfold f_X10_isSide
    have e1 : v < 1 ↔ v.toInt < 1 := by rw [Int32.lt_iff_toInt_lt, h1]
    have e2 : 6 < v ↔ 6 < v.toInt := by rw [Int32.lt_iff_toInt_lt, h6]
    by_cases q : v.toInt < 1
    · rw [if_pos (e1.mpr q)]
    · rw [if_neg (fun z => q (e1.mp z)), if_pos (e2.mpr (by omega))]
/-! what the bnd words do -/
theorem bnd1_some {α β : Type} {o : Option α} {a : α} {k : α → Option β} (h : o = some a) : bnd1 o k = k a := by rw [h]; rfl
theorem bnd2_some {α β γ : Type} {o : Option (α × β)} {a : α} {b : β} {k : α → β → Option γ} (h : o = some (a, b)) : bnd2 o k = k a b := by rw [h]; rfl
theorem bnd3_some {α β γ δ : Type} {o : Option (α × β × γ)} {a : α} {b : β} {c : γ} {k : α → β → γ → Option δ} (h : o = some (a, b, c)) : bnd3 o k = k a b c := by rw [h]; rfl
theorem bnd4_some {α β γ δ ε : Type} {o : Option (α × β × γ × δ)} {a : α} {b : β} {c : γ} {d : δ} {k : α → β → γ → δ → Option ε} (h : o = some (a, b, c, d)) : bnd4 o k = k a b c d := by rw [h]; rfl
theorem inb_pos {α : Type} {i : Int32} {n : Nat} {e : Option α} (h : inb i n = true) : (if inb i n = true then e else none) = e := if_pos h
