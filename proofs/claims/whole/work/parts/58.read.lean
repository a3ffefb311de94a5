/-! ===== read: faults ===== -/
theorem nl85 : (85 : Int32) = nI 85 := by decide +kernel
theorem nl68 : (68 : Int32) = nI 68 := by decide +kernel
theorem nl41 : (41 : Int32) = nI 41 := by decide +kernel
theorem nl48 : (48 : Int32) = nI 48 := by decide +kernel
theorem nl57 : (57 : Int32) = nI 57 := by decide +kernel
def bI (b : Bool) : Int32 := if b then 1 else 0
abbrev isFg (x : Nat) : Prop := 48 ≤ x ∧ x ≤ 57
theorem dn3 {m : Nat} (h : 1 ≤ m) : nI m + -1 = nI (m - 1) := by rw [← Int32.sub_eq_add_neg, nl1, nI_sub h]
def fst1 (x : Nat) (s : Nat × Bool × Bool) : Option (Nat × Bool × Bool) :=
  if x = 85 ∨ x = 68 then some (s.1, true, true)
  else if x = 40 ∧ s.1 < 4 then some (s.1 + 1, false, false)
  else if x = 41 ∧ 0 < s.1 ∧ s.2.1 = true then some (s.1 - 1, s.2.1, true)
  else if (48 ≤ x ∧ x ≤ 57) ∧ s.2.2 = true then some (s.1, s.2.1, false)
  else none
def TX (I : MI) (n : Nat) (c : Nat → Nat) : Prop := I 72 1 = nI n ∧ ∀ i, i < n → I 73 i = nI (c i)
def TM (I : MI) (n : Nat) (c : Nat → Nat) : Prop := I 99 13 = nI n ∧ ∀ i, i < n → I 111 i = nI (c i)
section RD
variable {N n : Nat} {c : Nat → Nat}
theorem isL {I : MI} {p : Nat} (h : TX I n c) (hn : n ≤ 80) (hx : ∀ i, i < n → c i ≤ 127) (hp : p < n) : f_X8_isLetter (nI p) I = some (if c p = 85 ∨ c p = 68 then 1 else 0) := by
  have := hx p hp
  unfold f_X8_isLetter
  rw [if_pos (inb_nI (by omega) (by decide)), if_pos (inb_nI (by omega) (by decide)), nI_clamp (by omega), h.2 p hp, nl85, nl68]
  by_cases q : c p = 85
  · rw [if_pos (by rw [q]), if_pos (Or.inl q)]
  · rw [if_neg (by rw [nI_eq (by omega) (by omega)]; exact q)]
    by_cases q2 : c p = 68
    · rw [if_pos (by rw [q2]), if_pos (Or.inr q2)]
    · rw [if_neg (by rw [nI_eq (by omega) (by omega)]; exact q2), if_neg (by omega)]
theorem isF {I : MI} {p : Nat} (h : TX I n c) (hn : n ≤ 80) (hx : ∀ i, i < n → c i ≤ 127) (hp : p < 2 ^ 31) : f_X8_isFigure (nI p) I = some (if p < n ∧ isFg (c p) then 1 else 0) := by
  unfold f_X8_isFigure isFg
  rw [h.1]
  by_cases q : p < n
  · have := hx p q
    rw [if_pos ((nI_ltI (by omega) (by omega)).mpr q), if_pos (inb_nI (by omega) (by decide)), if_pos (inb_nI (by omega) (by decide)), nI_clamp (by omega), h.2 p q, nl48, nl57]
    by_cases a : c p < 48
    · rw [if_pos ((nI_ltI (by omega) (by omega)).mpr a), if_neg (by omega)]
    · rw [if_neg (nI_le0 (by omega) (by omega))]
      by_cases b : 57 < c p
      · rw [if_pos ((nI_ltI (by omega) (by omega)).mpr b), if_neg (by omega)]
      · rw [if_neg (nI_le0 (by omega) (by omega)), if_pos (by omega)]
  · rw [if_neg (nI_le0 (by omega) (by omega)), if_neg (by omega)]
theorem inF {x : Nat} (hx : x < 2 ^ 31) : f_X11_in (Int32.toInt64 (nI x)) 48 57 = some (if 48 ≤ x ∧ x ≤ 57 then 1 else 0) := by
  rw [in_of (a := 48) (b := 57) (by decide) (by decide), nI_toInt hx]
  by_cases q : 48 ≤ x ∧ x ≤ 57
  · rw [if_pos q, if_pos (by omega)]
  · rw [if_neg q, if_neg (by omega)]
theorem bI0 (b : Bool) : (bI b = 0) ↔ b = false := by cases b <;> decide
theorem fa9 {v5 : Nat} {a f : Bool} {o p : Nat} {I : MI} (hx : v5 ≤ 127) (h85 : ¬ (v5 = 85 ∨ v5 = 68)) (h40 : ¬ (v5 = 40 ∧ o < 4)) (ho : o ≤ 4) : f_X11_faultAt_b9_j70 N (nI o) (bI a) (bI f) (nI p) (nI v5) I = (match fst1 v5 (o, a, f) with | some s => some (.inl (nI s.1, bI s.2.1, bI s.2.2, nI (p + 1))) | none => some (.inr (.inr (nI p)))) := by
  have j93 : f_X11_faultAt_b9_j93 N (nI o) (bI a) (bI f) (nI p) (nI v5) I = (if (48 ≤ v5 ∧ v5 ≤ 57) ∧ f = true then some (.inl (nI o, bI a, bI false, nI (p + 1))) else some (.inr (.inr (nI p)))) := by
    unfold f_X11_faultAt_b9_j93
    rw [bnd1_some (inF (by omega))]
    by_cases q : 48 ≤ v5 ∧ v5 ≤ 57
    · rw [if_pos q, if_neg (by decide)]
      cases f
      · rw [if_pos (by decide), if_neg (by simp)]
      · rw [if_neg (by decide), if_pos ⟨q, rfl⟩, nI_1]; rfl
    · rw [if_neg q, if_pos rfl, if_neg (by omega)]
  unfold f_X11_faultAt_b9_j70
  rw [j93]
  unfold fst1
  simp only
  rw [if_neg h85, if_neg h40, nl41]
  by_cases q : v5 = 41
  · subst q
    rw [if_pos rfl]
    by_cases z : 0 < o
    · rw [if_pos (by rw [nl0]; exact (nI_ltI (by omega) (by omega)).mpr z)]
      cases a
      · rw [if_pos (by decide), if_neg (by omega), if_neg (by simp), if_neg (by omega)]
      · rw [if_neg (by decide), if_pos ⟨rfl, z, rfl⟩, dn3 (by omega), nI_1]; rfl
    · rw [if_neg (by rw [nl0]; exact nI_le0 (by omega) (by omega)), if_neg (by omega), if_neg (by omega), if_neg (by omega)]
  · rw [if_neg (by rw [nI_eq (by omega) (by omega)]; exact q), if_neg (show ¬ (v5 = 41 ∧ 0 < o ∧ a = true) from fun w => q w.1)]
    by_cases w : (48 ≤ v5 ∧ v5 ≤ 57) ∧ f = true
    · rw [if_pos w, if_pos w]
    · rw [if_neg w, if_neg w]
theorem faM {a f : Bool} {o p : Nat} {I : MI} (h : TM I n c) (hn : n ≤ 80) (hx : ∀ i, i < n → c i ≤ 127) (hp : p < n) (ho : o ≤ 4) : f_X11_faultAt_b9 N (nI o) (bI a) (bI f) (nI p) I = (match fst1 (c p) (o, a, f) with | some s => some (.inl (nI s.1, bI s.2.1, bI s.2.2, nI (p + 1))) | none => some (.inr (.inr (nI p)))) := by
  have := hx p hp
  unfold f_X11_faultAt_b9
  rw [h.1, if_pos ((nI_ltI (by omega) (by omega)).mpr hp), if_pos (inb_nI (by omega) (by decide)), nI_clamp (by omega), h.2 p hp, nl85, nl68, nl40]
  by_cases q : c p = 85
  · rw [if_pos (by rw [q])]; unfold fst1; rw [if_pos (Or.inl q), nI_1]; rfl
  · rw [if_neg (by rw [nI_eq (by omega) (by omega)]; exact q)]
    by_cases q2 : c p = 68
    · rw [if_pos (by rw [q2])]; unfold fst1; rw [if_pos (Or.inr q2), nI_1]; rfl
    · rw [if_neg (by rw [nI_eq (by omega) (by omega)]; exact q2)]
      by_cases q3 : c p = 40
      · rw [if_pos (by rw [q3])]
        by_cases z : o < 4
        · rw [if_pos (by rw [nl4]; exact (nI_ltI (by omega) (by omega)).mpr z)]; unfold fst1; rw [if_neg (by omega), if_pos ⟨q3, z⟩, nI_1, nI_1]; rfl
        · rw [if_neg (by rw [nl4]; exact nI_le0 (by omega) (by omega))]
          exact fa9 this (by omega) (by omega) ho
      · rw [if_neg (by rw [nI_eq (by omega) (by omega)]; exact q3)]
        exact fa9 this (by omega) (by omega) ho
theorem fa8 {a f : Bool} {o p : Nat} {I : MI} (h : TX I n c) (hn : n ≤ 80) (hx : ∀ i, i < n → c i ≤ 127) (hp : p < n) (h85 : ¬ (c p = 85 ∨ c p = 68)) (h40 : ¬ (c p = 40 ∧ o < 4)) (ho : o ≤ 4) : f_X8_fault_b9_j61 N (nI o) (bI a) (bI f) (nI p) I = (match fst1 (c p) (o, a, f) with | some s => some (.inl (nI s.1, bI s.2.1, bI s.2.2, nI (p + 1))) | none => some (.inr (.inr (nI p)))) := by
  have hxp := hx p hp
  have j93 : f_X8_fault_b9_j89 N (nI o) (bI a) (bI f) (nI p) I = (if (48 ≤ c p ∧ c p ≤ 57) ∧ f = true then some (.inl (nI o, bI a, bI false, nI (p + 1))) else some (.inr (.inr (nI p)))) := by
    unfold f_X8_fault_b9_j89
    rw [bnd1_some (isF h hn hx (by omega))]
    by_cases q : 48 ≤ c p ∧ c p ≤ 57
    · rw [if_pos (show p < n ∧ isFg (c p) from ⟨hp, q⟩), if_neg (by decide)]
      cases f
      · rw [if_pos (by decide), if_neg (by simp)]
      · rw [if_neg (by decide), if_pos ⟨q, rfl⟩, nI_1]; rfl
    · rw [if_neg (show ¬ (p < n ∧ isFg (c p)) from fun w => q w.2), if_pos rfl, if_neg (by omega)]
  unfold f_X8_fault_b9_j61
  rw [j93, if_pos (inb_nI (by omega) (by decide)), nI_clamp (by omega), h.2 p hp]
  unfold fst1
  simp only
  rw [if_neg h85, if_neg h40, nl41]
  generalize c p = x at *
  by_cases q : x = 41
  · subst q
    rw [if_pos rfl]
    by_cases z : 0 < o
    · rw [if_pos (by rw [nl0]; exact (nI_ltI (by omega) (by omega)).mpr z)]
      cases a
      · rw [if_pos (by decide), if_neg (by omega), if_neg (by simp), if_neg (by omega)]
      · rw [if_neg (by decide), if_pos ⟨rfl, z, rfl⟩, dn3 (by omega), nI_1]; rfl
    · rw [if_neg (by rw [nl0]; exact nI_le0 (by omega) (by omega)), if_neg (by omega), if_neg (by omega), if_neg (by omega)]
  · rw [if_neg (by rw [nI_eq (by omega) (by omega)]; exact q), if_neg (show ¬ (x = 41 ∧ 0 < o ∧ a = true) from fun w => q w.1)]
    by_cases w : (48 ≤ x ∧ x ≤ 57) ∧ f = true
    · rw [if_pos w, if_pos w]
    · rw [if_neg w, if_neg w]
theorem faC {a f : Bool} {o p : Nat} {I : MI} (h : TX I n c) (hn : n ≤ 80) (hx : ∀ i, i < n → c i ≤ 127) (hp : p < n) (ho : o ≤ 4) : f_X8_fault_b9 N (nI o) (bI a) (bI f) (nI p) I = (match fst1 (c p) (o, a, f) with | some s => some (.inl (nI s.1, bI s.2.1, bI s.2.2, nI (p + 1))) | none => some (.inr (.inr (nI p)))) := by
  have := hx p hp
  unfold f_X8_fault_b9
  rw [h.1, if_pos ((nI_ltI (by omega) (by omega)).mpr hp), bnd1_some (isL h hn hx hp)]
  by_cases q : c p = 85 ∨ c p = 68
  · rw [if_pos q, if_neg (by decide)]; unfold fst1; rw [if_pos q, nI_1]; rfl
  · rw [if_neg q, if_pos rfl, if_pos (inb_nI (by omega) (by decide)), nI_clamp (by omega), h.2 p hp, nl40]
    by_cases q3 : c p = 40
    · rw [if_pos (by rw [q3])]
      by_cases z : o < 4
      · rw [if_pos (by rw [nl4]; exact (nI_ltI (by omega) (by omega)).mpr z)]; unfold fst1; rw [if_neg (by omega), if_pos ⟨q3, z⟩, nI_1, nI_1]; rfl
      · rw [if_neg (by rw [nl4]; exact nI_le0 (by omega) (by omega))]
        exact fa8 h hn hx hp (by omega) (by omega) ho
    · rw [if_neg (by rw [nI_eq (by omega) (by omega)]; exact q3)]
      exact fa8 h hn hx hp (by omega) (by omega) ho
def frun (c : Nat → Nat) : Nat → Option (Nat × Bool × Bool)
  | 0 => some (0, false, false)
  | k + 1 => (frun c k).bind (fst1 (c k))
theorem fst1_le {x : Nat} {s s' : Nat × Bool × Bool} (h : fst1 x s = some s') (ho : s.1 ≤ 4) : s'.1 ≤ 4 := by
  unfold fst1 at h
  repeat' split at h
  all_goals first
    | (injection h with h; subst h; simp only; omega)
    | (simp at h)
theorem fault_both {I M : MI} (h : TX I n c) (hM : TM M n c) (hn : n ≤ 80) (hx : ∀ i, i < n → c i ≤ 127) (hN : 1000 ≤ N) : ∃ r, f_X8_fault N I = some r ∧ f_X11_faultAt N M = some r ∧ ((r = -1 ∧ ∃ f, frun c n = some (0, true, f)) ∨ ∃ k, k ≤ 80 ∧ r = nI k) := by
  obtain ⟨r, q, h1, h2, rfl, h3⟩ := loop_sync2 (f := fun s : Int32 × Int32 × Int32 × Int32 => f_X8_fault_b9 N s.1 s.2.1 s.2.2.1 s.2.2.2 I) (g := fun s : Int32 × Int32 × Int32 × Int32 => f_X11_faultAt_b9 N s.1 s.2.1 s.2.2.1 s.2.2.2 M) (fun k s t => s = t ∧ ∃ o a f, frun c k = some (o, a, f) ∧ o ≤ 4 ∧ s = (nI o, bI a, bI f, nI k)) (fun r q => r = q ∧ ((∃ o a f, r = .inl (nI o, bI a) ∧ frun c n = some (o, a, f) ∧ o ≤ 4) ∨ ∃ k, k ≤ 80 ∧ r = .inr (nI k))) n (by
    rintro k s t hk ⟨rfl, o, a, f, e1, ho, rfl⟩
    show (∃ s' t', f_X8_fault_b9 N (nI o) (bI a) (bI f) (nI k) I = _ ∧ f_X11_faultAt_b9 N (nI o) (bI a) (bI f) (nI k) M = _ ∧ _) ∨ (∃ r q, f_X8_fault_b9 N (nI o) (bI a) (bI f) (nI k) I = _ ∧ f_X11_faultAt_b9 N (nI o) (bI a) (bI f) (nI k) M = _ ∧ _)
    by_cases z : k < n
    · rw [faC h hn hx z ho, faM hM hn hx z ho]
      cases e : fst1 (c k) (o, a, f) with
      | none =>
        right
        exact ⟨_, _, rfl, rfl, rfl, Or.inr ⟨k, by omega, rfl⟩⟩
      | some s' =>
        left
        refine ⟨_, _, rfl, rfl, ⟨rfl, s'.1, s'.2.1, s'.2.2, ?_, fst1_le e ho, rfl⟩, z⟩
        show (frun c k).bind (fst1 (c k)) = _
        rw [e1]; exact e
    · right
      have : k = n := by omega
      subst this
      refine ⟨_, _, ?_, ?_, rfl, Or.inl ⟨o, a, f, rfl, e1, ho⟩⟩
      · unfold f_X8_fault_b9
        rw [h.1, if_neg (nI_le0 (by omega) (Nat.le_refl _))]
      · unfold f_X11_faultAt_b9
        rw [hM.1, if_neg (nI_le0 (by omega) (Nat.le_refl _))]) N 0 (0, 0, 0, 0) (0, 0, 0, 0) (Nat.zero_le _) (by omega) ⟨rfl, 0, false, false, rfl, by omega, by rw [← nl0]; rfl⟩
  unfold f_X8_fault f_X11_faultAt f_X8_fault_l9 f_X11_faultAt_l9
  rw [h1, h2]
  rcases h3 with ⟨o, a, f, rfl, e1, ho⟩ | ⟨k, hk, rfl⟩
  · simp only [bns2]
    rw [h.1, hM.1]
    by_cases z : o = 0
    · subst z
      rw [if_pos nl0.symm, if_neg (show ¬ (0 : Int32) < nI 0 by decide)]
      cases a
      · rw [if_pos (show bI false = 0 by decide)]
        exact ⟨nI n, rfl, rfl, Or.inr ⟨n, hn, rfl⟩⟩
      · rw [if_neg (show ¬ bI true = 0 by decide)]
        exact ⟨-1, rfl, rfl, Or.inl ⟨rfl, f, e1⟩⟩
    · rw [if_neg (by rw [nl0, nI_eq (by omega) (by omega)]; exact z), if_pos (by rw [nl0]; exact (nI_ltI (by omega) (by omega)).mpr (by omega))]
      exact ⟨nI n, rfl, rfl, Or.inr ⟨n, hn, rfl⟩⟩
  · exact ⟨nI k, rfl, rfl, Or.inr ⟨k, hk, rfl⟩⟩
theorem frun_at {s : Nat × Bool × Bool} : ∀ {m : Nat}, frun c m = some s → ∀ {k}, k ≤ m → ∃ s', frun c k = some s'
  | 0, h, k, hk => ⟨s, by rw [show k = 0 by omega]; exact h⟩
  | m + 1, h, k, hk => by
    by_cases z : k = m + 1
    · subst z; exact ⟨s, h⟩
    · cases e : frun c m with
      | none =>
        have h' : (frun c m).bind (fst1 (c m)) = some s := h
        rw [e] at h'
        simp at h'
      | some s' => exact frun_at e (by omega)
theorem frun_step {s t : Nat × Bool × Bool} {k : Nat} (h : frun c n = some t) (hk : k < n) (e : frun c k = some s) : ∃ s', fst1 (c k) s = some s' ∧ frun c (k + 1) = some s' := by
  obtain ⟨s', h'⟩ := frun_at h (show k + 1 ≤ n by omega)
  have h2 : (frun c k).bind (fst1 (c k)) = some s' := h'
  rw [e] at h2
  exact ⟨s', h2, h'⟩
end RD
