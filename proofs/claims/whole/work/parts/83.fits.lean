/-! ===== fits ===== -/
def ffs (a : Nat → Bool) : Nat → Option Nat
  | 0 => none
  | m + 1 => match ffs a m with
    | some j => some j
    | none => if a m = true then some m else none
def enc (o : Option Nat) : Int32 := match o with
  | some j => nI j
  | none => -5
def TT (a : Nat → Bool) (m : Nat) : Nat := sn (fun j => if a j = true then 1 else 0) m
section SCA
variable {a : Nat → Bool}
theorem ffs_some : ∀ {m j : Nat}, ffs a m = some j → j < m ∧ a j = true ∧ ∀ x, x < j → a x = false
  | 0, j, h => by simp [ffs] at h
  | m + 1, j, h => by
    rw [ffs] at h
    cases e : ffs a m with
    | some i =>
      rw [e] at h
      have := Option.some.inj h
      subst this
      obtain ⟨a1, a2, a3⟩ := ffs_some e
      exact ⟨by omega, a2, a3⟩
    | none =>
      rw [e] at h
      simp only at h
      split at h
      · rename_i hm
        have := Option.some.inj h
        subst this
        refine ⟨by omega, hm, ?_⟩
        have key : ∀ k, ffs a k = none → ∀ x, x < k → a x = false := by
          intro k
          induction k with
          | zero => intro _ x hx; omega
          | succ k ih =>
            intro hk x hx
            rw [ffs] at hk
            cases e' : ffs a k with
            | some i => rw [e'] at hk; simp at hk
            | none =>
              rw [e'] at hk
              simp only at hk
              by_cases z : x = k
              · rw [z]
                cases g : a k with
                | true => rw [if_pos g] at hk; simp at hk
                | false => rfl
              · exact ih e' x (by omega)
        exact key m e
      · simp at h
theorem ffs_none : ∀ {k : Nat}, ffs a k = none → ∀ x, x < k → a x = false
  | 0, _, x, hx => by omega
  | k + 1, hk, x, hx => by
    rw [ffs] at hk
    cases e' : ffs a k with
    | some i => rw [e'] at hk; simp at hk
    | none =>
      rw [e'] at hk
      simp only at hk
      by_cases z : x = k
      · rw [z]
        cases g : a k with
        | true => rw [if_pos g] at hk; simp at hk
        | false => rfl
      · exact ffs_none e' x (by omega)
theorem TT_zero {m : Nat} : TT a m = 0 ↔ ffs a m = none := by
  unfold TT
  induction m with
  | zero => exact ⟨fun _ => rfl, fun _ => rfl⟩
  | succ m ih =>
    rw [sn, ffs]
    constructor
    · intro h
      have h1 : sn (fun j => if a j = true then 1 else 0) m = 0 := by omega
      rw [ih.mp h1]
      simp only
      by_cases g : a m = true
      · rw [if_pos g] at h; omega
      · rw [if_neg g]
    · intro h
      cases e : ffs a m with
      | some i => rw [e] at h; simp at h
      | none =>
        rw [e] at h
        simp only at h
        by_cases g : a m = true
        · rw [if_pos g] at h; simp at h
        · rw [if_neg g, ih.mpr e]
theorem TT_le {m : Nat} : TT a m ≤ m := by
  unfold TT
  induction m with
  | zero => exact Nat.le_refl _
  | succ m ih => rw [sn]; split <;> omega
theorem TT_s {m : Nat} : TT a (m + 1) = TT a m + (if a m = true then 1 else 0) := rfl
/-- the reference's walk through the table -/
theorem scanM {g : Int32 × Int32 × Int32 → Option ((Int32 × Int32 × Int32) ⊕ (Int32 × Int32))} {S N : Nat} (hS : S ≤ 924) (h1 : ∀ j v3 v4, j < S → g (v3, v4, nI j) = some (.inl (if a j = true then (v3 + 1, (if v3 = 0 then nI j else v4), nI (j + 1)) else (v3 + 0, v4, nI (j + 1))))) (h2 : ∀ v3 v4, g (v3, v4, nI S) = some (.inr (v3, v4))) (hN : 1000 ≤ N) : loopN g N (0, -5, 0) = some (nI (TT a S), enc (ffs a S)) := by
  obtain ⟨z, e, h⟩ := loop_inv (f := g) (fun j st => st = (nI (TT a j), enc (ffs a j), nI j)) (fun z => z = (nI (TT a S), enc (ffs a S))) S (by
    rintro j st hj rfl
    refine ⟨_, h1 j _ _ hj, ?_⟩
    have tl := TT_le (a := a) (m := j)
    by_cases q : a j = true
    · rw [if_pos q, TT_s, if_pos q, nI_1, ffs]
      by_cases z : TT a j = 0
      · rw [if_pos (by rw [z]; rfl), TT_zero.mp z]
        simp only [if_pos q]
        rfl
      · rw [if_neg (by rw [nl0, nI_eq (by omega) (by omega)]; exact z)]
        cases e : ffs a j with
        | none => exact absurd (TT_zero.mpr e) z
        | some i => rfl
    · rw [if_neg q, TT_s, if_neg q, Int32.add_zero, Nat.add_zero, ffs]
      cases e : ffs a j with
      | none => simp only [if_neg q]; rfl
      | some i => rfl) (by
    rintro st rfl
    exact ⟨_, h2 _ _, rfl⟩) N 0 (0, -5, 0) (Nat.zero_le _) (by omega) (by rw [nl0]; rfl)
  rw [e, h]
end SCA
section FT
variable {N n k : Nat} {sq sc : Nat → Nat}
def agr (n k : Nat) (sq sc : Nat → Nat) (j : Nat) : Bool := decide (∀ s, s < k → cN (hh n j) n (sq s) = sc s)
theorem cN0 {h : Nat → Nat} : ∀ i, cN h i 0 = 1
  | 0 => by rw [cN, if_pos rfl]
  | i + 1 => by rw [cN, if_pos rfl, cN0 i]
theorem agC {I : MI} {j : Nat} (n1 : 1 ≤ n) (n6 : n ≤ 6) (hj : j < sz n) (hk : k ≤ 4) (h0 : I 1 6 = nI k) (hs : ∀ s, s < k → sq s ≤ 6 ∧ sc s ≤ 9999 ∧ I 8 s = nI (sq s) ∧ I 9 s = nI (sc s)) (hN : 20 ≤ N) : f_X5_agreesWithSeen N 1 (qL (ky n j)) I = some (if agr n k sq sc j = true then 1 else 0) := by
  have ok := row_okK n1 n6 hj
  obtain ⟨z, e, h⟩ := loop_inv2 (f := fun s : Int32 => f_X5_agreesWithSeen_b2 N 1 (qL (ky n j)) s I) (fun s st => st = nI s ∧ ∀ x, x < s → cN (hh n j) n (sq x) = sc x) (fun z => (z = .inl () ∧ agr n k sq sc j = true) ∨ (z = .inr 0 ∧ ¬ agr n k sq sc j = true)) k (by
    rintro s st hs' ⟨rfl, H⟩
    show (∃ s', f_X5_agreesWithSeen_b2 N 1 (qL (ky n j)) (nI s) I = _ ∧ _) ∨ (∃ z, f_X5_agreesWithSeen_b2 N 1 (qL (ky n j)) (nI s) I = _ ∧ _)
    unfold f_X5_agreesWithSeen_b2
    rw [h0]
    by_cases q : s < k
    · obtain ⟨a1, a2, a3, a4⟩ := hs s q
      have cl := cN_le (n := n) (row_ok n1 n6 hj).2.1 (k := sq s) (Nat.le_refl n)
      have gl := gg_small n (by omega) (sq s) (by omega)
      have ik := inKey (I := I) ok (show sq s < 7 by omega)
      rw [show (if sq s = 0 then 1 else cN (hh n j) n (sq s)) = cN (hh n j) n (sq s) by
        by_cases v : sq s = 0
        · rw [if_pos v, v, cN0]
        · rw [if_neg v]] at ik
      rw [if_pos ((nI_ltI (by omega) (by omega)).mpr q), if_pos (by rw [nl4]; exact (nI_ltI (by omega) (by omega)).mpr (by omega)), if_pos (inb_nI (by omega) (by decide)), nI_clamp (by omega), a3, show ky n j = K6 (cN (hh n j) n) from rfl, bnd1_some ik, if_pos (inb_nI (by omega) (by decide)), a4]
      by_cases y : cN (hh n j) n (sq s) = sc s
      · left
        rw [if_pos (by rw [y])]
        refine ⟨_, rfl, ⟨nI_1 _, fun x hx => ?_⟩, q⟩
        by_cases v : x = s
        · rw [v]; exact y
        · exact H x (by omega)
      · right
        rw [if_neg (by rw [nI_eq (by omega) (by omega)]; exact y)]
        exact ⟨_, rfl, Or.inr ⟨rfl, fun w => y (of_decide_eq_true w s q)⟩⟩
    · right
      rw [if_neg (nI_le0 (by omega) (by omega))]
      exact ⟨_, rfl, Or.inl ⟨rfl, decide_eq_true (fun x hx => H x (by omega))⟩⟩) N 0 0 (Nat.zero_le _) (by omega) ⟨nl0, fun x hx => by omega⟩
  unfold f_X5_agreesWithSeen f_X5_agreesWithSeen_l2
  rcases h with ⟨rfl, h⟩ | ⟨rfl, h⟩
  · rw [bns1_inl e, if_pos h]
  · rw [bns1_inr e, if_neg h]
theorem agM {K : MI} {j : Nat} {v2 v3 v4 : Int32} (n1 : 1 ≤ n) (n6 : n ≤ 6) (hj : j < sz n) (hk : k ≤ 4) (ht : TA n K) (h0 : K 99 6 = nI k) (hs : ∀ s, s < k → sq s ≤ 6 ∧ sc s ≤ 9999 ∧ K 106 s = nI (sq s) ∧ K 107 s = nI (sc s)) (hN : 20 ≤ N) : f_X11_fits_l56 N v2 v3 v4 (nI j) 1 0 K = some (if agr n k sq sc j = true then 1 else 0) := by
  have s9 := sz_le n (by omega)
  obtain ⟨z, e, h⟩ := loop_inv (f := fun s : Int32 × Int32 => f_X11_fits_b56 N v2 v3 v4 (nI j) s.1 s.2 K) (fun s st => st.2 = nI s ∧ ((st.1 = 1 ∧ ∀ x, x < s → cN (hh n j) n (sq x) = sc x) ∨ (st.1 = 0 ∧ ¬ ∀ x, x < s → cN (hh n j) n (sq x) = sc x))) (fun z => z = if agr n k sq sc j = true then 1 else 0) k (by
    rintro s ⟨x, y⟩ hs' ⟨e1, h⟩
    simp only at e1 h
    subst e1
    show ∃ s', f_X11_fits_b56 N v2 v3 v4 (nI j) x (nI s) K = _ ∧ _
    unfold f_X11_fits_b56
    obtain ⟨a1, a2, a3, a4⟩ := hs s hs'
    have cl := cN_le (n := n) (row_ok n1 n6 hj).2.1 (k := sq s) (Nat.le_refl n)
    have gl := gg_small n (by omega) (sq s) (by omega)
    rw [h0, if_pos ((nI_ltI (by omega) (by omega)).mpr hs')]
    rcases h with ⟨rfl, h⟩ | ⟨rfl, h⟩
    · rw [if_neg (by decide), if_pos (inb_nI (by omega) (by decide)), nI_clamp (by omega), a3, m7, if_pos (inb_nI (by omega) (by decide)), if_pos (inb_nI (by omega) (by decide)), nI_clamp (by omega), (ht.2 j hj).2 (sq s) (by omega), a4]
      by_cases z : cN (hh n j) n (sq s) = sc s
      · rw [if_pos (by rw [z])]
        refine ⟨_, rfl, nI_1 _, Or.inl ⟨rfl, fun x hx => ?_⟩⟩
        by_cases v : x = s
        · rw [v]; exact z
        · exact h x (by omega)
      · rw [if_neg (by rw [nI_eq (by omega) (by omega)]; exact z)]
        exact ⟨_, rfl, nI_1 _, Or.inr ⟨rfl, fun w => z (w s (by omega))⟩⟩
    · rw [if_pos rfl]
      exact ⟨_, rfl, nI_1 _, Or.inr ⟨rfl, fun w => h (fun x hx => w x (by omega))⟩⟩) (by
    rintro ⟨x, y⟩ ⟨e1, h⟩
    simp only at e1 h
    subst e1
    refine ⟨x, ?_, ?_⟩
    · show f_X11_fits_b56 N v2 v3 v4 (nI j) x (nI k) K = _
      unfold f_X11_fits_b56
      rw [h0, if_neg (nI_le0 (by omega) (Nat.le_refl _))]
    · rcases h with ⟨rfl, h⟩ | ⟨rfl, h⟩
      · rw [if_pos (show agr n k sq sc j = true from decide_eq_true h)]
      · rw [if_neg (show ¬ agr n k sq sc j = true from fun w => h (of_decide_eq_true w))]) N 0 (1, 0) (Nat.zero_le _) (by omega) ⟨nl0, Or.inl ⟨rfl, fun x hx => by omega⟩⟩
  rw [← h]; exact e
theorem fitC {I : MI} {L : ML} {q : Nat} {v2 : Int32} (n1 : 1 ≤ n) (n6 : n ≤ 6) (hd : LD n q I L) (hk : k ≤ 4) (h0 : I 1 6 = nI k) (hs : ∀ s, s < k → sq s ≤ 6 ∧ sc s ≤ 9999 ∧ I 8 s = nI (sq s) ∧ I 9 s = nI (sc s)) (hN : 1000 ≤ N) : f_X10_fits_l42 N v2 q (sz n) 0 (-5) (nI (sz n) - 1) I L = some (nI (TT (agr n k sq sc) (sz n)), enc (ffs (agr n k sq sc) (sz n))) := by
  have s9 := sz_le n (by omega)
  generalize hS : sz n = S at *
  have mono : ∀ m, m ≤ S → TT (agr n k sq sc) m ≤ TT (agr n k sq sc) S := by
    intro m hm
    have : ∀ d, TT (agr n k sq sc) m ≤ TT (agr n k sq sc) (m + d) := by
      intro d
      induction d with
      | zero => exact Nat.le_refl _
      | succ d ih => rw [← Nat.add_assoc, TT_s]; omega
    have := this (S - m)
    rwa [show m + (S - m) = S by omega] at this
  obtain ⟨z, e, h1, o, h2, h3, h4⟩ := loop_inv (f := fun s : Int32 × Int32 × Int32 => f_X10_fits_b42 N v2 q S s.1 s.2.1 s.2.2 I L) (fun d st => st.2.2 = nI (S - d) - 1 ∧ st.1 = nI (TT (agr n k sq sc) S - TT (agr n k sq sc) (S - d)) ∧ ∃ o, st.2.1 = enc o ∧ (∀ j, o = some j → S - d ≤ j ∧ j < S ∧ agr n k sq sc j = true ∧ ∀ x, S - d ≤ x → x < j → agr n k sq sc x = false) ∧ (o = none → ∀ x, S - d ≤ x → x < S → agr n k sq sc x = false)) (fun z => z.1 = nI (TT (agr n k sq sc) S) ∧ ∃ o, z.2 = enc o ∧ (∀ j, o = some j → j < S ∧ agr n k sq sc j = true ∧ ∀ x, x < j → agr n k sq sc x = false) ∧ (o = none → ∀ x, x < S → agr n k sq sc x = false)) S (by
    rintro d ⟨x, y, z⟩ hd' ⟨e1, e2, o, e3, h1, h2⟩
    simp only at e1 e2 e3
    subst e1; subst e2; subst e3
    obtain ⟨j, hj⟩ : ∃ j, j = S - d - 1 := ⟨_, rfl⟩
    show ∃ s', f_X10_fits_b42 N v2 q S _ (enc o) (nI (S - d) - 1) I L = _ ∧ _
    unfold f_X10_fits_b42
    have tm := mono (j + 1) (by omega)
    have ts := TT_s (a := agr n k sq sc) (m := j)
    rw [dn1 (show 1 ≤ S - d by omega), dn2 (show 1 ≤ S - d by omega), ← hj, if_neg (nI_pos (by omega)), if_pos (inb_nI (by omega) (by omega)), nI_clamp (by omega), (hd.2.1 j (by omega)).2, bnd1_some (agC n1 n6 (by omega) hk h0 hs (by omega)), show S - (d + 1) = j by omega, show S - d = j + 1 by omega]
    by_cases q : agr n k sq sc j = true
    · rw [if_pos q] at ts
      rw [if_pos q, if_neg (by decide), nI_1]
      refine ⟨_, rfl, rfl, ?_, some j, rfl, fun i hi => ?_, fun h => by simp at h⟩
      · show nI _ = nI _
        congr 1
        omega
      · have := Option.some.inj hi
        subst this
        exact ⟨Nat.le_refl _, by omega, q, fun x a b => by omega⟩
    · have q' : agr n k sq sc j = false := by simpa using q
      rw [if_neg q] at ts
      rw [if_neg q, if_pos rfl]
      refine ⟨_, rfl, rfl, ?_, o, rfl, fun i hi => ?_, fun h x a b => ?_⟩
      · show nI _ = nI _
        congr 1
        omega
      · obtain ⟨b1, b2, b3, b4⟩ := h1 i hi
        refine ⟨by omega, b2, b3, fun x a b => ?_⟩
        by_cases v : x = j
        · rw [v]; exact q'
        · exact b4 x (by omega) b
      · by_cases v : x = j
        · rw [v]; exact q'
        · exact h2 h x (by omega) b) (by
    rintro ⟨x, y, z⟩ ⟨e1, e2, o, e3, h1, h2⟩
    simp only at e1 e2 e3
    subst e1; subst e2; subst e3
    refine ⟨(nI (TT (agr n k sq sc) S - TT (agr n k sq sc) (S - S)), enc o), ?_, ?_, o, rfl, fun j hj => ?_, fun h x hx => h2 h x (by omega) hx⟩
    · show f_X10_fits_b42 N v2 q S _ (enc o) (nI (S - S) - 1) I L = _
      unfold f_X10_fits_b42
      rw [Nat.sub_self, if_pos (by decide)]
    · show nI (TT (agr n k sq sc) S - TT (agr n k sq sc) (S - S)) = _
      rw [Nat.sub_self]; rfl
    · obtain ⟨b1, b2, b3, b4⟩ := h1 j hj
      exact ⟨b2, b3, fun x hx => b4 x (by omega) hx⟩) N 0 (0, -5, nI S - 1) (Nat.zero_le _) (by omega) ⟨rfl, by show (0 : Int32) = _; rw [Nat.sub_zero, Nat.sub_self]; exact nl0, none, rfl, fun j h => by simp at h, fun _ x a b => by omega⟩
  obtain ⟨z1, z2⟩ := z
  simp only at h1 h2
  subst h1; subst h2
  unfold f_X10_fits_l42
  rw [e]
  congr 2
  cases eo : o with
  | none =>
    cases ef : ffs (agr n k sq sc) S with
    | none => rfl
    | some j =>
      obtain ⟨a1, a2, _⟩ := ffs_some ef
      rw [h4 eo j a1] at a2
      exact absurd a2 (by decide)
  | some i =>
    obtain ⟨b1, b2, b3⟩ := h3 i eo
    cases ef : ffs (agr n k sq sc) S with
    | none =>
      rw [ffs_none ef i b1] at b2
      exact absurd b2 (by decide)
    | some j =>
      obtain ⟨a1, a2, a3⟩ := ffs_some ef
      have : i = j := by
        rcases Nat.lt_trichotomy i j with h | h | h
        · rw [a3 i h] at b2; exact absurd b2 (by decide)
        · exact h
        · rw [b3 j h] at a2; exact absurd a2 (by decide)
      rw [this]
theorem s_fits (hN : 1000 ≤ N) : S_fits N (Inv0 PL0 PA0) := by
  intro X I L x1 x2 hI
  rcases side_cases x1 with ⟨n, n1, n6, rfl, e1, e2⟩ | ⟨e1, e2⟩
  · rcases rng_cases x2 1 (by decide) (hi := 1) (by decide) with ⟨x, hx, rfl, e3⟩ | ⟨h1, e3⟩
    · have s9 := sz_le n (by omega)
      have cn : Int32.toNatClampNeg (nI n) = n := nI_clamp (by omega)
      have ts : Int32.toNatClampNeg (tabI 3 (Int32.toNatClampNeg (nI n))) = sz n := by rw [cn, tab3n n (by omega), nI_clamp (by omega)]
      obtain ⟨q, X', I', L', a1, a2, a3, a4, inv, ref⟩ := sides (N := N) n1 n6 hI hN
      obtain ⟨K, b1, b2, b3, b4⟩ := ref I' fr.rfl
      obtain ⟨k, hk, k1, k2, k3⟩ := inv.n
      let sq : Nat → Nat := fun s => Int32.toNatClampNeg (I' 8 s)
      let sc : Nat → Nat := fun s => Int32.toNatClampNeg (I' 9 s)
      have hs : ∀ s, s < k → sq s ≤ 6 ∧ sc s ≤ 9999 ∧ I' 8 s = nI (sq s) ∧ I' 9 s = nI (sc s) ∧ I' 106 s = nI (sq s) ∧ I' 107 s = nI (sc s) := fun s hs => by
        obtain ⟨u, c, u6, c9, v1, v2, v3, v4⟩ := k3 s hs
        have eq1 : sq s = u := by show Int32.toNatClampNeg (I' 8 s) = u; rw [v1, nI_clamp (by omega)]
        have eq2 : sc s = c := by show Int32.toNatClampNeg (I' 9 s) = c; rw [v3, nI_clamp (by omega)]
        rw [eq1, eq2]
        exact ⟨u6, c9, v1, v3, v2, v4⟩
      have c1 := fitC (N := N) (q := q) (v2 := nI x) (sq := sq) (sc := sc) n1 n6 a2 hk k1 (fun s h => ⟨(hs s h).1, (hs s h).2.1, (hs s h).2.2.1, (hs s h).2.2.2.1⟩) hN
      have ag : ∀ j v3 v4, j < sz n → f_X11_fits_l56 N (nI x) v3 v4 (nI j) 1 0 K = some (if agr n k sq sc j = true then 1 else 0) := fun j v3 v4 hj => agM n1 n6 hj hk b2 (by rw [b3 _ _ (by unfold fA depA; omega)]; exact k2) (fun s h => ⟨(hs s h).1, (hs s h).2.1, by rw [b3 _ _ (by unfold fA depA; omega)]; exact (hs s h).2.2.2.2.1, by rw [b3 _ _ (by unfold fA depA; omega)]; exact (hs s h).2.2.2.2.2⟩) (by omega)
      have c2 : f_X11_fits_l41 N (nI x) 0 (-5) 0 K = some (nI (TT (agr n k sq sc) (sz n)), enc (ffs (agr n k sq sc) (sz n))) := by
        unfold f_X11_fits_l41
        refine scanM s9.1 (fun j v3 v4 hj => ?_) (fun v3 v4 => ?_) hN
        · show f_X11_fits_b41 N (nI x) v3 v4 (nI j) K = _
          unfold f_X11_fits_b41 f_X11_fits_b41_j125 f_X11_fits_b41_j127
          rw [b2.1, if_pos ((nI_ltI (by omega) (by omega)).mpr hj), bnd1_some (ag j v3 v4 hj), nI_1]
          by_cases z : agr n k sq sc j = true
          · rw [if_pos z, if_pos z]
            have n1 : ¬ (1 : Int32) = 0 := by decide
            by_cases y : v3 = 0
            · simp only [if_neg n1, if_pos y]
            · simp only [if_neg n1, if_neg y]
          · rw [if_neg z, if_neg z, if_pos rfl, if_pos rfl]
        · show f_X11_fits_b41 N (nI x) v3 v4 (nI (sz n)) K = _
          unfold f_X11_fits_b41
          rw [b2.1, if_neg (nI_le0 (by omega) (Nat.le_refl _))]
      refine ⟨if nI x = 0 then nI (TT (agr n k sq sc) (sz n)) else enc (ffs (agr n k sq sc) (sz n)), X', I', L', K, ?_, ?_, b4 K fr.rfl⟩
      · unfold f_X10_fits
        rw [bnd1_some e1, if_neg (by decide), if_neg (nI_pos (by omega)), if_neg (by rw [nl1]; exact nI_le0 (by omega) hx), bnd4_some a1, ts, a2.1, bnd2_some c1]
        split <;> rfl
      · unfold f_X11_fits
        rw [bnd1_some e2, if_neg (by decide), bnd1_some e3, if_neg (by decide), bnd1_some b1, bnd2_some c2]
        split <;> rfl
    · refine ⟨-1, X, I, L, I, ?_, ?_, hI⟩
      · unfold f_X10_fits
        rw [bnd1_some e1, if_neg (by decide)]
        by_cases q : x2 < 0
        · rw [if_pos q]
        · rw [if_neg q, nl1, if_pos (h1.resolve_left q)]
      · unfold f_X11_fits; rw [bnd1_some e2, if_neg (by decide), bnd1_some e3, if_pos rfl]
  · refine ⟨-2, X, I, L, I, ?_, ?_, hI⟩
    · unfold f_X10_fits; rw [bnd1_some e1, if_pos rfl]
    · unfold f_X11_fits; rw [bnd1_some e2, if_pos rfl]
end FT
