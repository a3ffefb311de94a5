/-! ===== like ===== -/
def WN (r : Nat → Nat) (n : Nat) : Nat → Nat → Nat
  | 0, S => if S = 0 then 1 else 0
  | i + 1, S => WN r n i S + sn (fun c => if S.testBit c = true ∧ (r i).testBit c = true then WN r n i (S ^^^ 2 ^ c) else 0) n
def ctN (w : Nat → Nat) : Nat → Nat → Nat
  | 0, _ => 0
  | m + 1, k => ctN w m k + (if bcn 6 m = k then w m else 0)
def ff2 : Nat → Nat → Nat
  | 0, m => if m = 0 then 1 else 0
  | i + 1, m => ff2 i m + m * ff2 i (m - 1)
def cbn (k : Nat) : Nat → Nat
  | 0 => 0
  | m + 1 => cbn k m + (if bcn 6 m = k then 1 else 0)
theorem ff2_fw : ∀ n, n < 7 → ∀ k, k < 7 → ff2 n k * cbn k (2 ^ n) < fw k := by decide +kernel
theorem fw_le : ∀ k, k < 7 → fw k ≤ 8192 := by decide +kernel
section LK
variable {r : Nat → Nat} {n : Nat}
theorem WN_W : ∀ {i S : Nat}, Wy r n i S = nI (WN r n i S)
  | 0, S => by
    rw [Wy, WN]
    split <;> rfl
  | i + 1, S => by
    rw [Wy, WN, ← nI_add, sn_nI, WN_W (i := i) (S := S)]
    congr 1
    refine sm_congr (fun c hc => ?_)
    by_cases q : S.testBit c = true ∧ (r i).testBit c = true
    · rw [if_pos q, if_pos q]; exact WN_W
    · rw [if_neg q, if_neg q]; exact nl0
theorem ctN_ct : ∀ {m k : Nat}, ct (Wy r n n) m k = nI (ctN (WN r n n) m k)
  | 0, k => nl0
  | m + 1, k => by
    rw [ct, ctN, ctN_ct, ← nI_add]
    congr 1
    by_cases q : bcn 6 m = k
    · rw [if_pos q, if_pos q]; exact WN_W
    · rw [if_neg q, if_neg q]; exact nl0
theorem WN_le (n6 : n ≤ 6) : ∀ {i S : Nat}, S < 2 ^ n → WN r n i S ≤ ff2 i (bcn 6 S)
  | 0, S, hS => by
    rw [WN, ff2]
    by_cases q : S = 0
    · rw [if_pos q, q, show bcn 6 0 = 0 by decide, if_pos rfl]; exact Nat.le_refl _
    · rw [if_neg q]; exact Nat.zero_le _
  | i + 1, S, hS => by
    have t6 := two_le n6
    rw [WN, ff2]
    have h1 := WN_le n6 (i := i) hS
    have h2 : sn (fun c => if S.testBit c = true ∧ (r i).testBit c = true then WN r n i (S ^^^ 2 ^ c) else 0) n ≤ sn (fun c => ff2 i (bcn 6 S - 1) * (if S.testBit c = true then 1 else 0)) n := sn_le (fun c hc => by
      by_cases q : S.testBit c = true
      · have b6 := mb6 S (by omega) c (by omega) q
        have hl := (mb1 S (by omega) c (by omega) q).1
        have := WN_le n6 (i := i) (S := S ^^^ 2 ^ c) (by omega)
        rw [show bcn 6 (S ^^^ 2 ^ c) = bcn 6 S - 1 by omega] at this
        rw [if_pos q, Nat.mul_one]
        split
        · exact this
        · exact Nat.zero_le _
      · rw [if_neg (fun w => q w.1)]; exact Nat.zero_le _)
    rw [sn_mul, ind1 n (by omega) S hS, Nat.mul_comm] at h2
    omega
theorem ctN_le (n6 : n ≤ 6) : ∀ {m k : Nat}, m ≤ 2 ^ n → ctN (WN r n n) m k ≤ ff2 n k * cbn k m
  | 0, k, _ => Nat.zero_le _
  | m + 1, k, hm => by
    have := ctN_le n6 (m := m) (k := k) (by omega)
    rw [ctN, cbn, Nat.mul_add]
    by_cases q : bcn 6 m = k
    · have w := WN_le (r := r) n6 (i := n) (S := m) (by omega)
      rw [q] at w
      rw [if_pos q, if_pos q, Nat.mul_one]; omega
    · rw [if_neg q, if_neg q]; omega
def cB (r : Nat → Nat) (n k : Nat) : Nat := ctN (WN r n n) (2 ^ n) k
theorem cB_lt (n6 : n ≤ 6) {k : Nat} (hk : k < 7) : cB r n k < fw k := Nat.lt_of_le_of_lt (ctN_le n6 (Nat.le_refl _)) (ff2_fw n (by omega) k hk)
theorem cB_0 (n6 : n ≤ 6) : cB r n 0 = 1 := by
  have h := ct0 (r := r) n6
  rw [ctN_ct] at h
  have := cB_lt (r := r) n6 (k := 0) (by omega)
  have f0 : fw 0 = 2 := rfl
  exact (nI_eq (show cB r n 0 < 2 ^ 31 by omega) (by omega)).mp (h.trans nl1)
theorem cB_ok (n6 : n ≤ 6) : okK (cB r n) := okK_of (fun k hk => cB_lt n6 hk)
def alk (r : Nat → Nat) (n j : Nat) : Bool := decide (ky n j = K6 (cB r n))
theorem alk_iff (n1 : 1 ≤ n) (n6 : n ≤ 6) {j : Nat} (hj : j < sz n) : alk r n j = true ↔ ∀ k, k < 7 → cN (hh n j) n k = cB r n k := by
  unfold alk ky
  constructor
  · intro h
    have e := of_decide_eq_true h
    obtain ⟨h1, h2, h3, h4, h5, h6⟩ := K6_inj (row_okK n1 n6 hj) (cB_ok n6) e
    intro k hk
    have : k = 0 ∨ k = 1 ∨ k = 2 ∨ k = 3 ∨ k = 4 ∨ k = 5 ∨ k = 6 := by omega
    rcases this with rfl | rfl | rfl | rfl | rfl | rfl | rfl
    · rw [cN0, cB_0 n6]
    all_goals assumption
  · intro h
    apply decide_eq_true
    unfold K6
    rw [h 1 (by omega), h 2 (by omega), h 3 (by omega), h 4 (by omega), h 5 (by omega), h 6 (by omega)]
end LK
section SLK
variable {N : Nat}
theorem eqM {n j : Nat} {r : Nat → Nat} {K : MI} {v2 v3 v4 : Int32} (n1 : 1 ≤ n) (n6 : n ≤ 6) (hj : j < sz n) (ht : TA n K) (h130 : ∀ k, k < 7 → K 130 k = nI (cB r n k)) (hN : 20 ≤ N) : f_X11_like_l58 N v2 v3 v4 (nI j) 1 0 K = some (if alk r n j = true then 1 else 0) := by
  have s9 := sz_le n (by omega)
  obtain ⟨z, e, h⟩ := loop_inv (f := fun s : Int32 × Int32 => f_X11_like_b58 N v2 v3 v4 (nI j) s.1 s.2 K) (fun s st => st.2 = nI s ∧ ((st.1 = 1 ∧ ∀ x, x < s → cN (hh n j) n x = cB r n x) ∨ (st.1 = 0 ∧ ¬ ∀ x, x < s → cN (hh n j) n x = cB r n x))) (fun z => z = if alk r n j = true then 1 else 0) 7 (by
    rintro s ⟨x, y⟩ hs' ⟨e1, h⟩
    simp only at e1 h
    subst e1
    show ∃ s', f_X11_like_b58 N v2 v3 v4 (nI j) x (nI s) K = _ ∧ _
    unfold f_X11_like_b58
    have cl := cN_le (n := n) (row_ok n1 n6 hj).2.1 (k := s) (Nat.le_refl n)
    have gl := gg_small n (by omega) s hs'
    have bl := cB_lt (r := r) n6 hs'
    have fl := fw_le s hs'
    rw [nl7, if_pos ((nI_ltI (by omega) (by omega)).mpr hs'), ← nl7]
    rcases h with ⟨rfl, h⟩ | ⟨rfl, h⟩
    · rw [if_neg (by decide), m7, if_pos (inb_nI (by omega) (by decide)), if_pos (inb_nI (by omega) (by decide)), nI_clamp (by omega), nI_clamp (by omega), (ht.2 j hj).2 s hs', h130 s hs']
      by_cases z : cN (hh n j) n s = cB r n s
      · rw [if_pos (by rw [z])]
        refine ⟨_, rfl, nI_1 _, Or.inl ⟨rfl, fun x hx => ?_⟩⟩
        by_cases v : x = s
        · rw [v]; exact z
        · exact h x (by omega)
      · rw [if_neg (by rw [nI_eq (by omega) (by omega)]; exact z)]
        exact ⟨_, rfl, nI_1 _, Or.inr ⟨rfl, fun w => z (w s (by omega))⟩⟩
    · rw [if_pos rfl]
      exact ⟨_, rfl, nI_1 _, Or.inr ⟨rfl, fun w => h (fun x hx => w x (by omega))⟩⟩) (by
    rintro ⟨x, y⟩ ⟨e1, h⟩
    simp only at e1 h
    subst e1
    refine ⟨x, ?_, ?_⟩
    · show f_X11_like_b58 N v2 v3 v4 (nI j) x (nI 7) K = _
      unfold f_X11_like_b58
      rw [if_neg (by decide)]
    · rcases h with ⟨rfl, h⟩ | ⟨rfl, h⟩
      · rw [if_pos ((alk_iff n1 n6 hj).mpr h)]
      · rw [if_neg (fun w => h ((alk_iff n1 n6 hj).mp w))]) N 0 (1, 0) (Nat.zero_le _) (by omega) ⟨nl0, Or.inl ⟨rfl, fun x hx => by omega⟩⟩
  rw [← h]; exact e
theorem s_like (hN : 1000 ≤ N) : S_like N (Inv0 PL0 PA0) := by
  intro X I L x1 x2 hI
  rcases (six_cases x1).symm with ⟨e1, e2⟩ | ⟨w, hw, rfl, e1, e2⟩
  · refine ⟨-1, X, I, L, I, ?_, ?_, hI⟩
    · unfold f_X10_like; rw [bnd1_some e1, if_pos rfl]
    · unfold f_X11_like; rw [bnd1_some e2, if_pos rfl]
  have iw : inb (nI w) 6 = true := inb_nI hw (by decide)
  have cw : Int32.toNatClampNeg (nI w) = w := nI_clamp (by omega)
  rcases rng_cases x2 1 (by decide) (hi := 1) (by decide) with ⟨x, hx, rfl, e3⟩ | ⟨h1, e3⟩
  · obtain ⟨n, r, n1, n6, hr, hc, hm⟩ := hI.b hw
    have s9 := sz_le n (by omega)
    have cn : Int32.toNatClampNeg (nI n) = n := nI_clamp (by omega)
    have ts : Int32.toNatClampNeg (tabI 3 (Int32.toNatClampNeg (nI n))) = sz n := by rw [cn, tab3n n (by omega), nI_clamp (by omega)]
    obtain ⟨q, X', I', L', a1, a2, a3, a4, inv, ref⟩ := sides (N := N) n1 n6 hI hN
    have hcI : BC I' (12 + 4 * w) n r := BC_fr a4 (fun _ => by omega) (fun _ => by omega) hc
    have hmI : BM I' 103 104 w n r := BM_fr a4 (fun _ => by omega) (fun _ => by omega) hm
    obtain ⟨J, c1, _, c3, c4⟩ := cntC (N := N) (a := 12 + 4 * w) (by omega) n6 hr hcI hN
    obtain ⟨K1, d1, _, d3, d4⟩ := cntM (N := N) hw n6 hr (BM_fr c4 (fun _ => by omega) (fun _ => by omega) hmI) hN
    obtain ⟨K, b1, b2, b3, b4⟩ := ref K1 ((c4.mono (S' := scr) (fun b j h => by unfold scr; omega)).trans (d4.mono (fun b j h => by unfold scr; omega)))
    have ldJ : LD n q J L' := LD_eq (fun b j h1 h2 => c4 b j (by omega)) (fun b j _ _ => rfl) a2
    have kS := keyS (N := N) (a := 93) (I := J) (c := cB r n) (cB_ok n6) (fun k k1 k7 => ⟨by rw [c3 k k7]; exact ctN_ct, by have := cB_lt (r := r) n6 k7; have := fw_le k k7; omega⟩) (by omega)
    obtain ⟨_, _, P, pk, pf, hp, hP, hT⟩ := ldJ
    have xl := K6_lt (cB_ok (r := r) n6)
    obtain ⟨z, z1, z2, z3, z4⟩ := findP (N := N) (q := q) n1 n6 (Nat.le_refl _) xl hp hP (fun p hp => (hT p hp).1) hN
    obtain ⟨p1, p2, p3, p4⟩ := hp
    have K103 : K1 103 w = nI n := by rw [d4 _ _ (by omega), c4 _ _ (by omega)]; exact hmI.1
    have k130 : ∀ k, k < 7 → K 130 k = nI (cB r n k) := fun k hk => by
      rw [b3 _ _ (by unfold fA depA; omega), d3 k hk]; exact ctN_ct
    have sc : f_X11_like_l43 N (nI x) 0 (-5) 0 K = some (nI (TT (alk r n) (sz n)), enc (ffs (alk r n) (sz n))) := by
      unfold f_X11_like_l43
      refine scanM s9.1 (fun j v3 v4 hj => ?_) (fun v3 v4 => ?_) hN
      · show f_X11_like_b43 N (nI x) v3 v4 (nI j) K = _
        unfold f_X11_like_b43 f_X11_like_b43_j120 f_X11_like_b43_j122
        rw [b2.1, if_pos ((nI_ltI (by omega) (by omega)).mpr hj), bnd1_some (eqM n1 n6 hj b2 k130 (by omega)), nI_1]
        by_cases z : alk r n j = true
        · rw [if_pos z, if_pos z]
          have n1 : ¬ (1 : Int32) = 0 := by decide
          by_cases y : v3 = 0
          · simp only [if_neg n1, if_pos y]
          · simp only [if_neg n1, if_neg y]
        · rw [if_neg z, if_neg z, if_pos rfl, if_pos rfl]
      · show f_X11_like_b43 N (nI x) v3 v4 (nI (sz n)) K = _
        unfold f_X11_like_b43
        rw [b2.1, if_neg (nI_le0 (by omega) (Nat.le_refl _))]
    have tk : TT (alk r n) (sz n) = cntK n (sz n) (K6 (cB r n)) := by
      unfold TT cntK
      refine sn_congr (fun j hj => ?_)
      unfold alk
      by_cases v : ky n j = K6 (cB r n)
      · rw [if_pos v, if_pos (decide_eq_true v)]
      · rw [if_neg v, if_neg (fun h => v (of_decide_eq_true h))]
    have B : f_X11_like N (nI w) (nI x) J = some (if nI x = 0 then nI (TT (alk r n) (sz n)) else enc (ffs (alk r n) (sz n)), K) := by
      unfold f_X11_like
      rw [bnd1_some e2, if_neg (by decide), bnd1_some e3, if_neg (by decide), bnd1_some d1, if_pos iw, cw, K103, bnd1_some b1, bnd2_some sc]
      split <;> rfl
    have A : ∀ v, f_X2_partOf N q (sz n) (qL (K6 (cB r n))) J L' = some v → f_X10_like N (nI w) (nI x) X I L = (if v < 0 then (if nI x = 0 then some (0, X', J, L') else some ((-5), X', J, L')) else (if nI x = 0 then if inb v (sz n) = true then some (J (q + 4) (Int32.toNatClampNeg v), X', J, L') else none else if inb v (sz n) = true then some (J (q + 5) (Int32.toNatClampNeg v), X', J, L') else none)) := fun v hv => by
      unfold f_X10_like
      rw [bnd1_some e1, if_neg (by decide), if_neg (nI_pos (by omega)), if_neg (by rw [nl1]; exact nI_le0 (by omega) hx), if_pos iw, cw, hc.1, bnd4_some a1, bnd1_some c1, bnd1_some kS, ts, bnd1_some hv]
    have inv2 : Inv0 PL0 PA0 X' K L' := b4 K fr.rfl
    by_cases hit : z < P ∧ pk z = K6 (cB r n)
    · obtain ⟨h1, h2⟩ := hit
      obtain ⟨q1, q2, q3⟩ := hT z h1
      obtain ⟨f1, f2, f3⟩ := p3 z h1
      have pz : f_X2_partOf N q (sz n) (qL (K6 (cB r n))) J L' = some (nI z) := by
        unfold f_X2_partOf
        rw [bnd1_some z2, hP, if_pos ((nI_ltI (by omega) (by omega)).mpr h1), if_pos (inb_nI (by omega) (by omega)), nI_clamp (by omega), q1, h2, if_pos rfl]
      have fe : ffs (alk r n) (sz n) = some (pf z) := by
        cases e : ffs (alk r n) (sz n) with
        | none =>
          have := ffs_none e (pf z) f1
          unfold alk at this
          rw [decide_eq_true (by rw [f2, h2])] at this
          exact absurd this (by decide)
        | some j =>
          obtain ⟨g1, g2, g3⟩ := ffs_some e
          have kj : ky n j = pk z := by rw [h2]; exact of_decide_eq_true g2
          rcases Nat.lt_trichotomy j (pf z) with h | h | h
          · exact absurd kj (f3 j h)
          · rw [h]
          · have := g3 (pf z) h
            unfold alk at this
            rw [decide_eq_true (by rw [f2, h2])] at this
            exact absurd this (by decide)
      refine ⟨if nI x = 0 then nI (TT (alk r n) (sz n)) else enc (ffs (alk r n) (sz n)), X', J, L', K, ?_, B, inv2⟩
      rw [A _ pz, if_neg (nI_pos (by omega)), if_pos (inb_nI (by omega) (by omega)), if_pos (inb_nI (by omega) (by omega)), nI_clamp (by omega), q2, q3, fe, tk, h2]
      split <;> rfl
    · have none' : ∀ j, j < sz n → ky n j ≠ K6 (cB r n) := fun j hj e => by
        obtain ⟨p, hp, ep⟩ := p4 j hj
        rw [e] at ep
        by_cases v : p < z
        · have := z3 p v; omega
        · by_cases u : p = z
          · exact hit ⟨by omega, by rw [← u]; exact ep⟩
          · have a := p2 z p (by omega) hp
            have b := z4 z (Nat.le_refl _) (by omega)
            omega
      have pz : f_X2_partOf N q (sz n) (qL (K6 (cB r n))) J L' = some (-1) := by
        unfold f_X2_partOf
        rw [bnd1_some z2, hP]
        by_cases v : z < P
        · have pl : pk z < 2 ^ 63 := by rw [← (p3 z v).2.1]; exact ky_lt n1 n6 (p3 z v).1
          rw [if_pos ((nI_ltI (by omega) (by omega)).mpr v), if_pos (inb_nI (by omega) (by omega)), nI_clamp (by omega), (hT z v).1, if_neg (by rw [qL_inj pl xl]; exact fun h => hit ⟨v, h⟩)]
        · rw [if_neg (nI_le0 (by omega) (by omega))]
      have fe : ffs (alk r n) (sz n) = none := by
        cases e : ffs (alk r n) (sz n) with
        | none => rfl
        | some j =>
          obtain ⟨g1, g2, _⟩ := ffs_some e
          exact absurd (of_decide_eq_true g2) (none' j g1)
      refine ⟨if nI x = 0 then nI (TT (alk r n) (sz n)) else enc (ffs (alk r n) (sz n)), X', J, L', K, ?_, B, inv2⟩
      rw [A _ pz, if_pos (by decide), fe, TT_zero.mpr fe, ← nl0]
      split <;> rfl
  · refine ⟨-1, X, I, L, I, ?_, ?_, hI⟩
    · unfold f_X10_like
      rw [bnd1_some e1, if_neg (by decide)]
      by_cases q : x2 < 0
      · rw [if_pos q]
      · rw [if_neg q, nl1, if_pos (h1.resolve_left q)]
    · unfold f_X11_like; rw [bnd1_some e2, if_neg (by decide), bnd1_some e3, if_pos rfl]
end SLK
