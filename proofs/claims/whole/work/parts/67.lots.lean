/-! ===== lots ===== -/
theorem loopN_mono {σ ρ : Type} {f : σ → Option (σ ⊕ ρ)} {r : ρ} : ∀ {M N : Nat} {s : σ}, loopN f M s = some r → M ≤ N → loopN f N s = some r
  | 0, N, s, h, _ => by simp [loopN] at h
  | M + 1, N, s, h, hN => by
    obtain ⟨N', rfl⟩ : ∃ N', N = N' + 1 := ⟨N - 1, by omega⟩
    cases e : f s with
    | none => simp [loopN, e] at h
    | some q =>
      cases q with
      | inl s' =>
        rw [loopN_inl e] at h ⊢
        exact loopN_mono h (by omega)
      | inr x =>
        rw [loopN_inr e] at h ⊢
        exact h
theorem and_nn (y : Int32) : ¬ (y &&& 2147483647) < 0 := by
  rw [Int32.lt_iff_toInt_lt]
  show ¬ (y &&& 2147483647).toBitVec.toInt < 0
  rw [Int32.toBitVec_and]
  have : (y.toBitVec &&& (2147483647 : Int32).toBitVec).msb = false := by
    rw [BitVec.msb_and]
    have : (2147483647 : Int32).toBitVec.msb = false := by decide
    rw [this, Bool.and_false]
  rw [BitVec.toInt_eq_msb_cond, this]
  simp
def lotB (m : Int32) (s : Int32 × Int32) : Option ((Int32 × Int32) ⊕ Int32) := (if ((jshr m s.2) &&& 1) = 0 then some (.inl (s.1 - ((jshr m s.2) &&& 1), s.2 + 1)) else (if 0 < s.1 then some (.inl (s.1 - ((jshr m s.2) &&& 1), s.2 + 1)) else some (.inr s.2)))
def numB (v1 : Int32) (s : Int32 × Int32) : Option ((Int32 × Int32) ⊕ Int32) := (if s.2 < v1 then some (.inl (s.1 &&& (s.1 - 1), s.2 + 1)) else some (.inr s.1))
def bpos (m k : Nat) : Nat := ((List.range 6).filter (fun j => m.testBit j)).getD k 0
theorem lot1 : ∀ m, m < 64 → ∀ k, k < 6 → k < bcn 6 m → m.testBit (bpos m k) = true ∧ bpos m k < 6 := by decide +kernel
theorem lot2 : ∀ m, m < 64 → ∀ k, k < 6 → k < bcn 6 m → loopN (lotB (nI m)) 10 (nI k, 0) = some (nI (bpos m k)) := by decide +kernel
def lowb (m k : Nat) : Int32 := nI ((m >>> (bpos m k)) <<< (bpos m k))
theorem lot3 : ∀ m, m < 64 → ∀ k, k < 6 → k < bcn 6 m → loopN (numB (nI k)) 10 (nI m, 0) = some (lowb m k) ∧ lowb m k &&& (- lowb m k) = nI (2 ^ bpos m k) := by decide +kernel
theorem lot4 : ∀ x, x < 64 → ∀ p, p < 6 → (x.testBit p = true ∧ ¬ nI x &&& nI (2 ^ p) = 0) ∨ (¬ x.testBit p = true ∧ nI x &&& nI (2 ^ p) = 0) := by decide +kernel
theorem addz : ∀ u, u < 7 → ∀ (h : Int32), (h + nI u = h) ↔ u = 0 := by
  intro u hu h
  constructor
  · intro e
    have : nI u = 0 := by grind
    exact (nI_eq (by omega) (by omega)).mp (this.trans nl0)
  · intro e; subst e; rw [← nl0, Int32.add_zero]
section LT
variable {N n a w : Nat} {r : Nat → Nat} {I : MI}
theorem bit_lt {m p : Nat} (hm : m < 2 ^ n) (h : m.testBit p = true) : p < n := by
  apply Nat.lt_of_not_le
  intro q
  have : m < 2 ^ p := Nat.lt_of_lt_of_le hm (Nat.pow_le_pow_right (by omega) q)
  rw [Nat.testBit_lt_two_pow this] at h
  exact absurd h (by decide)
theorem one_both {z had : Int32} {vA vB vC vD : Int32} {uA uB uC uD uE uF : Int32} (hw : w < 6) (n1 : 1 ≤ n) (n6 : n ≤ 6) (hr : ∀ i, i < n → r i < 2 ^ n) (hc : BC I a n r) {K : MI} (hm : BM K 103 104 w n r) (hz : K 99 47 = z) (hN : 20 ≤ N) : ∃ z' u K', u < 7 ∧ f_X4_drawLots_l35 N a vA vB vC vD uE z had (nI (2 ^ n - 1)) 0 I = some (z', had + nI u) ∧ f_X11_lots_l73 N (nI w) uA uB uC uD uF (nI (2 ^ n - 1)) 0 0 K = some (nI u, K') ∧ K' 99 47 = z' ∧ fr (fun b j => b = 99 ∧ j = 47) K K' := by
  have t6 := two_le n6
  have p1 := Nat.two_pow_pos n
  have iw : inb (nI w) 6 = true := inb_nI hw (by decide)
  have cw : Int32.toNatClampNeg (nI w) = w := nI_clamp (by omega)
  obtain ⟨q, q', e1, e2, u, K', hu, h1, h2, h3, h4⟩ := loop_sync (f := fun s : Int32 × Int32 × Int32 × Int32 => f_X4_drawLots_b35 N a vA vB vC vD uE s.1 s.2.1 s.2.2.1 s.2.2.2 I) (g := fun s : Int32 × Int32 × Int32 × MI => f_X11_lots_b73 N (nI w) uA uB uC uD uF s.1 s.2.1 s.2.2.1 s.2.2.2) (fun i s t => ∃ m u, m < 2 ^ n ∧ bcn 6 m = n - i ∧ u ≤ i ∧ s.2.1 = had + nI u ∧ s.2.2.1 = nI m ∧ s.2.2.2 = nI i ∧ t.1 = nI m ∧ t.2.1 = nI u ∧ t.2.2.1 = nI i ∧ t.2.2.2 99 47 = s.1 ∧ fr (fun b j => b = 99 ∧ j = 47) K t.2.2.2) (fun q q' => ∃ u K', u < 7 ∧ q.2 = had + nI u ∧ q' = (nI u, K') ∧ K' 99 47 = q.1 ∧ fr (fun b j => b = 99 ∧ j = 47) K K') n (by
    rintro i ⟨s1, s2, s3, s4⟩ ⟨t1, t2, t3, K1⟩ hi ⟨m, u, hmm, hb, hu, x1, x2, x3, x4, x5, x6, x7, f1⟩
    simp only at x1 x2 x3 x4 x5 x6 x7 f1
    subst x1; subst x2; subst x3; subst x4; subst x5; subst x6; subst x7
    have hB : BM K1 103 104 w n r := BM_fr f1 (fun _ => by omega) (fun _ => by omega) hm
    have l1 := (nI_ltI (show i < 2 ^ 31 by omega) (show n < 2 ^ 31 by omega)).mpr hi
    generalize hy : K1 99 47 * 1103515245 + 12345 = y
    obtain ⟨b, hbb, eb⟩ := nI_of (and_nn y)
    obtain ⟨k, hk⟩ : ∃ k, k = b / 65536 % (n - i) := ⟨_, rfl⟩
    have hkl : k < n - i := by rw [hk]; exact Nat.mod_lt _ (by omega)
    have ek : jrem ((y &&& 2147483647) / 65536) (nI n - nI i) = nI k := by
      rw [eb, show (65536 : Int32) = nI 65536 by decide +kernel, nI_div hbb (by decide), nI_sub (by omega), nI_rem (Nat.lt_of_le_of_lt (Nat.div_le_self _ _) hbb) (by omega), hk]
    have nz : ¬ (nI n - nI i) = 0 := by rw [nI_sub (by omega), nl0, nI_eq (by omega) (by omega)]; omega
    obtain ⟨p1', p2⟩ := lot1 m (by omega) k (by omega) (by omega)
    have p3 := lot2 m (by omega) k (by omega) (by omega)
    obtain ⟨p4, p5⟩ := lot3 m (by omega) k (by omega) (by omega)
    generalize hp : bpos m k = p at p1' p2 p3 p4 p5
    have hpn : p < n := bit_lt hmm p1'
    obtain ⟨b1, b2, b3⟩ := mb1 m (by omega) p p2 p1'
    have b6 := mb6 m (by omega) p p2 p1'
    have hri := hr i hi
    have c1 : f_X4_bitNumbered N (nI m) (nI k) = some (nI (2 ^ p)) := by
      unfold f_X4_bitNumbered f_X4_bitNumbered_l4
      have : loopN (fun s : Int32 × Int32 => f_X4_bitNumbered_b4 N (nI k) s.1 s.2) N (nI m, 0) = some (lowb m k) := loopN_mono (M := 10) p4 (by omega)
      rw [bnd1_some this, p5]
    have c2 : ∀ v9 : Int32, f_X11_lots_l102 N (nI w) uA uB uC uD uF (nI m) v9 (nI i) (nI k) 0 = some (nI p) := fun v9 => by
      unfold f_X11_lots_l102
      exact loopN_mono (M := 10) p3 (by omega)
    show ∃ s' t', f_X4_drawLots_b35 N a vA vB vC vD uE (K1 99 47) (had + nI u) (nI m) (nI i) I = _ ∧ f_X11_lots_b73 N (nI w) uA uB uC uD uF (nI m) (nI u) (nI i) K1 = _ ∧ _
    have hd : f_X11_draw (nI n - nI i) K1 = some (nI k, upI K1 99 47 y) := by
      unfold f_X11_draw
      simp only [letv]
      rw [if_neg nz, hy, upI_eq, ek]
    unfold f_X4_drawLots_b35 f_X11_lots_b73
    have hB2 : BM (upI K1 99 47 y) 103 104 w n r := ⟨by rw [upI_ne _ _ (by omega)]; exact hB.1, fun i hi => by rw [upI_ne _ _ (by omega)]; exact hB.2 i hi⟩
    rw [hc.1, if_pos l1, if_neg nz, hy, ek, bnd1_some c1, if_pos (inb_nI (by omega) (by decide)), nI_clamp (by omega), hc.2 i hi, if_pos iw, cw, hB.1, if_pos l1, if_pos iw, bnd2_some hd, bnd1_some (c2 _), bnd1_some (hasM hw hB2.2 (fun i hi => by have := hr i hi; omega) n6 hi hpn), offb m (by omega) p p2 p1', nI_xor]
    rcases lot4 (r i) (by omega) p p2 with ⟨z1, z2⟩ | ⟨z1, z2⟩
    · rw [if_neg z2, if_pos z1, if_neg (by decide)]
      exact ⟨_, _, rfl, rfl, m ^^^ 2 ^ p, u + 1, by omega, by omega, by omega, by rw [Int32.add_assoc, nI_1], rfl, nI_1 _, rfl, nI_1 _, nI_1 _, upI_eq K1 99 47 y, f1.trans (fr.up ⟨rfl, rfl⟩)⟩
    · rw [if_pos z2, if_neg z1, if_pos rfl]
      exact ⟨_, _, rfl, rfl, m ^^^ 2 ^ p, u, by omega, by omega, by omega, Int32.add_zero _, rfl, nI_1 _, rfl, Int32.add_zero _, nI_1 _, upI_eq K1 99 47 y, f1.trans (fr.up ⟨rfl, rfl⟩)⟩) (by
    rintro ⟨s1, s2, s3, s4⟩ ⟨t1, t2, t3, K1⟩ ⟨m, u, hmm, hb, hu, x1, x2, x3, x4, x5, x6, x7, f1⟩
    simp only at x1 x2 x3 x4 x5 x6 x7 f1
    subst x1; subst x2; subst x3; subst x4; subst x5; subst x6; subst x7
    have l1 : ¬ nI n < nI n := nI_le0 (by omega) (Nat.le_refl _)
    refine ⟨(K1 99 47, had + nI u), (nI u, K1), ?_, ?_, u, K1, by omega, rfl, rfl, rfl, f1⟩
    · show f_X4_drawLots_b35 N a vA vB vC vD uE (K1 99 47) (had + nI u) (nI m) (nI n) I = _
      unfold f_X4_drawLots_b35
      rw [hc.1, if_neg l1]
    · show f_X11_lots_b73 N (nI w) uA uB uC uD uF (nI m) (nI u) (nI n) K1 = _
      unfold f_X11_lots_b73
      rw [if_pos iw, cw, f1 103 w (by omega), hm.1, if_neg l1]) N 0 (z, had, nI (2 ^ n - 1), 0) (nI (2 ^ n - 1), 0, 0, K) (Nat.zero_le _) (by omega) ⟨2 ^ n - 1, 0, by omega, by rw [full_n n (by omega)]; rfl, by omega, by show had = had + nI 0; rw [← nl0, Int32.add_zero], rfl, nl0, rfl, nl0, nl0, hz, fr.rfl⟩
  obtain ⟨q1, q2⟩ := q
  simp only at h1 h3
  subst h1; subst h2
  exact ⟨q1, u, K', hu, e1, e2, h3, h4⟩
theorem lots_both {z : Int32} {c : Nat} {v4 w4 : Int32} (hw : w < 6) (n1 : 1 ≤ n) (n6 : n ≤ 6) (hr : ∀ i, i < n → r i < 2 ^ n) (hc : BC I a n r) {K : MI} (hm : BM K 103 104 w n r) (hz : K 99 47 = z) (hcc : c ≤ 40) (hN : 1000 ≤ N) : ∃ x y K', f_X4_drawLots_l12 N a (nI c) v4 z 0 0 0 I = some (x, y) ∧ f_X11_lots_l49 N (nI w) (nI c) w4 0 0 0 K = some (x, y, K') ∧ fr (fun b j => b = 99 ∧ j = 47) K K' := by
  have iw : inb (nI w) 6 = true := inb_nI hw (by decide)
  have cw : Int32.toNatClampNeg (nI w) = w := nI_clamp (by omega)
  obtain ⟨q, q', e1, e2, K', h1, h4⟩ := loop_sync (f := fun s : Int32 × Int32 × Int32 × Int32 => f_X4_drawLots_b12 N a (nI c) v4 s.1 s.2.1 s.2.2.1 s.2.2.2 I) (g := fun s : Int32 × Int32 × Int32 × MI => f_X11_lots_b49 N (nI w) (nI c) w4 s.1 s.2.1 s.2.2.1 s.2.2.2) (fun k s t => s.2.1 = t.1 ∧ s.2.2.1 = t.2.1 ∧ s.2.2.2 = nI k ∧ t.2.2.1 = nI k ∧ t.2.2.2 99 47 = s.1 ∧ fr (fun b j => b = 99 ∧ j = 47) K t.2.2.2) (fun q q' => ∃ K', q' = (q.1, q.2, K') ∧ fr (fun b j => b = 99 ∧ j = 47) K K') c (by
    rintro k ⟨s1, s2, s3, s4⟩ ⟨t1, t2, t3, K1⟩ hk ⟨x1, x2, x3, x4, x5, f1⟩
    simp only at x1 x2 x3 x4 x5 f1
    subst x1; subst x2; subst x3; subst x4; subst x5
    have hB : BM K1 103 104 w n r := BM_fr f1 (fun _ => by omega) (fun _ => by omega) hm
    have l1 := (nI_ltI (show k < 2 ^ 31 by omega) (show c < 2 ^ 31 by omega)).mpr hk
    obtain ⟨z', u, K2, hu, g1, g2, g3, g4⟩ := one_both (N := N) (z := K1 99 47) (had := s3) (vA := nI c) (vB := v4) (vC := s2) (vD := nI k) (uE := s3) (uA := nI c) (uB := w4) (uC := s2) (uD := s3) (uF := nI k) hw n1 n6 hr hc hB rfl (by omega)
    show ∃ s' t', f_X4_drawLots_b12 N a (nI c) v4 (K1 99 47) s2 s3 (nI k) I = _ ∧ f_X11_lots_b49 N (nI w) (nI c) w4 s2 s3 (nI k) K1 = _ ∧ _
    unfold f_X4_drawLots_b12 f_X11_lots_b49
    rw [if_pos l1, if_pos l1, if_pos iw, cw, hB.1, hc.1, fullm n (by omega), bnd2_some g1]
    simp only [letv]
    rw [bnd2_some g2]
    by_cases q : u = 0
    · rw [if_pos ((addz u hu s3).mpr q), if_pos (by rw [q]; rfl)]
      exact ⟨_, _, rfl, rfl, rfl, rfl, nI_1 _, nI_1 _, g3, f1.trans g4⟩
    · rw [if_neg (fun h => q ((addz u hu s3).mp h)), if_neg (fun h => q ((nI_eq (by omega) (by omega)).mp (h.trans nl0)))]
      exact ⟨_, _, rfl, rfl, rfl, rfl, nI_1 _, nI_1 _, g3, f1.trans g4⟩) (by
    rintro ⟨s1, s2, s3, s4⟩ ⟨t1, t2, t3, K1⟩ ⟨x1, x2, x3, x4, x5, f1⟩
    simp only at x1 x2 x3 x4 x5 f1
    subst x1; subst x2; subst x3; subst x4; subst x5
    have l1 : ¬ nI c < nI c := nI_le0 (by omega) (Nat.le_refl _)
    refine ⟨(s2, s3), (s2, s3, K1), ?_, ?_, K1, rfl, f1⟩
    · show f_X4_drawLots_b12 N a (nI c) v4 (K1 99 47) s2 s3 (nI c) I = _
      unfold f_X4_drawLots_b12
      rw [if_neg l1]
    · show f_X11_lots_b49 N (nI w) (nI c) w4 s2 s3 (nI c) K1 = _
      unfold f_X11_lots_b49
      rw [if_neg l1]) N 0 (z, 0, 0, 0) (0, 0, 0, K) (Nat.zero_le _) (by omega) ⟨rfl, rfl, nl0, nl0, hz, fr.rfl⟩
  obtain ⟨x, y⟩ := q
  subst h1
  exact ⟨x, y, K', e1, e2, h4⟩
end LT
section SLT
variable {PL : MX → MI → ML → Prop} {PA : MI → Prop} {N : Nat}
theorem s_lots (hPL : frPL PL) (hPA : frPA PA) (hN : 1000 ≤ N) : S_lots N (Inv0 PL PA) := by
  intro X I L x1 x2 x3 x4 hI
  rcases (six_cases x1).symm with ⟨e1, e2⟩ | ⟨w, hw, rfl, e1, e2⟩
  · refine ⟨-1, I, ?_, ?_, hI⟩
    · unfold f_X10_lots; rw [bnd1_some e1, if_pos rfl]
    · unfold f_X11_lots; rw [bnd1_some e2, if_pos rfl]
  have iw : inb (nI w) 6 = true := inb_nI hw (by decide)
  have cw : Int32.toNatClampNeg (nI w) = w := nI_clamp (by omega)
  rcases rng_cases x4 1 (by decide) (hi := 1) (by decide) with ⟨x, hx, rfl, e3⟩ | ⟨h1, e3⟩
  · have n0 : ¬ nI x < 0 := nI_pos (by omega)
    have n1 : ¬ (1 : Int32) < nI x := by rw [nl1]; exact nI_le0 (by omega) hx
    by_cases q : 1 ≤ x2.toInt ∧ x2.toInt ≤ 40
    · have e4 : f_X11_in (Int32.toInt64 x2) 1 40 = some 1 := by rw [in_of (a := 1) (b := 40) (by decide) (by decide), if_pos q]
      have nn : ¬ x2 < 0 := by rw [Int32.lt_iff_toInt_lt]; show ¬ x2.toInt < 0; omega
      obtain ⟨c, hc31, rfl⟩ := nI_of nn
      rw [nI_toInt hc31] at q
      obtain ⟨n, r, m1, m6', hr, hc, hm⟩ := hI.b hw
      obtain ⟨y, v, K, g1, g2, g3⟩ := lots_both (N := N) (a := 12 + 4 * w) (I := I) (z := x3) (c := c) (v4 := if nI x = 0 then 1 else 0) (w4 := nI x) (K := upI I 99 47 x3) hw m1 m6' hr hc ⟨by rw [upI_ne _ _ (by omega)]; exact hm.1, fun i hi => by rw [upI_ne _ _ (by omega)]; exact hm.2 i hi⟩ (upI_eq _ _ _ _) (by omega) hN
      refine ⟨if nI x = 0 then y else v, K, ?_, ?_, inv_scr hPL hPA hI ((fr.up (S := scr) (by unfold scr; omega)).trans (g3.mono (fun b j h => by unfold scr; omega))) frL.rfl⟩
      · unfold f_X10_lots f_X4_drawLots
        rw [bnd1_some e1, if_neg (by decide), if_neg n0, if_neg n1, if_neg (by rw [nl1]; exact nI_le0 (by omega) (by omega)), if_neg (by rw [nl40]; exact nI_le0 (by omega) (by omega)), if_pos iw, cw]
        by_cases z : nI x = 0
        · rw [if_pos z] at g1
          rw [if_pos z, if_pos z, bnd2_some g1, if_neg (by decide), bnd1_some rfl]
        · rw [if_neg z] at g1
          rw [if_neg z, if_neg z, bnd2_some g1, if_pos rfl, bnd1_some rfl]
      · unfold f_X11_lots
        rw [bnd1_some e2, if_neg (by decide), bnd1_some e3, if_neg (by decide), bnd1_some e4, if_neg (by decide)]
        simp only [letv]
        rw [bnd3_some g2]
        by_cases z : nI x = 0
        · rw [if_pos z, if_pos z]
        · rw [if_neg z, if_neg z]
    · have e4 : f_X11_in (Int32.toInt64 x2) 1 40 = some 0 := by rw [in_of (a := 1) (b := 40) (by decide) (by decide), if_neg q]
      refine ⟨-2, I, ?_, ?_, hI⟩
      · unfold f_X10_lots
        rw [bnd1_some e1, if_neg (by decide), if_neg n0, if_neg n1]
        have a1 : x2 < 1 ↔ x2.toInt < 1 := by rw [Int32.lt_iff_toInt_lt]; rfl
        have a2 : (40 : Int32) < x2 ↔ 40 < x2.toInt := by rw [Int32.lt_iff_toInt_lt]; rfl
        by_cases z : x2 < 1
        · rw [if_pos z]
        · rw [if_neg z, if_pos (by rw [a2]; rw [a1] at z; omega)]
      · unfold f_X11_lots
        rw [bnd1_some e2, if_neg (by decide), bnd1_some e3, if_neg (by decide), bnd1_some e4, if_pos rfl]
  · refine ⟨-1, I, ?_, ?_, hI⟩
    · unfold f_X10_lots
      rw [bnd1_some e1, if_neg (by decide)]
      by_cases q : x4 < 0
      · rw [if_pos q]
      · rw [if_neg q, nl1, if_pos (h1.resolve_left q)]
    · unfold f_X11_lots; rw [bnd1_some e2, if_neg (by decide), bnd1_some e3, if_pos rfl]
end SLT
