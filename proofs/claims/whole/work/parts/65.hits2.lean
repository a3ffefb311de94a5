/-! ===== HITS on both sides ===== -/
def cb : Nat → Nat → Nat
  | _, 0 => 1
  | 0, _ + 1 => 0
  | m + 1, k + 1 => cb m k + cb m (k + 1)
theorem cb1 : ∀ k, k < 7 → ∀ m, m < 7 → k ≤ m → (nI (cb m k) * (nI m + 1)) / ((nI m + 1) - nI k) = nI (cb (m + 1) k) ∧ ¬ ((nI m + 1) - nI k) = 0 := by decide +kernel
theorem cb2 : ∀ k, k < 7 → ∀ m, m < 7 → k ≤ m → bp m k = (if (m - k) % 2 = 0 then nI (cb m k) else - nI (cb m k)) := by decide +kernel
theorem cb3 : ∀ k, k < 7 → ∀ m, m < 7 → m < k → bp m k = 0 := by decide +kernel
theorem cb4 : ∀ k, k < 7 → cb k k = 1 := by decide +kernel
theorem tab0 : ∀ i, i < 7 → tabI 0 i = nI (fct i) := by decide +kernel
theorem bcn_n : ∀ n, n < 7 → ∀ T, T < 2 ^ n → bcn 6 T ≤ n := by decide +kernel
theorem full_n : ∀ n, n < 7 → bcn 6 (2 ^ n - 1) = n := by decide +kernel
theorem full_and : ∀ n, n < 7 → ∀ T, T < 2 ^ n → T &&& (2 ^ n - 1) = T := by decide +kernel
theorem ct_sum {w g : Nat → Int32} {q : Nat} : ∀ {M : Nat}, (∀ T, T < M → bcn 6 T < q) → sm (fun m => ct w M m * g m) q = sm (fun T => w T * g (bcn 6 T)) M
  | 0, _ => sm_zero (fun c hc => by show 0 * g c = 0; grind)
  | M + 1, h => by
    rw [sm, ← ct_sum (fun T hT => h T (by omega))]
    have e : sm (fun m => ct w (M + 1) m * g m) q = sm (fun m => ct w M m * g m + (if m = bcn 6 M then w M * g m else 0)) q := sm_congr (fun m hm => by
      show (ct w M m + (if bcn 6 M = m then w M else 0)) * g m = _
      by_cases z : bcn 6 M = m
      · rw [if_pos z, if_pos z.symm]; grind
      · rw [if_neg z, if_neg (fun y => z y.symm)]; grind)
    rw [e, sm_add]
    congr 1
    have := sm_one (f := fun _ => 0) (g := fun m => if m = bcn 6 M then w M * g m else 0) (j := bcn 6 M) (v := w M * g (bcn 6 M)) (h M (by omega)) (fun c _ hc => by show (if c = bcn 6 M then _ else _) = _; rw [if_neg hc]) rfl (by show (if bcn 6 M = bcn 6 M then _ else _) = _; rw [if_pos rfl])
    rw [this, sm_zero (fun _ _ => rfl), Int32.zero_add]
section HT
variable {r : Nat → Nat} {N n a : Nat}
def hit (r : Nat → Nat) (n k : Nat) : Nat := Hk r n n (2 ^ n - 1) k
theorem hit_val (n6 : n ≤ 6) (k : Nat) : nI (hit r n k) = sm (fun m => ct (Wy r n n) (2 ^ n) m * (nI (fct (n - m)) * bp m k)) (n + 1) := by
  have p1 := Nat.two_pow_pos n
  rw [ct_sum (g := fun m => nI (fct (n - m)) * bp m k) (fun T hT => by have := bcn_n n (by omega) T hT; omega)]
  unfold hit
  rw [hits_id n6 (i := n) (by omega) (full_n n (by omega))]
  refine sm_congr (fun T hT => ?_)
  rw [if_pos (full_and n (by omega) T hT), Int32.mul_assoc]
theorem hitsC {J : MI} {k : Nat} (n6 : n ≤ 6) (hk : k < 7) (h0 : J a 0 = nI n) (h1 : ∀ m, m < 7 → J 93 m = ct (Wy r n n) (2 ^ n) m) (hN : 20 ≤ N) : f_X4_hitsOf_l14 N a (nI k) 0 1 (nI k) J = some (nI (hit r n k)) := by
  by_cases q : n < k
  · have e : nI (hit r n k) = 0 := by
      rw [hit_val n6]
      refine sm_zero (fun m hm => ?_)
      rw [cb3 k hk m (by omega) (by omega)]; grind
    rw [e]
    unfold f_X4_hitsOf_l14
    obtain ⟨N', rfl⟩ : ∃ N', N = N' + 1 := ⟨N - 1, by omega⟩
    refine loopN_inr ?_
    show f_X4_hitsOf_b14 (N' + 1) a (nI k) 0 1 (nI k) J = _
    unfold f_X4_hitsOf_b14
    rw [h0, if_pos ((nI_ltI (by omega) (by omega)).mpr q)]
  · rw [hit_val n6]
    have key := loop_inv (f := fun s : Int32 × Int32 × Int32 => f_X4_hitsOf_b14 N a (nI k) s.1 s.2.1 s.2.2 J) (fun i st => st.1 = sm (fun m => ct (Wy r n n) (2 ^ n) m * (nI (fct (n - m)) * bp m k)) (k + i) ∧ st.2.1 = nI (cb (k + i) k) ∧ st.2.2 = nI (k + i)) (fun x => x = sm (fun m => ct (Wy r n n) (2 ^ n) m * (nI (fct (n - m)) * bp m k)) (n + 1)) (n + 1 - k) ?_ ?_ N 0 (0, 1, nI k) (Nat.zero_le _) (by omega) ⟨(sm_zero (fun m hm => by rw [cb3 k hk m (by omega) (by omega)]; grind)).symm, by show (1 : Int32) = nI (cb (k + 0) k); rw [Nat.add_zero, cb4 k hk]; rfl, rfl⟩
    · obtain ⟨x, e, rfl⟩ := key
      exact e
    · rintro i ⟨x, y, z⟩ hi ⟨e1, e2, e3⟩
      simp only at e1 e2 e3
      subst e1; subst e2; subst e3
      show ∃ s', f_X4_hitsOf_b14 N a (nI k) _ (nI (cb (k + i) k)) (nI (k + i)) J = _ ∧ _
      obtain ⟨c1, c2⟩ := cb1 k hk (k + i) (by omega) (by omega)
      unfold f_X4_hitsOf_b14 f_X4_hitsOf_b14_j65
      rw [h0, if_neg (nI_le0 (by omega) (by omega)), if_pos (inb_nI (by omega) (by decide)), nI_sub (show k + i ≤ n by omega), if_pos (inb_nI (by omega) (by decide)), nI_clamp (by omega), nI_clamp (by omega), h1 _ (by omega), tab0 _ (by omega), nI_sub (show k ≤ k + i by omega), nl2, nI_rem (by omega) (by omega), c1]
      simp only [letv]
      rw [if_neg c2, if_neg c2]
      have b2 := cb2 k hk (k + i) (by omega) (by omega)
      by_cases w : (k + i - k) % 2 = 0
      · rw [if_pos w] at b2
        rw [w, if_pos nl0.symm]
        refine ⟨_, rfl, ?_, rfl, nI_1 _⟩
        show _ = sm (fun m => ct (Wy r n n) (2 ^ n) m * (nI (fct (n - m)) * bp m k)) (k + i + 1)
        rw [sm, b2]; grind
      · rw [if_neg w] at b2
        rw [if_neg (by rw [nl0, nI_eq (by omega) (by omega)]; exact w)]
        refine ⟨_, rfl, ?_, rfl, nI_1 _⟩
        show _ = sm (fun m => ct (Wy r n n) (2 ^ n) m * (nI (fct (n - m)) * bp m k)) (k + i + 1)
        rw [sm, b2]; grind
    · rintro ⟨x, y, z⟩ ⟨e1, e2, e3⟩
      simp only at e1 e2 e3
      subst e1; subst e2; subst e3
      refine ⟨sm (fun m => ct (Wy r n n) (2 ^ n) m * (nI (fct (n - m)) * bp m k)) (k + (n + 1 - k)), ?_, by rw [show k + (n + 1 - k) = n + 1 by omega]⟩
      show f_X4_hitsOf_b14 N a (nI k) _ (nI (cb (k + (n + 1 - k)) k)) (nI (k + (n + 1 - k))) J = _
      unfold f_X4_hitsOf_b14
      rw [h0, if_pos ((nI_ltI (by omega) (by omega)).mpr (by omega))]
end HT
theorem nl448 : (448 : Int32) = nI 448 := by decide +kernel
theorem m7 {a b : Nat} : 7 * nI a + nI b = nI (7 * a + b) := by rw [nl7, nI_mul, nI_add]
section HM
variable {r : Nat → Nat} {N n w : Nat}
theorem l96M {I : MI} {S U h : Nat} {v1 v2 v4 : Int32} {j : Nat} (hS : S < 64) (hU : U < S) (hh : h ≤ 1) (hj : j < 6) (he : (nI S &&& (jshl 1 (nI j) ^^^ (-1))) = nI U) (hN : 20 ≤ N) : ∃ J, f_X11_layHits_l96 N v1 v2 (nI S) v4 (nI j) (nI h) (nI h) I = some J ∧ (∀ t, t < 7 → J 131 (7 * S + t) = I 131 (7 * S + t) + (if t < h then 0 else I 131 (7 * U + (t - h)))) ∧ fr (fun b j => b = 131 ∧ 7 * S ≤ j ∧ j < 7 * S + 7) I J := by
  have key := loop_inv (f := fun s : Int32 × MI => f_X11_layHits_b96 N v1 v2 (nI S) v4 (nI j) (nI h) s.1 s.2) (fun i st => st.1 = nI (h + i) ∧ (∀ t, t < 7 → st.2 131 (7 * S + t) = I 131 (7 * S + t) + (if t < h ∨ h + i ≤ t then 0 else I 131 (7 * U + (t - h)))) ∧ fr (fun b j => b = 131 ∧ 7 * S ≤ j ∧ j < 7 * S + 7) I st.2) (fun J => (∀ t, t < 7 → J 131 (7 * S + t) = I 131 (7 * S + t) + (if t < h then 0 else I 131 (7 * U + (t - h)))) ∧ fr (fun b j => b = 131 ∧ 7 * S ≤ j ∧ j < 7 * S + 7) I J) (7 - h) ?_ ?_ N 0 (nI h, I) (Nat.zero_le _) (by omega) ⟨rfl, fun t ht => by show I 131 _ = _; rw [if_pos (by omega), Int32.add_zero], fr.rfl⟩
  · exact key
  · rintro i ⟨c, J⟩ hi ⟨e1, w1, f1⟩
    simp only at e1 w1 f1
    subst e1
    have wi := w1 (h + i) (by omega)
    rw [if_pos (by omega), Int32.add_zero] at wi
    refine ⟨(nI (h + (i + 1)), upI J 131 (7 * S + (h + i)) (I 131 (7 * S + (h + i)) + I 131 (7 * U + i))), ?_, rfl, fun t ht => ?_, f1.trans (fr.up ⟨rfl, by omega, by omega⟩)⟩
    · show f_X11_layHits_b96 N v1 v2 (nI S) v4 (nI j) (nI h) (nI (h + i)) J = _
      unfold f_X11_layHits_b96
      rw [he, m7, m7, nI_sub (show h ≤ 7 * U + (h + i) by omega), show 7 * U + (h + i) - h = 7 * U + i by omega, if_pos (by rw [nl7]; exact (nI_ltI (by omega) (by omega)).mpr (by omega)), if_pos (inb_nI (by omega) (by decide)), if_pos (inb_nI (by omega) (by decide)), if_pos (inb_nI (by omega) (by decide)), nI_clamp (by omega), nI_clamp (by omega), wi, f1 131 (7 * U + i) (by omega), nI_1]
      rfl
    · show upI J 131 (7 * S + (h + i)) _ 131 (7 * S + t) = _
      rw [upI_at]
      by_cases z : t = h + i
      · rw [if_pos (by omega), if_neg (by omega), z, show h + i - h = i by omega]
      · rw [if_neg (by omega), w1 t ht]
        have : (t < h ∨ h + i ≤ t) ↔ (t < h ∨ h + (i + 1) ≤ t) := by omega
        simp only [this]
  · rintro ⟨c, J⟩ ⟨e1, w1, f1⟩
    simp only at e1 w1 f1
    subst e1
    refine ⟨J, ?_, fun t ht => ?_, f1⟩
    · show f_X11_layHits_b96 N v1 v2 (nI S) v4 (nI j) (nI h) (nI (h + (7 - h))) J = _
      unfold f_X11_layHits_b96
      rw [nl7, if_neg (nI_le0 (by omega) (by omega))]
    · rw [w1 t ht]
      have : (t < h ∨ h + (7 - h) ≤ t) ↔ t < h := by omega
      simp only [this]
theorem l57M {I : MI} {S i : Nat} (hw : w < 6) (n6 : n ≤ 6) (hi : i < n) (hS : S < 2 ^ n) (hb : bcn 6 S = i + 1) (hr : ∀ i, i < n → r i < 2 ^ n) (hc : BM I 103 104 w n r) (h0 : ∀ U, U < S → ∀ t, t < 7 → I 131 (7 * U + t) = nI (Hk r n (bcn 6 U) U t)) (hz : ∀ t, t < 7 → I 131 (7 * S + t) = 0) (hN : 20 ≤ N) : ∃ J, f_X11_layHits_l57 N (nI w) (nI n) (nI S) (nI i) 0 I = some J ∧ (∀ t, t < 7 → J 131 (7 * S + t) = nI (Hk r n (i + 1) S t)) ∧ fr (fun b j => b = 131 ∧ 7 * S ≤ j ∧ j < 7 * S + 7) I J := by
  have t6 := two_le n6
  refine loop_inv (f := fun s : Int32 × MI => f_X11_layHits_b57 N (nI w) (nI n) (nI S) (nI i) s.1 s.2) (fun j st => st.1 = nI j ∧ (∀ t, t < 7 → st.2 131 (7 * S + t) = nI (sn (fun j => if S.testBit j = true then (if (r i).testBit j = true then (if t = 0 then 0 else Hk r n i (S ^^^ 2 ^ j) (t - 1)) else Hk r n i (S ^^^ 2 ^ j) t) else 0) j)) ∧ fr (fun b j => b = 131 ∧ 7 * S ≤ j ∧ j < 7 * S + 7) I st.2) _ n ?_ ?_ N 0 (0, I) (Nat.zero_le _) (by omega) ⟨nl0, fun t ht => (hz t ht).trans nl0, fr.rfl⟩
  · rintro j ⟨c, J⟩ hj ⟨e1, w1, f1⟩
    simp only at e1 w1 f1
    subst e1
    show ∃ s', f_X11_layHits_b57 N (nI w) (nI n) (nI S) (nI i) (nI j) J = _ ∧ _
    have hB : BM J 103 104 w n r := BM_fr f1 (fun _ => by omega) (fun _ => by omega) hc
    unfold f_X11_layHits_b57
    rw [if_pos ((nI_ltI (by omega) (by omega)).mpr hj), hasT S (by omega) j (by omega), bnd1_some (hasM hw hB.2 (fun i hi => by have := hr i hi; omega) n6 hi hj)]
    by_cases q : S.testBit j = true
    · have hl := (mb1 S (by omega) j (by omega) q).1
      have hb' : bcn 6 (S ^^^ 2 ^ j) = i := by have := mb6 S (by omega) j (by omega) q; omega
      have hx : ∀ t, t < 7 → J 131 (7 * (S ^^^ 2 ^ j) + t) = nI (Hk r n i (S ^^^ 2 ^ j) t) := fun t ht => by
        rw [f1 _ _ (by omega), h0 _ hl t ht, hb']
      rw [if_pos q, if_pos rfl]
      by_cases z : (r i).testBit j = true
      · obtain ⟨J1, k1, k2, k3⟩ := l96M (N := N) (I := J) (S := S) (U := S ^^^ 2 ^ j) (h := 1) (v1 := nI w) (v2 := nI n) (v4 := nI i) (j := j) (by omega) hl (by omega) (by omega) (offb S (by omega) j (by omega) q) hN
        rw [if_pos z, if_neg (by decide), nl1, bnd1_some k1, ← nl1]
        refine ⟨_, rfl, nI_1 _, fun t ht => ?_, f1.trans k3⟩
        show J1 131 (7 * S + t) = _
        rw [k2 t ht, w1 t ht, sn, if_pos q, if_pos z, ← nI_add]
        congr 1
        by_cases y : t = 0
        · rw [if_pos (by omega), if_pos y]; exact nl0
        · rw [if_neg (by omega), if_neg y, hx _ (by omega)]
      · obtain ⟨J1, k1, k2, k3⟩ := l96M (N := N) (I := J) (S := S) (U := S ^^^ 2 ^ j) (h := 0) (v1 := nI w) (v2 := nI n) (v4 := nI i) (j := j) (by omega) hl (by omega) (by omega) (offb S (by omega) j (by omega) q) hN
        rw [← nl0] at k1
        rw [if_neg z, if_pos rfl, bnd1_some k1]
        refine ⟨_, rfl, nI_1 _, fun t ht => ?_, f1.trans k3⟩
        show J1 131 (7 * S + t) = _
        rw [k2 t ht, w1 t ht, sn, if_pos q, if_neg z, ← nI_add, if_neg (by omega), Nat.sub_zero, hx t ht]
    · rw [if_neg q, if_neg (by decide)]
      refine ⟨_, rfl, nI_1 _, fun t ht => ?_, f1⟩
      show J 131 (7 * S + t) = _
      rw [sn, if_neg q, Nat.add_zero]; exact w1 t ht
  · rintro ⟨c, J⟩ ⟨e1, w1, f1⟩
    simp only at e1 w1 f1
    subst e1
    refine ⟨J, ?_, w1, f1⟩
    show f_X11_layHits_b57 N (nI w) (nI n) (nI S) (nI i) (nI n) J = _
    unfold f_X11_layHits_b57
    rw [if_neg (nI_le0 (by omega) (Nat.le_refl _))]
theorem bcn_pos : ∀ S, S < 64 → 0 < S → 1 ≤ bcn 6 S := by decide +kernel
theorem hitsM {I : MI} (hw : w < 6) (n1 : 1 ≤ n) (n6 : n ≤ 6) (hr : ∀ i, i < n → r i < 2 ^ n) (hc : BM I 103 104 w n r) (hN : 1000 ≤ N) : ∃ J, f_X11_layHits N (nI w) I = some J ∧ (∀ k, k < 7 → f_X11_hitsOf (nI w) (nI k) J = some (nI (hit r n k))) ∧ fr (fun b j => b = 131) I J := by
  have t6 := two_le n6
  have p1 := Nat.two_pow_pos n
  have iw : inb (nI w) 6 = true := inb_nI hw (by decide)
  have cw : Int32.toNatClampNeg (nI w) = w := nI_clamp (by omega)
  obtain ⟨I1, a0, a1, a2⟩ : ∃ J, f_X11_layHits_l9 N (nI w) (nI n) 0 I = some J ∧ (∀ S, S < 448 → J 131 S = if S = 0 then 1 else 0) ∧ fr (fun b j => b = 131) I J := by
    refine loop_inv (f := fun s : Int32 × MI => f_X11_layHits_b9 N (nI w) (nI n) s.1 s.2) (fun k st => st.1 = nI k ∧ (∀ S, S < k → st.2 131 S = if S = 0 then 1 else 0) ∧ fr (fun b j => b = 131) I st.2) _ 448 ?_ ?_ N 0 (0, I) (Nat.zero_le _) (by omega) ⟨nl0, fun S hS => absurd hS (by omega), fr.rfl⟩
    · rintro k ⟨c, J⟩ hk ⟨e1, w1, f1⟩
      simp only at e1 w1 f1
      subst e1
      refine ⟨(nI (k + 1), upI J 131 k (if k = 0 then 1 else 0)), ?_, rfl, fun S hS => ?_, f1.trans (fr.up rfl)⟩
      · show f_X11_layHits_b9 N (nI w) (nI n) (nI k) J = _
        unfold f_X11_layHits_b9
        rw [nl448, if_pos ((nI_ltI (by omega) (by omega)).mpr hk), if_pos (inb_nI (by omega) (by decide)), if_pos (inb_nI (by omega) (by decide)), nI_clamp (by omega), nI_1]
        by_cases z : k = 0
        · rw [if_pos (by rw [z]; rfl), if_pos z]; rfl
        · rw [if_neg (by rw [nl0, nI_eq (by omega) (by omega)]; exact z), if_neg z]; rfl
      · show upI J 131 k _ 131 S = _
        rw [upI_at]
        by_cases z : S = k
        · rw [if_pos z, z]
        · rw [if_neg z]; exact w1 S (by omega)
    · rintro ⟨c, J⟩ ⟨e1, w1, f1⟩
      simp only at e1 w1 f1
      subst e1
      refine ⟨J, ?_, w1, f1⟩
      show f_X11_layHits_b9 N (nI w) (nI n) (nI 448) J = _
      unfold f_X11_layHits_b9
      rw [if_neg (by decide)]
  obtain ⟨I2, b1, b2, b3⟩ : ∃ J, f_X11_layHits_l39 N (nI w) (nI n) 1 I1 = some J ∧ (∀ U, U < 2 ^ n → ∀ t, t < 7 → J 131 (7 * U + t) = nI (Hk r n (bcn 6 U) U t)) ∧ fr (fun b j => b = 131) I J := by
    have key := loop_inv (f := fun s : Int32 × MI => f_X11_layHits_b39 N (nI w) (nI n) s.1 s.2) (fun k st => st.1 = nI (k + 1) ∧ (∀ U, U < k + 1 → ∀ t, t < 7 → st.2 131 (7 * U + t) = nI (Hk r n (bcn 6 U) U t)) ∧ (∀ x, 7 * (k + 1) ≤ x → x < 448 → st.2 131 x = 0) ∧ fr (fun b j => b = 131) I st.2) (fun J => (∀ U, U < 2 ^ n → ∀ t, t < 7 → J 131 (7 * U + t) = nI (Hk r n (bcn 6 U) U t)) ∧ fr (fun b j => b = 131) I J) (2 ^ n - 1) ?_ ?_ N 0 (1, I1) (Nat.zero_le _) (by omega) ⟨nl1, fun U hU t ht => ?_, fun x hx hx' => ?_, a2⟩
    · exact key
    · rintro k ⟨c, J⟩ hk ⟨e1, w1, w2, f1⟩
      simp only at e1 w1 w2 f1
      subst e1
      have bl := bcn_n n (by omega) (k + 1) (by omega)
      have bp1 := bcn_pos (k + 1) (by omega) (by omega)
      obtain ⟨i, hi⟩ : ∃ i, bcn 6 (k + 1) = i + 1 := ⟨bcn 6 (k + 1) - 1, by omega⟩
      obtain ⟨J1, g1, g2, g3⟩ := l57M (N := N) (I := J) (S := k + 1) (i := i) hw n6 (by omega) (by omega) hi hr (BM_fr f1 (fun _ => by omega) (fun _ => by omega) hc) w1 (fun t ht => w2 _ (by omega) (by omega)) (by omega)
      refine ⟨(nI (k + 1 + 1), J1), ?_, rfl, fun U hU t ht => ?_, fun x hx hx' => ?_, f1.trans (g3.mono (fun b j h => h.1))⟩
      · show f_X11_layHits_b39 N (nI w) (nI n) (nI (k + 1)) J = _
        unfold f_X11_layHits_b39
        rw [shl1 n (by omega), if_pos ((nI_ltI (by omega) (by omega)).mpr (by omega)), bnd1_some (ones_spec (show k + 1 < 64 by omega) (by omega)), hi, dn2 (by omega), Nat.add_sub_cancel, bnd1_some g1, nI_1]
      · show J1 131 (7 * U + t) = _
        by_cases z : U = k + 1
        · rw [z, g2 t ht, hi]
        · rw [g3 _ _ (by omega)]; exact w1 U (by omega) t ht
      · show J1 131 x = 0
        rw [g3 _ _ (by omega)]; exact w2 x (by omega) hx'
    · rintro ⟨c, J⟩ ⟨e1, w1, w2, f1⟩
      simp only at e1 w1 w2 f1
      subst e1
      refine ⟨J, ?_, fun U hU => w1 U (by omega), f1⟩
      show f_X11_layHits_b39 N (nI w) (nI n) (nI (2 ^ n - 1 + 1)) J = _
      unfold f_X11_layHits_b39
      rw [shl1 n (by omega), if_neg (nI_le0 (by omega) (by omega))]
    · show I1 131 (7 * U + t) = _
      have : U = 0 := by omega
      subst this
      rw [a1 _ (by omega), show bcn 6 0 = 0 by decide, Hk]
      by_cases z : t = 0
      · rw [if_pos (by omega), if_pos z]; rfl
      · rw [if_neg (by omega), if_neg z]; rfl
    · show I1 131 x = 0
      rw [a1 x hx', if_neg (by omega)]
  refine ⟨I2, ?_, fun k hk => ?_, b3⟩
  · unfold f_X11_layHits
    rw [if_pos iw, cw, hc.1, bnd1_some a0, bnd1_some b1]
  · unfold f_X11_hitsOf
    rw [if_pos (by rw [nl7]; exact (nI_ltI (by omega) (by omega)).mpr hk), if_pos iw, cw, b3 _ _ (by omega), hc.1, fullm n (by omega), m7, if_pos (inb_nI (by omega) (by decide)), nI_clamp (by omega), b2 _ (by omega) k hk, full_n n (by omega)]
    rfl
end HM
section SHT
variable {PL : MX → MI → ML → Prop} {PA : MI → Prop} {N : Nat}
theorem hits_both {X : MX} {I : MI} {L : ML} (hI : Inv0 PL PA X I L) {w : Nat} (hw : w < 6) (hN : 1000 ≤ N) : ∃ (n : Nat) (r : Nat → Nat) (J K : MI), 1 ≤ n ∧ n ≤ 6 ∧ (∀ i, i < n → r i < 2 ^ n) ∧ BC I (12 + 4 * w) n r ∧ BM I 103 104 w n r ∧ (∀ k, k < 7 → f_X4_hitsOf N (12 + 4 * w) (nI k) I = some (nI (hit r n k), J)) ∧ f_X11_layHits N (nI w) J = some K ∧ (∀ k, k < 7 → f_X11_hitsOf (nI w) (nI k) K = some (nI (hit r n k))) ∧ fr (fun b j => b = 92 ∨ b = 93) I J ∧ fr (fun b j => b = 131) J K := by
  obtain ⟨n, r, n1, n6, hr, hc, hm⟩ := hI.b hw
  obtain ⟨J, a1, _, a3, a4⟩ := cntC (N := N) (a := 12 + 4 * w) (by omega) n6 hr hc hN
  obtain ⟨K, b1, b2, b3⟩ := hitsM (N := N) hw n1 n6 hr (BM_fr a4 (fun _ => by omega) (fun _ => by omega) hm) hN
  refine ⟨n, r, J, K, n1, n6, hr, hc, hm, fun k hk => ?_, b1, b2, a4, b3⟩
  unfold f_X4_hitsOf
  rw [bnd1_some a1, bnd1_some (hitsC n6 hk (by rw [a4 _ _ (by omega)]; exact hc.1) a3 (by omega))]
theorem s_hits (hPL : frPL PL) (hPA : frPA PA) (hN : 1000 ≤ N) : S_hits N (Inv0 PL PA) := by
  intro X I L x1 x2 hI
  rcases (six_cases x1).symm with ⟨e1, e2⟩ | ⟨w, hw, rfl, e1, e2⟩
  · refine ⟨-1, I, I, ?_, ?_, hI⟩
    · unfold f_X10_hits; rw [bnd1_some e1, if_pos rfl]
    · unfold f_X11_hits; rw [bnd1_some e2, if_pos rfl]
  have iw : inb (nI w) 6 = true := inb_nI hw (by decide)
  have cw : Int32.toNatClampNeg (nI w) = w := nI_clamp (by omega)
  by_cases h0 : x2 < 0
  · refine ⟨-1, I, I, ?_, ?_, hI⟩
    · unfold f_X10_hits; rw [bnd1_some e1, if_neg (by decide), if_pos h0]
    · unfold f_X11_hits; rw [bnd1_some e2, if_neg (by decide), if_pos h0]
  obtain ⟨k, hk, rfl⟩ := nI_of h0
  by_cases q : k < 7
  · obtain ⟨n, r, J, K, n1, n6, hr, hc, hm, a1, b1, b2, a4, b4⟩ := hits_both (N := N) hI hw hN
    refine ⟨nI (hit r n k), J, K, ?_, ?_, inv_scr hPL hPA hI ((a4.mono (S' := scr) (fun b j h => by unfold scr; omega)).trans (b4.mono (fun b j h => by unfold scr; omega))) frL.rfl⟩
    · unfold f_X10_hits
      rw [bnd1_some e1, if_neg (by decide), if_neg h0, if_neg (by rw [nl6]; exact nI_le0 (by omega) (by omega)), if_pos iw, cw, bnd2_some (a1 k q)]
    · unfold f_X11_hits
      rw [bnd1_some e2, if_neg (by decide), if_neg h0, bnd1_some b1, bnd1_some (b2 k q)]
  · obtain ⟨n, r, n1, n6, hr, hc, hm⟩ := hI.b hw
    obtain ⟨K', c1, _, c4⟩ := hitsM (N := N) hw n1 n6 hr hm hN
    refine ⟨0, I, K', ?_, ?_, inv_scr hPL hPA hI (c4.mono (fun b j h => by unfold scr; omega)) frL.rfl⟩
    · unfold f_X10_hits
      rw [bnd1_some e1, if_neg (by decide), if_neg h0, if_pos (by rw [nl6]; exact (nI_ltI (by omega) (by omega)).mpr (by omega))]
    · unfold f_X11_hits f_X11_hitsOf
      rw [bnd1_some e2, if_neg (by decide), if_neg h0, bnd1_some c1, if_neg (by rw [nl7]; exact nI_le0 (by omega) (by omega)), bnd1_some rfl]
end SHT
