/-! ===== write ===== -/
theorem loop_sync2 {σ ρ τ κ : Type} {f : σ → Option (σ ⊕ ρ)} {g : τ → Option (τ ⊕ κ)} (P : Nat → σ → τ → Prop) (R : ρ → κ → Prop) (n : Nat) (hs : ∀ k s t, k ≤ n → P k s t → (∃ s' t', f s = some (.inl s') ∧ g t = some (.inl t') ∧ P (k + 1) s' t' ∧ k < n) ∨ (∃ r q, f s = some (.inr r) ∧ g t = some (.inr q) ∧ R r q)) :
    ∀ (N k : Nat) s t, k ≤ n → n - k < N → P k s t → ∃ r q, loopN f N s = some r ∧ loopN g N t = some q ∧ R r q := by
  intro N
  induction N with
  | zero => intro k s t _ h; omega
  | succ N ih =>
    intro k s t hk h p
    rcases hs k s t hk p with ⟨s', t', h1, h2, h3, h4⟩ | ⟨r, q, h1, h2, h3⟩
    · rw [loopN_inl h1, loopN_inl h2]
      exact ih (k + 1) s' t' (by omega) (by omega) h3
    · exact ⟨r, q, loopN_inr h1, loopN_inr h2, h3⟩
theorem w12b {w i k : Nat} : (12 : Int32) * nI w + nI i + nI k = nI (12 * w + (i + k)) := by rw [w12, nI_add, Nat.add_assoc]
theorem alike {N w i : Nat} {l : List Int32} {I M : MI} (hw : w < 6) (hl : l.length ≤ 12) (hi : i < l.length) (hc : WC I (10 + 4 * w) l) (hm : WM M 100 101 w l) (hN : 20 ≤ N) : ∃ k, 1 ≤ k ∧ k ≤ 9 ∧ i + k ≤ l.length ∧ f_X3_putWord_l17 N (10 + 4 * w) (nI i) 1 I = some (nI k) ∧ f_X11_write_l28 N (nI w) (nI i) 1 M = some (nI k) := by
  have iw : inb (nI w) 6 = true := inb_nI hw (by decide)
  have cw : Int32.toNatClampNeg (nI w) = w := nI_clamp (by omega)
  obtain ⟨r, q, h1, h2, k, k1, k2, k3, rfl, rfl⟩ := loop_sync2 (f := fun s : Int32 => f_X3_putWord_b17 N (10 + 4 * w) (nI i) s I) (g := fun s : Int32 => f_X11_write_b28 N (nI w) (nI i) s M) (fun k s t => s = nI k ∧ t = nI k ∧ 1 ≤ k ∧ i + k ≤ l.length) (fun r q => ∃ k, 1 ≤ k ∧ k ≤ 9 ∧ i + k ≤ l.length ∧ r = nI k ∧ q = nI k) 9 (by
    rintro k s t hk ⟨rfl, rfl, k1, k3⟩
    simp only [f_X3_putWord_b17, f_X11_write_b28]
    by_cases z : k < 9
    · have lt : nI k < (9 : Int32) := by rw [nl9]; exact (nI_ltI (by omega) (by omega)).mpr z
      rw [if_pos lt, if_pos lt, if_pos iw, cw, hc.1, hm.1, w12b, w12, nI_add]
      by_cases z2 : i + k < l.length
      · obtain ⟨x, hx⟩ := get_some z2
        obtain ⟨y, hy⟩ := get_some hi
        have l2 := (nI_ltI (show i + k < 2 ^ 31 by omega) (show l.length < 2 ^ 31 by omega)).mpr z2
        rw [if_pos l2, if_pos l2, if_pos (inb_nI (by omega) (by decide)), if_pos (inb_nI (by omega) (by decide)), if_pos (inb_nI (by omega) (by decide)), if_pos (inb_nI (by omega) (by decide)), nI_clamp (by omega), nI_clamp (by omega), nI_clamp (by omega), nI_clamp (by omega), hc.2 _ _ hx, hc.2 _ _ hy, hm.2 _ _ hx, hm.2 _ _ hy]
        by_cases z3 : x = y
        · left
          rw [if_pos z3]
          exact ⟨_, _, rfl, rfl, ⟨nI_1 _, nI_1 _, by omega, by omega⟩, z⟩
        · right
          rw [if_neg z3]
          exact ⟨_, _, rfl, rfl, k, k1, hk, k3, rfl, rfl⟩
      · right
        have l2 : ¬ nI (i + k) < nI l.length := nI_le0 (by omega) (by omega)
        rw [if_neg l2, if_neg l2]
        exact ⟨_, _, rfl, rfl, k, k1, hk, k3, rfl, rfl⟩
    · right
      have : k = 9 := by omega
      subst this
      rw [if_neg (by decide), if_neg (by decide)]
      exact ⟨_, _, rfl, rfl, 9, k1, by omega, k3, rfl, rfl⟩) N 1 1 1 (by omega) (by omega) ⟨nl1, nl1, by omega, by omega⟩
  exact ⟨k, k1, k2, k3, h1, h2⟩
theorem putB {J : MI} {q : Nat} (v : Int32) (h : J 76 1 = nI q) (hq : q < 12) : f_X3_putByte v J = some (upI (upI J 77 q v) 76 1 (nI (q + 1))) := by
  unfold f_X3_putByte
  have lt : nI q < (12 : Int32) := by rw [nl12]; exact (nI_ltI (by omega) (by omega)).mpr hq
  rw [h, if_pos lt, if_pos (inb_nI hq (by decide)), nI_clamp (by omega)]
  simp only [letv]
  rw [upI_ne _ _ (by omega), h, nI_1]
theorem layB {J : MI} {q : Nat} (v : Int32) (h : J 99 15 = nI q) (hq : q < 12) : f_X11_lay v J = some (upI (upI J 112 q v) 99 15 (nI (q + 1))) := by
  unfold f_X11_lay
  rw [h, if_pos (inb_nI (by omega) (by decide)), nI_clamp (by omega)]
  simp only [letv]
  rw [upI_ne _ _ (by omega), h, nI_1]
def fP1 (b j : Nat) : Prop := (b = 76 ∧ j = 1) ∨ b = 77
def fP2 (b j : Nat) : Prop := (b = 99 ∧ j = 15) ∨ b = 112
def outP (J K : MI) (q : Nat) : Prop := J 76 1 = nI q ∧ K 99 15 = nI q ∧ ∀ j, j < q → J 77 j = K 112 j
theorem outP_1 {J K : MI} {q : Nat} (v : Int32) (h : outP J K q) (hq : q < 12) : ∃ J' K', f_X3_putByte v J = some J' ∧ f_X11_lay v K = some K' ∧ outP J' K' (q + 1) ∧ fr fP1 J J' ∧ fr fP2 K K' := by
  refine ⟨_, _, putB v h.1 hq, layB v h.2.1 hq, ⟨upI_eq _ _ _ _, upI_eq _ _ _ _, fun j hj => ?_⟩, (fr.up (S := fP1) (Or.inr rfl)).trans (fr.up (S := fP1) (Or.inl ⟨rfl, rfl⟩)), (fr.up (S := fP2) (Or.inr rfl)).trans (fr.up (S := fP2) (Or.inl ⟨rfl, rfl⟩))⟩
  rw [upI_ne 77 j (by omega), upI_ne 112 j (by omega), upI_at, upI_at]
  by_cases z : j = q
  · rw [if_pos z, if_pos z]
  · rw [if_neg z, if_neg z]; exact h.2.2 j (by omega)
theorem wr_both {N w : Nat} {l : List Int32} {I M : MI} (hw : w < 6) (hl : l.length ≤ 12) (hc : WC I (10 + 4 * w) l) (hm : WM M 100 101 w l) (hN : 20 ≤ N) : ∃ J K q, f_X3_putWord N (10 + 4 * w) I = some J ∧ f_X11_write_l16 N (nI w) 0 (upI M 99 15 0) = some K ∧ q ≤ 12 ∧ outP J K q ∧ fr fP1 I J ∧ fr fP2 M K := by
  have iw : inb (nI w) 6 = true := inb_nI hw (by decide)
  have cw : Int32.toNatClampNeg (nI w) = w := nI_clamp (by omega)
  obtain ⟨J, K, h1, h2, q, q1, q2, q3, q4⟩ := loop_sync2 (f := fun s : Int32 × MI => f_X3_putWord_b7 N (10 + 4 * w) s.1 s.2) (g := fun s : Int32 × MI => f_X11_write_b16 N (nI w) s.1 s.2) (fun m s t => ∃ i q, m ≤ i ∧ i ≤ l.length ∧ q ≤ i ∧ s.1 = nI i ∧ t.1 = nI i ∧ outP s.2 t.2 q ∧ fr fP1 I s.2 ∧ fr fP2 M t.2) (fun J K => ∃ q, q ≤ 12 ∧ outP J K q ∧ fr fP1 I J ∧ fr fP2 M K) l.length (by
    rintro m ⟨a, J⟩ ⟨b, K⟩ hm' ⟨i, q, i1, i2, i3, e1, e2, o1, f1, f2⟩
    simp only at e1 e2 o1 f1 f2
    subst e1; subst e2
    have hcJ : WC J (10 + 4 * w) l := ⟨by rw [f1 _ _ (by unfold fP1; omega)]; exact hc.1, fun j x hx => by rw [f1 _ _ (by unfold fP1; omega)]; exact hc.2 j x hx⟩
    have hmK : WM K 100 101 w l := ⟨by rw [f2 _ _ (by unfold fP2; omega)]; exact hm.1, fun j x hx => by rw [f2 _ _ (by unfold fP2; omega)]; exact hm.2 j x hx⟩
    show (∃ s' t', f_X3_putWord_b7 N (10 + 4 * w) (nI i) J = _ ∧ f_X11_write_b16 N (nI w) (nI i) K = _ ∧ _) ∨ (∃ r q, f_X3_putWord_b7 N (10 + 4 * w) (nI i) J = _ ∧ f_X11_write_b16 N (nI w) (nI i) K = _ ∧ _)
    unfold f_X3_putWord_b7 f_X11_write_b16
    rw [if_pos iw, cw, hcJ.1, hmK.1]
    by_cases z : i < l.length
    · left
      have lt := (nI_ltI (show i < 2 ^ 31 by omega) (show l.length < 2 ^ 31 by omega)).mpr z
      obtain ⟨k, k1, k2, k3, k4, k5⟩ := alike (N := N) hw hl z hcJ hmK hN
      obtain ⟨x, hx⟩ := get_some z
      have main : ∀ v, ∃ J' K' q', f_X3_putWord_b7_j73 N (10 + 4 * w) (nI i) (nI k) v J = some (.inl (nI (i + k), J')) ∧ f_X11_write_b16_j101 N (nI w) (nI i) (nI k) v K = some (.inl (nI (i + k), K')) ∧ q' ≤ i + k ∧ outP J' K' q' ∧ fr fP1 I J' ∧ fr fP2 M K' := fun v => by
        obtain ⟨J1, K1, g1, g2, g3, g4, g5⟩ := outP_1 v o1 (by omega)
        unfold f_X3_putWord_b7_j73 f_X11_write_b16_j101
        rw [bnd1_some g1, bnd1_some g2, nI_add]
        by_cases z2 : 1 < k
        · obtain ⟨J2, K2, y1, y2, y3, y4, y5⟩ := outP_1 (48 + nI k) g3 (by omega)
          have l1 : (1 : Int32) < nI k := by rw [nl1]; exact (nI_ltI (by omega) (by omega)).mpr z2
          rw [if_pos l1, if_pos l1, bnd1_some y1, bnd1_some y2]
          exact ⟨J2, K2, q + 1 + 1, rfl, rfl, by omega, y3, f1.trans (g4.trans y4), f2.trans (g5.trans y5)⟩
        · have l1 : ¬ (1 : Int32) < nI k := by rw [nl1]; exact nI_le0 (by omega) (by omega)
          rw [if_neg l1, if_neg l1]
          exact ⟨J1, K1, q + 1, rfl, rfl, by omega, g3, f1.trans g4, f2.trans g5⟩
      rw [if_pos lt, if_pos lt, bnd1_some k4, bnd1_some k5]
      unfold f_X3_putWord_b7_j56 f_X11_write_b16_j79
      rw [w12, if_pos (inb_nI (by omega) (by decide)), if_pos (inb_nI (by omega) (by decide)), nI_clamp (by omega), nI_clamp (by omega), hcJ.2 _ _ hx, hmK.2 _ _ hx]
      by_cases z3 : x = 0
      · rw [if_pos z3, if_pos z3]
        obtain ⟨J', K', q', a1, a2, a3, a4, a5, a6⟩ := main 85
        exact ⟨_, _, a1, a2, ⟨i + k, q', by omega, by omega, a3, rfl, rfl, a4, a5, a6⟩, by omega⟩
      · rw [if_neg z3, if_neg z3]
        obtain ⟨J', K', q', a1, a2, a3, a4, a5, a6⟩ := main 68
        exact ⟨_, _, a1, a2, ⟨i + k, q', by omega, by omega, a3, rfl, rfl, a4, a5, a6⟩, by omega⟩
    · right
      have lt : ¬ nI i < nI l.length := nI_le0 (by omega) (by omega)
      rw [if_neg lt, if_neg lt]
      exact ⟨J, K, rfl, rfl, q, by omega, o1, f1, f2⟩) N 0 (0, upI I 76 1 0) (0, upI M 99 15 0) (Nat.zero_le _) (by omega) ⟨0, 0, Nat.le_refl _, Nat.zero_le _, Nat.le_refl _, nl0, nl0, ⟨by show upI I 76 1 0 76 1 = nI 0; rw [upI_eq]; exact nl0, by show upI M 99 15 0 99 15 = nI 0; rw [upI_eq]; exact nl0, fun j hj => absurd hj (by omega)⟩, fr.up (Or.inl ⟨rfl, rfl⟩), fr.up (Or.inl ⟨rfl, rfl⟩)⟩
  refine ⟨J, K, q, ?_, h2, q1, q2, q3, q4⟩
  unfold f_X3_putWord f_X3_putWord_l7
  simp only [letv]
  rw [bnd1_some h1]
section WRT
variable {PL : MX → MI → ML → Prop} {PA : MI → Prop} {N : Nat} {X : MX} {I I' : MI} {L : ML}
def sPp (b j : Nat) : Prop := fP1 b j ∨ fP2 b j
theorem inv_paper (hPL : frPL PL) (hPA : frPA PA) (hI : Inv0 PL PA X I L) (m2 : fr sPp I I') (hP' : pP I') : Inv0 PL PA X I' L := by
  obtain ⟨h10, h11, hG, hW, hWi, hS, hSi, hB, hBi, hT, hTi, hN, hNi, hC, hX, hP, hR, hL, hA⟩ := hI
  have h' : frL (fun _ _ => False) L L := frL.rfl
  refine ⟨h10, h11, pG_fr m2 (fun b j s => ?_) hG, pW_fr m2 (fun b j s => ?_) hW, pWi_fr m2 (fun b j s => ?_) hWi, hS, pSi_fr m2 (fun b j s => ?_) h' (fun b j s => s.elim) hSi, pB_fr m2 (fun b j s => ?_) hB, pBi_fr m2 (fun b j s => ?_) hBi, pT_fr m2 (fun b j s => ?_) hT, pTi_fr m2 (fun b j s => ?_) hTi, pN_fr m2 (fun b j s => ?_) hN, pNi_fr m2 (fun b j s => ?_) hNi, pC_fr m2 (fun b j s => ?_) hC, pX_fr m2 (fun b j s => ?_) hX, hP', pR_fr m2 (fun b j s => ?_) h' (fun b j s => s.elim) hR, hPL X I I' L L (fun b j q => m2 b j ?_) (fun b j q => rfl) hL, hPA I I' (fun b j q => m2 b j ?_) hA⟩
  all_goals first
    | (unfold sPp fP1 fP2 at s; unfold depG; omega) | (unfold sPp fP1 fP2 at s; unfold depW; omega) | (unfold sPp fP1 fP2 at s; unfold depWi; omega) | (unfold sPp fP1 fP2 at s; unfold depI; omega) | (unfold sPp fP1 fP2 at s; unfold depB; omega)
    | (unfold sPp fP1 fP2 at s; unfold depBi; omega) | (unfold sPp fP1 fP2 at s; unfold depT; omega) | (unfold sPp fP1 fP2 at s; unfold depTi; omega) | (unfold sPp fP1 fP2 at s; unfold depN; omega) | (unfold sPp fP1 fP2 at s; unfold depNi; omega) | (unfold sPp fP1 fP2 at s; unfold depC; omega)
    | (unfold sPp fP1 fP2 at s; unfold depX; omega) | (unfold sPp fP1 fP2 at s; unfold depR; omega)
    | (unfold sPp fP1 fP2; omega) | (unfold depA at q; unfold sPp fP1 fP2; omega)
theorem s_write (hPL : frPL PL) (hPA : frPA PA) (hN : 20 ≤ N) : S_write N (Inv0 PL PA) := by
  intro X I L x1 hI
  rcases six_cases x1 with ⟨w, hw, rfl, e1, e2⟩ | ⟨e1, e2⟩
  · have iw : inb (nI w) 6 = true := inb_nI hw (by decide)
    have cw : Int32.toNatClampNeg (nI w) = w := nI_clamp (by omega)
    obtain ⟨l, hl, hb, hc, hm⟩ := hI.w hw
    obtain ⟨J, _, _, a1, _, _, _, a2, _⟩ := wr_both (N := N) hw hl hc hm hN
    have hmJ : WM J 100 101 w l := ⟨by rw [a2 _ _ (by unfold fP1; omega)]; exact hm.1, fun j x hx => by rw [a2 _ _ (by unfold fP1; omega)]; exact hm.2 j x hx⟩
    obtain ⟨J', K, q, b1, b2, b3, b4, b5, b6⟩ := wr_both (N := N) hw hl hc hmJ hN
    have : J' = J := Option.some.inj (b1.symm.trans a1)
    subst this
    refine ⟨nI q, J', K, ?_, ?_, inv_paper hPL hPA hI ((b5.mono (S' := sPp) (fun b j h => Or.inl h)).trans (b6.mono (fun b j h => Or.inr h))) ⟨q, b3, ?_, b4.2.1, fun i hi => ?_⟩⟩
    · unfold f_X10_write
      rw [bnd1_some e1, if_neg (by decide), if_pos iw, cw, bnd1_some b1, b4.1]
    · unfold f_X11_write
      rw [bnd1_some e2, if_neg (by decide)]
      simp only [letv]
      rw [bnd1_some b2, b4.2.1]
    · rw [b6 _ _ (by unfold fP2; omega)]; exact b4.1
    · rw [b6 77 _ (by unfold fP2; omega)]; exact b4.2.2 i hi
  · refine ⟨-1, I, I, ?_, ?_, hI⟩
    · unfold f_X10_write; rw [bnd1_some e1, if_pos rfl]
    · unfold f_X11_write; rw [bnd1_some e2, if_pos rfl]
end WRT
