theorem cl_X2_35 : CLS RX2 35 yX2_fillCounts mX2_fillCounts none 2 := ⟨⟨lwg_at 579 (by decide +kernel) rfl, lwg_at 580 (by decide +kernel) rfl, lwg_at 65 (by decide +kernel) rfl⟩, lwg_at 581 (by decide +kernel) rfl, ⟨by decide +kernel, by decide +kernel, by decide +kernel⟩⟩
theorem cl_X2_39 : CLS RX2 39 yX2_digitsOf mX2_digitsOf (some FieldType.int) 1 := ⟨⟨lwg_at 583 (by decide +kernel) rfl, lwg_at 584 (by decide +kernel) rfl, lwg_at 65 (by decide +kernel) rfl⟩, lwg_at 585 (by decide +kernel) rfl, ⟨by decide +kernel, by decide +kernel, by decide +kernel⟩⟩
theorem cl_X2_43 : CLSN RX2 43 yX10_keyOf mX10_keyOf (some FieldType.long) 1 := ⟨⟨_, List.mem_of_getElem? (i := 9) rfl⟩, ⟨lwg_at 587 (by decide +kernel) rfl, lwg_at 50 (by decide +kernel) rfl⟩, lwg_at 588 (by decide +kernel) rfl, ⟨by decide +kernel, by decide +kernel, by decide +kernel⟩⟩
theorem cl_X2_47 : CLV RX2 47 yX2_sortIn mX2_sortIn none 1 := ⟨⟨lwg_at 591 (by decide +kernel) rfl, lwg_at 593 (by decide +kernel) rfl, lwg_at 8 (by decide +kernel) rfl, lwg_at 65 (by decide +kernel) rfl⟩, lwg_at 594 (by decide +kernel) rfl, ⟨by decide +kernel, by decide +kernel, by decide +kernel⟩⟩
theorem cl_X2_51 : CLS RX2 51 yX2_goOn mX2_goOn none 1 := ⟨⟨lwg_at 600 (by decide +kernel) rfl, lwg_at 601 (by decide +kernel) rfl, lwg_at 65 (by decide +kernel) rfl⟩, lwg_at 602 (by decide +kernel) rfl, ⟨by decide +kernel, by decide +kernel, by decide +kernel⟩⟩
theorem oi_X2 : Cond.methodLink RX2 3 Lib.objectInit ∈ lwg ∧ Cond.instanceMethod Lib.objectInit ∈ lwg ∧ Cond.code Lib.objectInit ⟨#[0xb1]⟩ 1 none ∈ lwg := ⟨lwg_at 576 (by decide +kernel) rfl, lwg_at 72 (by decide +kernel) rfl, lwg_at 73 (by decide +kernel) rfl⟩
theorem acI : Cond.arrayClass .int ∈ lwg := lwg_at 120 (by decide +kernel) rfl
theorem acL : Cond.arrayClass .long ∈ lwg := lwg_at 95 (by decide +kernel) rfl
theorem coX2 : ∀ C T N, vwCl[2]? = some (C, T, N) → C = RX2 := fun C T N h => by cases h; rfl
theorem fl_X2_9 : Cond.fieldLink RX2 9 (sNm 3).1 (sNm 3).2 "[I" ∈ lwg := lwg_at 577 (by decide +kernel) rfl
theorem fl_X10_58 : FLD RX10 58 10 8 true := ⟨RX10, TX10, 10, rfl, inX10, by decide, lwg_at 282 (by decide +kernel) rfl, nmX10, tyX10_ok, rfl, rfl⟩
theorem cn_X10_56 : CLN RX10 56 2 7 := ⟨RX2, TX2, rfl, inX2, tyX2_ok, by decide, lwg_at 272 (by decide +kernel) rfl, lwg_at 572 (by decide +kernel) rfl, lwg_at 65 (by decide +kernel) rfl⟩
theorem cl_X10_365 : CLI RX10 365 yX2_init mX2_init 1 := ⟨⟨lwg_at 573 (by decide +kernel) rfl, lwg_at 574 (by decide +kernel) rfl, lwg_at 65 (by decide +kernel) rfl⟩, lwg_at 575 (by decide +kernel) rfl, ⟨by decide +kernel, by decide +kernel, by decide +kernel⟩, rfl⟩
def rmX2_init : RM := ((2, 48, 7, 4650), true, none)
def f_X2_init_b75 (N : Nat) (a0 : Nat) (n0 : Nat) (a2 : Nat) (n2 : Nat) (a3 : Nat) (v4 : Int32) (I : MI) (L : ML) : Option ((Int32 × MI × ML) ⊕ (MI × ML)) := (if v4 < (I a0 0) then bnd1 (f_X2_fillCounts N a2 n2 a3 7 I) fun I2 => bnd1 (f_X2_digitsOf N a2 n2 I2) fun r4 => if inb v4 n0 then letv (upI I2 (a0 + 1) (Int32.toNatClampNeg v4) r4) fun I7 => bnd1 (f_X10_keyOf N a3 7 I7) fun r8 => if inb v4 n0 then letv (upL L (a0 + 2) (Int32.toNatClampNeg v4) r8) fun L11 => bnd2 (f_X2_sortIn N a0 n0 v4 I7 L11) fun I12 L13 => bnd1 (f_X2_goOn N a2 n2 I12) fun I15 => some (.inl (v4 + 1, I15, L13)) else none else none else some (.inr (I, L)))
set_option maxRecDepth 100000 in
set_option maxHeartbeats 4000000 in
theorem k_X2_init_b75 {G : GX} {Q : State → Prop} {X : MX} {a0 : Nat} {n0 : Nat} {a2 : Nat} {n2 : Nat} {a3 : Nat} (h0 : shX2 X a0 n0) (h2 : X.1 a2 = (2, n2)) (h3 : X.1 a3 = (2, 7)) {v4 : Int32} {N : Nat} {I : MI} {L : ML} {out : (Int32 × MI × ML) ⊕ (MI × ML)} (hf : f_X2_init_b75 N a0 n0 a2 n2 a3 v4 I L = some out) (hC : ∀ (v4' : Int32) (I' : MI) (L' : ML), out = .inl (v4', I', L') → Ex G mX2_init rmX2_init Q (7, 4650) X I' L' 75 [(0, .ref (gB G + a0)), (2, .ref (gB G + a2)), (3, .ref (gB G + a3)), (4, .int v4')] []) (hX : ∀ (I' : MI) (L' : ML), out = .inr (I', L') → Ex G mX2_init rmX2_init Q (7, 4650) X I' L' 127 [] []) : Ex G mX2_init rmX2_init Q (7, 4650) X I L 75 [(0, .ref (gB G + a0)), (2, .ref (gB G + a2)), (3, .ref (gB G + a3)), (4, .int v4)] [] := by
  unfold f_X2_init_b75 at hf
  refine ex_iload 3 (pc' := 77) dX2_init_75 rfl rfl ?_
  refine ex_aload_n 0 (pc' := 78) dX2_init_77 rfl rfl rfl ?_
  refine ex_getI (pc' := 81) dX2_init_78 fl_X2_15 rfl (sh2_k h0) rfl ?_
  refine ex_icmpge (tgt := 127) (pc' := 84) dX2_init_81 (by decide) rfl (fun hc1 => ?_) (fun hc1 => ?_)
  · replace hf := if_t hc1 hf
    refine ex_aload_n 1 (pc' := 85) dX2_init_84 rfl rfl rfl ?_
    refine ex_aload_n 2 (pc' := 86) dX2_init_85 rfl rfl rfl ?_
    obtain ⟨I2, hq3, hf⟩ := of_bnd1 hf
    refine ex_callS_v (rm' := rmX2_fillCounts) (st := []) (pc' := 89) [.ref (gB G + a2), .ref (gB G + a3)] dX2_init_86 cl_X2_35 (k_X2_fillCounts G h2 h3 hq3) rfl rfl rfl (ROOM_of rfl) (Nat.le_of_ble_eq_true rfl) rfl rfl ?_
    refine ex_aload_n 0 (pc' := 90) dX2_init_89 rfl rfl rfl ?_
    refine ex_getR (pc' := 93) dX2_init_90 fl_X2_19 rfl (sh2_k h0) (sh2_F1 h0) rfl ?_
    refine ex_iload 3 (pc' := 95) dX2_init_93 rfl rfl ?_
    refine ex_aload_n 1 (pc' := 96) dX2_init_95 rfl rfl rfl ?_
    obtain ⟨r4, hq5, hf⟩ := of_bnd1 hf
    refine ex_callS_i (rm' := rmX2_digitsOf) (st := [.int v4, .ref (gB G + (a0 + 1))]) (pc' := 99) [.ref (gB G + a2)] dX2_init_96 cl_X2_39 (k_X2_digitsOf G h2 hq5) rfl rfl rfl (ROOM_of rfl) (Nat.le_of_ble_eq_true rfl) rfl rfl ?_
    obtain ⟨hg6, hf⟩ := of_guard hf
    refine ex_iast (pc' := 100) dX2_init_99 (sh2_T1 h0) (inb_in hg6) rfl ?_
    obtain ⟨I7, hI7, hf⟩ := of_let hf
    rw [← hI7]
    refine ex_aload_n 0 (pc' := 101) dX2_init_100 rfl rfl rfl ?_
    refine ex_getR (pc' := 104) dX2_init_101 fl_X2_22 rfl (sh2_k h0) (sh2_F2 h0) rfl ?_
    refine ex_iload 3 (pc' := 106) dX2_init_104 rfl rfl ?_
    refine ex_aload_n 2 (pc' := 107) dX2_init_106 rfl rfl rfl ?_
    obtain ⟨r8, hq9, hf⟩ := of_bnd1 hf
    refine ex_callSN_l (rm' := rmX10_keyOf) (st := [.int v4, .ref (gB G + (a0 + 2))]) (pc' := 110) [.ref (gB G + a3)] dX2_init_107 cl_X2_43 (k_X10_keyOf G h3 hq9) rfl rfl rfl (ROOM_of rfl) (Nat.le_of_ble_eq_true rfl) rfl rfl ?_
    obtain ⟨hg10, hf⟩ := of_guard hf
    refine ex_last (pc' := 111) dX2_init_110 (sh2_T2 h0) (inb_in hg10) rfl ?_
    obtain ⟨L11, hL11, hf⟩ := of_let hf
    rw [← hL11]
    refine ex_aload_n 0 (pc' := 112) dX2_init_111 rfl rfl rfl ?_
    refine ex_iload 3 (pc' := 114) dX2_init_112 rfl rfl ?_
    obtain ⟨I12, L13, hq14, hf⟩ := of_bnd2 hf
    refine ex_callV_v (rm' := rmX2_sortIn) (st := []) (pc' := 117) [.int v4] dX2_init_114 cl_X2_47 (k_X2_sortIn G h0 hq14) rfl (sh2_k h0) ⟨_, _, rfl⟩ rfl rfl (ROOM_of rfl) (Nat.le_of_ble_eq_true rfl) rfl rfl ?_
    refine ex_aload_n 1 (pc' := 118) dX2_init_117 rfl rfl rfl ?_
    obtain ⟨I15, hq16, hf⟩ := of_bnd1 hf
    refine ex_callS_v (rm' := rmX2_goOn) (st := []) (pc' := 121) [.ref (gB G + a2)] dX2_init_118 cl_X2_51 (k_X2_goOn G h2 hq16) rfl rfl rfl (ROOM_of rfl) (Nat.le_of_ble_eq_true rfl) rfl rfl ?_
    refine ex_iincc (lv' := [(4, .int (v4 + 1)), (0, .ref (gB G + a0)), (2, .ref (gB G + a2)), (3, .ref (gB G + a3))]) 3 (pc' := 124) dX2_init_121 rfl ic_1 (Nat.le_of_ble_eq_true rfl) rfl rfl ?_
    refine ex_goto (tgt := 75) dX2_init_124 (by decide) ?_
    exact ex_sub [1, 2, 3, 0] rfl (hC _ _ _ (Option.some.inj hf).symm)
  · replace hf := if_f hc1 hf
    exact ex_sub [] rfl (hX _ _ (Option.some.inj hf).symm)
def f_X2_init_l75 (N : Nat) (a0 : Nat) (n0 : Nat) (a2 : Nat) (n2 : Nat) (a3 : Nat) (v4 : Int32) (I : MI) (L : ML) : Option (MI × ML) := loopN (fun s => f_X2_init_b75 N a0 n0 a2 n2 a3 s.1 s.2.1 s.2.2) N (v4, I, L)
set_option maxRecDepth 100000 in
set_option maxHeartbeats 4000000 in
theorem k_X2_init_l75 {G : GX} {Q : State → Prop} {X : MX} {a0 : Nat} {n0 : Nat} {a2 : Nat} {n2 : Nat} {a3 : Nat} (h0 : shX2 X a0 n0) (h2 : X.1 a2 = (2, n2)) (h3 : X.1 a3 = (2, 7)) {N0 : Nat} {out : (MI × ML)} (hX : ∀ (I' : MI) (L' : ML), out = (I', L') → Ex G mX2_init rmX2_init Q (7, 4650) X I' L' 127 [] []) : ∀ (N : Nat) (v4 : Int32) (I : MI) (L : ML), loopN (fun s => f_X2_init_b75 N0 a0 n0 a2 n2 a3 s.1 s.2.1 s.2.2) N (v4, I, L) = some out → Ex G mX2_init rmX2_init Q (7, 4650) X I L 75 [(0, .ref (gB G + a0)), (2, .ref (gB G + a2)), (3, .ref (gB G + a3)), (4, .int v4)] [] := by
  intro N
  induction N with
  | zero => intro v4 I L hf; exact absurd (loopN_zero hf) id
  | succ n ih =>
    intro v4 I L hf
    rcases loopN_succ hf with ⟨s, hb, hl⟩ | hb
    · obtain ⟨v4', I', L'⟩ := s
      refine k_X2_init_b75 h0 h2 h3 hb (fun _ _ _ he => ?_) (fun _ _ he => by cases he)
      cases he
      exact ih v4' I' L' hl
    · exact k_X2_init_b75 h0 h2 h3 hb (fun _ _ _ he => by cases he) (fun x0 x1 he => hX x0 x1 (Sum.inr.inj he))
def f_X2_init_t (N : Nat) (a0 n0 a2 n2 a3 : Nat) (I : MI) (L : ML) : Option (MI × ML) := bnd2 (f_X2_init_l75 N a0 n0 a2 n2 a3 0 I L) fun I17 L18 => some (I17, L18)
set_option maxRecDepth 100000 in
set_option maxHeartbeats 4000000 in
theorem k_X2_init_t {G : GX} {Q : State → Prop} {X : MX} {a0 n0 a2 n2 a3 : Nat} (h0 : shX2 X a0 n0) (h2 : X.1 a2 = (2, n2)) (h3 : X.1 a3 = (2, 7)) {N : Nat} {I : MI} {L : ML} {out : MI × ML} (hf : f_X2_init_t N a0 n0 a2 n2 a3 I L = some out) (hR : ∀ (I' : MI) (L' : ML), out = (I', L') → Q = RetQ G none X I' L' (7, 4650)) : Ex G mX2_init rmX2_init Q (7, 4650) X I L 75 [(0, .ref (gB G + a0)), (2, .ref (gB G + a2)), (3, .ref (gB G + a3)), (4, .int 0)] [] := by
  unfold f_X2_init_t at hf
  refine ex_sub (lv' := [(0, .ref (gB G + a0)), (2, .ref (gB G + a2)), (3, .ref (gB G + a3)), (4, .int 0)]) [0, 1, 2, 3] rfl ?_
  obtain ⟨I17, L18, hq19, hf⟩ := of_bnd2 hf
  refine k_X2_init_l75 h0 h2 h3 (fun I17' L18' he => ?_) _ _ _ _ hq19
  cases he
  exact ex_vret dX2_init_127 rfl (hR _ _ (Option.some.inj hf).symm)
theorem nwK_ne {K : Nat → Nat × Nat} {z b : Nat} {k : Nat × Nat} (h : b ≠ z) : nwK K z k b = K b := if_neg h
theorem nwK_eq {K : Nat → Nat × Nat} {z : Nat} {k : Nat × Nat} : nwK K z k z = k := if_pos rfl
def ladX0 (X : MX) (a0 n sd : Nat) : MX := ((nwK (nwK (nwK (nwK (nwK (nwK (nwK X.1 (a0 + 1) (2, n)) (a0 + 2) (3, n)) (a0 + 3) (3, n)) (a0 + 4) (2, n)) (a0 + 5) (2, n)) (a0 + 6) (2, sd)) (a0 + 7) (2, 7)), (upF (upF (upF (upF (upF X.2.1 a0 1 (some (a0 + 1))) a0 2 (some (a0 + 2))) a0 4 (some (a0 + 3))) a0 5 (some (a0 + 4))) a0 6 (some (a0 + 5))), a0 + 8)
theorem ladX0_sh {X : MX} {a0 n sd : Nat} (hk : X.1 a0 = (1, 2)) : shX2 (ladX0 X a0 n sd) a0 n ∧ (ladX0 X a0 n sd).1 (a0 + 6) = (2, sd) ∧ (ladX0 X a0 n sd).1 (a0 + 7) = (2, 7) := by
  unfold shX2 ladX0
  refine ⟨⟨?_, ?_, ?_, ?_, ?_, ?_, ?_, ?_, ?_, ?_, ?_⟩, ?_, ?_⟩ <;> simp [nwK, upF, hk]
def f_X2_init (N a0 : Nat) (v1 : Int32) (n sd : Nat) (I : MI) (L : ML) : Option (MI × ML) := f_X2_init_t N a0 n (a0 + 6) sd (a0 + 7) (nwI (nwI (nwI (nwI (nwI (upI I a0 0 (tabI 3 (Int32.toNatClampNeg v1))) (a0 + 1)) (a0 + 4)) (a0 + 5)) (a0 + 6)) (a0 + 7)) (nwL (nwL L (a0 + 2)) (a0 + 3))
set_option maxRecDepth 100000 in
set_option maxHeartbeats 4000000 in
theorem kb_X2_init {G : GX} {Q : State → Prop} {X : MX} {a0 : Nat} {v1 : Int32} {n sd : Nat} (hk : X.1 a0 = (1, 2)) (hz : X.2.2 = a0 + 1) (hv : inb v1 7 = true) (hn : Int32.toNatClampNeg (tabI 3 (Int32.toNatClampNeg v1)) = n) (hn0 : ¬ tabI 3 (Int32.toNatClampNeg v1) < 0) (hn9 : n ≤ 924) (hv0 : ¬ v1 < 0) (hsd : Int32.toNatClampNeg v1 = sd) (hs6 : sd ≤ 6) {N : Nat} {I : MI} {L : ML} {out : MI × ML} (hf : f_X2_init N a0 v1 n sd I L = some out) (hR : ∀ (I' : MI) (L' : ML), out = (I', L') → Q = RetQ G none (ladX0 X a0 n sd) I' L' (7, 4650)) : Ex G mX2_init rmX2_init Q (0, 0) X I L 0 [(0, .ref (gB G + a0)), (1, .int v1)] [] := by
  unfold f_X2_init at hf
  refine ex_aload_n 0 (pc' := 1) dX2_init_0 rfl rfl rfl ?_
  refine ex_objInit (pc' := 4) dX2_init_1 oi_X2 ⟨Nat.le_of_ble_eq_true rfl, Nat.le_of_ble_eq_true rfl⟩ rfl ?_
  refine ex_aload_n 0 (pc' := 5) dX2_init_4 rfl rfl rfl ?_
  refine ex_getst (j := 3) (pc' := 8) dX2_init_5 (by decide) fl_X2_9 rfl ?_
  refine ex_iload_n 1 (pc' := 9) dX2_init_8 rfl rfl rfl ?_
  refine ex_siald (pc' := 10) dX2_init_9 (by decide) (inb_in hv) rfl ?_
  refine ex_putFI (pc' := 13) dX2_init_10 fl_X2_15 rfl coX2 rfl hk rfl ?_
  refine ex_aload_n 0 (pc' := 14) dX2_init_13 rfl rfl rfl ?_
  refine ex_aload_n 0 (pc' := 15) dX2_init_14 rfl rfl rfl ?_
  refine ex_getI (pc' := 18) dX2_init_15 fl_X2_15 rfl hk rfl ?_
  have hs0 : (upI I a0 0 (tabI 3 (Int32.toNatClampNeg v1))) a0 0 = tabI 3 (Int32.toNatClampNeg v1) := by simp [upI, nwI]
  rw [hs0]
  refine ex_newI (N := n) (pc' := 20) dX2_init_18 acI hn0 hn (by omega) ⟨Nat.le_of_ble_eq_true rfl, by show 0 + n ≤ 4650; omega⟩ rfl ?_
  refine ex_widen (kn' := (1, 924)) (Nat.le_of_ble_eq_true rfl) (by show 0 + n ≤ 924; omega) ?_
  rw [hz]
  show Ex G mX2_init rmX2_init Q (1, 924) ((nwK X.1 (a0 + 1) (2, n)), X.2.1, a0 + 2) (nwI (upI I a0 0 (tabI 3 (Int32.toNatClampNeg v1))) (a0 + 1)) L 20 [(0, .ref (gB G + a0)), (1, .int v1)] [.ref (gB G + (a0 + 1)), .ref (gB G + a0)]
  have hk1 : (nwK X.1 (a0 + 1) (2, n)) a0 = (1, 2) := (nwK_ne (by omega)).trans hk
  refine ex_putFR (pc' := 23) dX2_init_20 fl_X2_19 rfl coX2 rfl rfl hk1 rfl ?_
  show Ex G mX2_init rmX2_init Q (1, 924) ((nwK X.1 (a0 + 1) (2, n)), (upF X.2.1 a0 1 (some (a0 + 1))), a0 + 2) (nwI (upI I a0 0 (tabI 3 (Int32.toNatClampNeg v1))) (a0 + 1)) L 23 [(0, .ref (gB G + a0)), (1, .int v1)] []
  refine ex_aload_n 0 (pc' := 24) dX2_init_23 rfl rfl rfl ?_
  refine ex_aload_n 0 (pc' := 25) dX2_init_24 rfl rfl rfl ?_
  refine ex_getI (pc' := 28) dX2_init_25 fl_X2_15 rfl hk1 rfl ?_
  have hs1 : (nwI (upI I a0 0 (tabI 3 (Int32.toNatClampNeg v1))) (a0 + 1)) a0 0 = tabI 3 (Int32.toNatClampNeg v1) := by simp [upI, nwI]
  rw [hs1]
  refine ex_newL (N := n) (pc' := 30) dX2_init_28 acL hn0 hn (by omega) ⟨Nat.le_of_ble_eq_true rfl, by show 924 + n ≤ 4650; omega⟩ rfl ?_
  refine ex_widen (kn' := (2, 1848)) (Nat.le_of_ble_eq_true rfl) (by show 924 + n ≤ 1848; omega) ?_
  show Ex G mX2_init rmX2_init Q (2, 1848) ((nwK (nwK X.1 (a0 + 1) (2, n)) (a0 + 2) (3, n)), (upF X.2.1 a0 1 (some (a0 + 1))), a0 + 3) (nwI (upI I a0 0 (tabI 3 (Int32.toNatClampNeg v1))) (a0 + 1)) (nwL L (a0 + 2)) 30 [(0, .ref (gB G + a0)), (1, .int v1)] [.ref (gB G + (a0 + 2)), .ref (gB G + a0)]
  have hk2 : (nwK (nwK X.1 (a0 + 1) (2, n)) (a0 + 2) (3, n)) a0 = (1, 2) := (nwK_ne (by omega)).trans hk1
  refine ex_putFR (pc' := 33) dX2_init_30 fl_X2_22 rfl coX2 rfl rfl hk2 rfl ?_
  show Ex G mX2_init rmX2_init Q (2, 1848) ((nwK (nwK X.1 (a0 + 1) (2, n)) (a0 + 2) (3, n)), (upF (upF X.2.1 a0 1 (some (a0 + 1))) a0 2 (some (a0 + 2))), a0 + 3) (nwI (upI I a0 0 (tabI 3 (Int32.toNatClampNeg v1))) (a0 + 1)) (nwL L (a0 + 2)) 33 [(0, .ref (gB G + a0)), (1, .int v1)] []
  refine ex_aload_n 0 (pc' := 34) dX2_init_33 rfl rfl rfl ?_
  refine ex_aload_n 0 (pc' := 35) dX2_init_34 rfl rfl rfl ?_
  refine ex_getI (pc' := 38) dX2_init_35 fl_X2_15 rfl hk2 rfl ?_
  have hs2 : (nwI (upI I a0 0 (tabI 3 (Int32.toNatClampNeg v1))) (a0 + 1)) a0 0 = tabI 3 (Int32.toNatClampNeg v1) := by simp [upI, nwI]
  rw [hs2]
  refine ex_newL (N := n) (pc' := 40) dX2_init_38 acL hn0 hn (by omega) ⟨Nat.le_of_ble_eq_true rfl, by show 1848 + n ≤ 4650; omega⟩ rfl ?_
  refine ex_widen (kn' := (3, 2772)) (Nat.le_of_ble_eq_true rfl) (by show 1848 + n ≤ 2772; omega) ?_
  show Ex G mX2_init rmX2_init Q (3, 2772) ((nwK (nwK (nwK X.1 (a0 + 1) (2, n)) (a0 + 2) (3, n)) (a0 + 3) (3, n)), (upF (upF X.2.1 a0 1 (some (a0 + 1))) a0 2 (some (a0 + 2))), a0 + 4) (nwI (upI I a0 0 (tabI 3 (Int32.toNatClampNeg v1))) (a0 + 1)) (nwL (nwL L (a0 + 2)) (a0 + 3)) 40 [(0, .ref (gB G + a0)), (1, .int v1)] [.ref (gB G + (a0 + 3)), .ref (gB G + a0)]
  have hk3 : (nwK (nwK (nwK X.1 (a0 + 1) (2, n)) (a0 + 2) (3, n)) (a0 + 3) (3, n)) a0 = (1, 2) := (nwK_ne (by omega)).trans hk2
  refine ex_putFR (pc' := 43) dX2_init_40 fl_X2_26 rfl coX2 rfl rfl hk3 rfl ?_
  show Ex G mX2_init rmX2_init Q (3, 2772) ((nwK (nwK (nwK X.1 (a0 + 1) (2, n)) (a0 + 2) (3, n)) (a0 + 3) (3, n)), (upF (upF (upF X.2.1 a0 1 (some (a0 + 1))) a0 2 (some (a0 + 2))) a0 4 (some (a0 + 3))), a0 + 4) (nwI (upI I a0 0 (tabI 3 (Int32.toNatClampNeg v1))) (a0 + 1)) (nwL (nwL L (a0 + 2)) (a0 + 3)) 43 [(0, .ref (gB G + a0)), (1, .int v1)] []
  refine ex_aload_n 0 (pc' := 44) dX2_init_43 rfl rfl rfl ?_
  refine ex_aload_n 0 (pc' := 45) dX2_init_44 rfl rfl rfl ?_
  refine ex_getI (pc' := 48) dX2_init_45 fl_X2_15 rfl hk3 rfl ?_
  have hs3 : (nwI (upI I a0 0 (tabI 3 (Int32.toNatClampNeg v1))) (a0 + 1)) a0 0 = tabI 3 (Int32.toNatClampNeg v1) := by simp [upI, nwI]
  rw [hs3]
  refine ex_newI (N := n) (pc' := 50) dX2_init_48 acI hn0 hn (by omega) ⟨Nat.le_of_ble_eq_true rfl, by show 2772 + n ≤ 4650; omega⟩ rfl ?_
  refine ex_widen (kn' := (4, 3696)) (Nat.le_of_ble_eq_true rfl) (by show 2772 + n ≤ 3696; omega) ?_
  show Ex G mX2_init rmX2_init Q (4, 3696) ((nwK (nwK (nwK (nwK X.1 (a0 + 1) (2, n)) (a0 + 2) (3, n)) (a0 + 3) (3, n)) (a0 + 4) (2, n)), (upF (upF (upF X.2.1 a0 1 (some (a0 + 1))) a0 2 (some (a0 + 2))) a0 4 (some (a0 + 3))), a0 + 5) (nwI (nwI (upI I a0 0 (tabI 3 (Int32.toNatClampNeg v1))) (a0 + 1)) (a0 + 4)) (nwL (nwL L (a0 + 2)) (a0 + 3)) 50 [(0, .ref (gB G + a0)), (1, .int v1)] [.ref (gB G + (a0 + 4)), .ref (gB G + a0)]
  have hk4 : (nwK (nwK (nwK (nwK X.1 (a0 + 1) (2, n)) (a0 + 2) (3, n)) (a0 + 3) (3, n)) (a0 + 4) (2, n)) a0 = (1, 2) := (nwK_ne (by omega)).trans hk3
  refine ex_putFR (pc' := 53) dX2_init_50 fl_X2_29 rfl coX2 rfl rfl hk4 rfl ?_
  show Ex G mX2_init rmX2_init Q (4, 3696) ((nwK (nwK (nwK (nwK X.1 (a0 + 1) (2, n)) (a0 + 2) (3, n)) (a0 + 3) (3, n)) (a0 + 4) (2, n)), (upF (upF (upF (upF X.2.1 a0 1 (some (a0 + 1))) a0 2 (some (a0 + 2))) a0 4 (some (a0 + 3))) a0 5 (some (a0 + 4))), a0 + 5) (nwI (nwI (upI I a0 0 (tabI 3 (Int32.toNatClampNeg v1))) (a0 + 1)) (a0 + 4)) (nwL (nwL L (a0 + 2)) (a0 + 3)) 53 [(0, .ref (gB G + a0)), (1, .int v1)] []
  refine ex_aload_n 0 (pc' := 54) dX2_init_53 rfl rfl rfl ?_
  refine ex_aload_n 0 (pc' := 55) dX2_init_54 rfl rfl rfl ?_
  refine ex_getI (pc' := 58) dX2_init_55 fl_X2_15 rfl hk4 rfl ?_
  have hs4 : (nwI (nwI (upI I a0 0 (tabI 3 (Int32.toNatClampNeg v1))) (a0 + 1)) (a0 + 4)) a0 0 = tabI 3 (Int32.toNatClampNeg v1) := by simp [upI, nwI]
  rw [hs4]
  refine ex_newI (N := n) (pc' := 60) dX2_init_58 acI hn0 hn (by omega) ⟨Nat.le_of_ble_eq_true rfl, by show 3696 + n ≤ 4650; omega⟩ rfl ?_
  refine ex_widen (kn' := (5, 4620)) (Nat.le_of_ble_eq_true rfl) (by show 3696 + n ≤ 4620; omega) ?_
  show Ex G mX2_init rmX2_init Q (5, 4620) ((nwK (nwK (nwK (nwK (nwK X.1 (a0 + 1) (2, n)) (a0 + 2) (3, n)) (a0 + 3) (3, n)) (a0 + 4) (2, n)) (a0 + 5) (2, n)), (upF (upF (upF (upF X.2.1 a0 1 (some (a0 + 1))) a0 2 (some (a0 + 2))) a0 4 (some (a0 + 3))) a0 5 (some (a0 + 4))), a0 + 6) (nwI (nwI (nwI (upI I a0 0 (tabI 3 (Int32.toNatClampNeg v1))) (a0 + 1)) (a0 + 4)) (a0 + 5)) (nwL (nwL L (a0 + 2)) (a0 + 3)) 60 [(0, .ref (gB G + a0)), (1, .int v1)] [.ref (gB G + (a0 + 5)), .ref (gB G + a0)]
  have hk5 : (nwK (nwK (nwK (nwK (nwK X.1 (a0 + 1) (2, n)) (a0 + 2) (3, n)) (a0 + 3) (3, n)) (a0 + 4) (2, n)) (a0 + 5) (2, n)) a0 = (1, 2) := (nwK_ne (by omega)).trans hk4
  refine ex_putFR (pc' := 63) dX2_init_60 fl_X2_32 rfl coX2 rfl rfl hk5 rfl ?_
  show Ex G mX2_init rmX2_init Q (5, 4620) ((nwK (nwK (nwK (nwK (nwK X.1 (a0 + 1) (2, n)) (a0 + 2) (3, n)) (a0 + 3) (3, n)) (a0 + 4) (2, n)) (a0 + 5) (2, n)), (upF (upF (upF (upF (upF X.2.1 a0 1 (some (a0 + 1))) a0 2 (some (a0 + 2))) a0 4 (some (a0 + 3))) a0 5 (some (a0 + 4))) a0 6 (some (a0 + 5))), a0 + 6) (nwI (nwI (nwI (upI I a0 0 (tabI 3 (Int32.toNatClampNeg v1))) (a0 + 1)) (a0 + 4)) (a0 + 5)) (nwL (nwL L (a0 + 2)) (a0 + 3)) 63 [(0, .ref (gB G + a0)), (1, .int v1)] []
  refine ex_iload_n 1 (pc' := 64) dX2_init_63 rfl rfl rfl ?_
  refine ex_newI (N := sd) (pc' := 66) dX2_init_64 acI hv0 hsd (by omega) ⟨Nat.le_of_ble_eq_true rfl, by show 4620 + sd ≤ 4650; omega⟩ rfl ?_
  refine ex_widen (kn' := (6, 4630)) (Nat.le_of_ble_eq_true rfl) (by show 4620 + sd ≤ 4630; omega) ?_
  show Ex G mX2_init rmX2_init Q (6, 4630) ((nwK (nwK (nwK (nwK (nwK (nwK X.1 (a0 + 1) (2, n)) (a0 + 2) (3, n)) (a0 + 3) (3, n)) (a0 + 4) (2, n)) (a0 + 5) (2, n)) (a0 + 6) (2, sd)), (upF (upF (upF (upF (upF X.2.1 a0 1 (some (a0 + 1))) a0 2 (some (a0 + 2))) a0 4 (some (a0 + 3))) a0 5 (some (a0 + 4))) a0 6 (some (a0 + 5))), a0 + 7) (nwI (nwI (nwI (nwI (upI I a0 0 (tabI 3 (Int32.toNatClampNeg v1))) (a0 + 1)) (a0 + 4)) (a0 + 5)) (a0 + 6)) (nwL (nwL L (a0 + 2)) (a0 + 3)) 66 [(0, .ref (gB G + a0)), (1, .int v1)] [.ref (gB G + (a0 + 6))]
  refine ex_astore_n (lv' := [(2, .ref (gB G + (a0 + 6))), (0, .ref (gB G + a0)), (1, .int v1)]) (pc' := 67) dX2_init_66 rfl (Nat.le_of_ble_eq_true rfl) rfl rfl ?_
  refine ex_bipush (v := 7) (pc' := 69) dX2_init_67 bp_7 rfl ?_
  refine ex_newI (N := 7) (pc' := 71) dX2_init_69 acI (by decide) (by decide) (by decide) ⟨Nat.le_of_ble_eq_true rfl, Nat.le_of_ble_eq_true rfl⟩ rfl ?_
  refine ex_widen (kn' := (7, 4650)) (Nat.le_of_ble_eq_true rfl) (Nat.le_of_ble_eq_true rfl) ?_
  show Ex G mX2_init rmX2_init Q (7, 4650) (ladX0 X a0 n sd) (nwI (nwI (nwI (nwI (nwI (upI I a0 0 (tabI 3 (Int32.toNatClampNeg v1))) (a0 + 1)) (a0 + 4)) (a0 + 5)) (a0 + 6)) (a0 + 7)) (nwL (nwL L (a0 + 2)) (a0 + 3)) 71 [(2, .ref (gB G + (a0 + 6))), (0, .ref (gB G + a0)), (1, .int v1)] [.ref (gB G + (a0 + 7))]
  refine ex_astore_n (lv' := [(3, .ref (gB G + (a0 + 7))), (2, .ref (gB G + (a0 + 6))), (0, .ref (gB G + a0)), (1, .int v1)]) (pc' := 72) dX2_init_71 rfl (Nat.le_of_ble_eq_true rfl) rfl rfl ?_
  refine ex_iconst (v := 0) (pc' := 73) dX2_init_72 ic_0 rfl ?_
  refine ex_istore (lv' := [(4, .int 0), (3, .ref (gB G + (a0 + 7))), (2, .ref (gB G + (a0 + 6))), (0, .ref (gB G + a0)), (1, .int v1)]) (pc' := 75) dX2_init_73 (Nat.le_of_ble_eq_true rfl) rfl rfl ?_
  obtain ⟨s0, s2, s3⟩ := ladX0_sh (n := n) (sd := sd) hk
  exact ex_sub [3, 2, 1, 0] rfl (k_X2_init_t s0 s2 s3 hf hR)
theorem k_X2_init (G : GX) {X : MX} {a0 : Nat} {v1 : Int32} {n sd : Nat} (hk : X.1 a0 = (1, 2)) (hz : X.2.2 = a0 + 1) (hv : inb v1 7 = true) (hn : Int32.toNatClampNeg (tabI 3 (Int32.toNatClampNeg v1)) = n) (hn0 : ¬ tabI 3 (Int32.toNatClampNeg v1) < 0) (hn9 : n ≤ 924) (hv0 : ¬ v1 < 0) (hsd : Int32.toNatClampNeg v1 = sd) (hs6 : sd ≤ 6) {N : Nat} {I : MI} {L : ML} {I' : MI} {L' : ML} (hf : f_X2_init N a0 v1 n sd I L = some (I', L')) : Con G mX2_init yX2_init rmX2_init (fun B => [.ref (B + a0), .int v1]) X I L none (ladX0 X a0 n sd) I' L' :=
  Con.of (by decide) rfl (fun _ => rfl) (fun B => Nat.le_of_ble_eq_true rfl) (fun G => kb_X2_init hk hz hv hn hn0 hn9 hv0 hsd hs6 hf (fun _ _ he => by cases he; rfl))
def rmX10_ladderOf : RM := ((3, 72, 8, 4700), false, some (.object "RookWords$Ladder"))
def ladN (v : Int32) : Nat := Int32.toNatClampNeg (tabI 3 (Int32.toNatClampNeg v))
/-- the shape with a Ladder's object new at the end -/
def ladX1 (X : MX) : MX := (nwK X.1 X.2.2 (1, 2), nwF X.2.1 X.2.2, X.2.2 + 1)
def ladX (X : MX) (v : Int32) : MX := ((ladX0 (ladX1 X) X.2.2 (ladN v) (Int32.toNatClampNeg v)).1, upF (ladX0 (ladX1 X) X.2.2 (ladN v) (Int32.toNatClampNeg v)).2.1 97 (Int32.toNatClampNeg v) (some X.2.2), X.2.2 + 8)
def f_X10_ladderOf (N : Nat) (v1 : Int32) (X : MX) (I : MI) (L : ML) : Option (Nat × MX × MI × ML) :=
  if inb v1 7 then (match X.2.1 97 (Int32.toNatClampNeg v1) with
    | some q => some (q, X, I, L)
    | none => if X.2.2 ≤ 97 then none else bnd2 (f_X2_init N X.2.2 v1 (ladN v1) (Int32.toNatClampNeg v1) (nwI I X.2.2) L) fun I' L' => some (X.2.2, ladX X v1, I', L')) else none
theorem tab3 (k : Nat) : ¬ tabI 3 k < 0 ∧ Int32.toNatClampNeg (tabI 3 k) ≤ 924 := by
  by_cases h : k < 7
  · rcases (show k = 0 ∨ k = 1 ∨ k = 2 ∨ k = 3 ∨ k = 4 ∨ k = 5 ∨ k = 6 by omega) with rfl | rfl | rfl | rfl | rfl | rfl | rfl <;> exact ⟨by decide, by decide⟩
  · have : tabI 3 k = 0 := by
      show ([1, 2, 6, 20, 70, 252, 924] : List Int32).getD k 0 = 0
      rw [List.getD_eq_getElem?_getD, List.getElem?_eq_none (show ([1, 2, 6, 20, 70, 252, 924] : List Int32).length ≤ k by show 7 ≤ k; omega)]
      rfl
    rw [this]; exact ⟨by decide, by decide⟩
section LN
variable {G : GX} {mt : MT} {rm : RM} {Q : State → Prop} {kn : Nat × Nat} {X : MX} {I : MI} {L : ML} {pc pc' : Nat} {lv lv' : List (Nat × Value)} {st : List Value}
theorem ex_astoreN_n {k : Fin 4} {i : Nat} (hd : decode mt.2.1 pc = .ok (.astore_n k, 1)) (hk : (k : Nat) = i) (hn : i < mt.2.2) (hf : (i, Value.null) :: lv.filter (fun q => !(q.1 == i) && !(q.1 + 1 == i && q.2.category == 2)) = lv') (hp : pc + 1 = pc') (kk : Ex G mt rm Q kn X I L pc' lv' st) : Ex G mt rm Q kn X I L pc lv (.null :: st) := by
  obtain ⟨⟨p, l, e, R, s⟩, ⟨m, ar, below, meth, c⟩, ⟨D, dA, B, tS⟩⟩ := G
  intro hc H locs ls hH hS hl
  subst hp
  exact lv_astore_nN hc.1 hc.2.1 hd hk hl hn hf (fun ls' hl' => kk hc H locs ls' hH hS hl')
theorem ex_aload_nN {k : Fin 4} {i : Nat} (j : Nat) (hd : decode mt.2.1 pc = .ok (.aload_n k, 1)) (hk : (k : Nat) = i) (hj : lv[j]? = some (i, .null)) (hp : pc + 1 = pc') (kk : Ex G mt rm Q kn X I L pc' lv (.null :: st)) : Ex G mt rm Q kn X I L pc lv st := by
  obtain ⟨⟨p, l, e, R, s⟩, ⟨m, ar, below, meth, c⟩, ⟨D, dA, B, tS⟩⟩ := G
  intro hc H locs ls hH hS hl
  subst hp
  exact lv_aload_nN hc.1 hc.2.1 hd hk (lv_at hl j hj) (kk hc H locs ls hH hS hl)
end LN
theorem lad_lo {X : MX} {n sd b : Nat} (h : b < X.2.2) : (ladX0 (ladX1 X) X.2.2 n sd).1 b = X.1 b ∧ ∀ j, (ladX0 (ladX1 X) X.2.2 n sd).2.1 b j = X.2.1 b j := by
  have e0 : b ≠ X.2.2 := by omega
  refine ⟨?_, fun j => ?_⟩
  · show nwK (nwK (nwK (nwK (nwK (nwK (nwK (nwK X.1 X.2.2 (1, 2)) _ _) _ _) _ _) _ _) _ _) _ _) _ _ b = _
    rw [nwK_ne (by omega), nwK_ne (by omega), nwK_ne (by omega), nwK_ne (by omega), nwK_ne (by omega), nwK_ne (by omega), nwK_ne (by omega), nwK_ne (by omega)]
  · simp [ladX0, ladX1, upF, nwF, e0]
theorem lad_hi {X : MX} {n sd b : Nat} (hs : ∀ b, X.2.2 ≤ b → X.1 b = (0, 0)) (h : X.2.2 + 8 ≤ b) : (ladX0 (ladX1 X) X.2.2 n sd).1 b = (0, 0) := by
  show nwK (nwK (nwK (nwK (nwK (nwK (nwK (nwK X.1 X.2.2 (1, 2)) _ _) _ _) _ _) _ _) _ _) _ _) _ _ b = _
  rw [nwK_ne (by omega), nwK_ne (by omega), nwK_ne (by omega), nwK_ne (by omega), nwK_ne (by omega), nwK_ne (by omega), nwK_ne (by omega), nwK_ne (by omega)]
  exact hs b (by omega)
theorem ladX_ext {X : MX} {v : Int32} (hM : shX10 X) : extX X (ladX X v) ∧ (∀ b, (ladX X v).2.2 ≤ b → (ladX X v).1 b = (0, 0)) ∧ shX2 (ladX X v) X.2.2 (ladN v) := by
  have hZ := sh10_Z hM
  refine ⟨⟨Nat.le_add_right _ _, fun b hb => ⟨(lad_lo hb).1, fun h97 j => ?_⟩⟩, fun b hb => lad_hi (sh10_S hM) hb, ?_⟩
  · show upF _ 97 _ _ b j = _
    rw [upF_ne b j (Or.inl h97)]
    exact (lad_lo hb).2 j
  · obtain ⟨s0, -, -⟩ := ladX0_sh (X := ladX1 X) (a0 := X.2.2) (n := ladN v) (sd := Int32.toNatClampNeg v) nwK_eq
    have hne : X.2.2 ≠ 97 := by omega
    have hF : ∀ j, (ladX X v).2.1 X.2.2 j = (ladX0 (ladX1 X) X.2.2 (ladN v) (Int32.toNatClampNeg v)).2.1 X.2.2 j := fun j => upF_ne _ _ (Or.inl hne)
    obtain ⟨q0, q1, q2, q3, q4, q5, q6, q7, q8, q9, q10⟩ := s0
    exact ⟨q0, (hF 1).trans q1, q2, (hF 2).trans q3, q4, (hF 4).trans q5, q6, (hF 5).trans q7, q8, (hF 6).trans q9, q10⟩
/-- what ladderOf leaves of the shapes -/
theorem ladderOf_ext {X X' : MX} {N q : Nat} {v : Int32} {I I' : MI} {L L' : ML} (hM : shX10 X) (h : f_X10_ladderOf N v X I L = some (q, X', I', L')) : shX10 X' ∧ shX2 X' q (Int32.toNatClampNeg (tabI 3 (Int32.toNatClampNeg v))) ∧ extX X X' ∧ (∀ b, X'.2.2 ≤ b → X'.1 b = (0, 0)) := by
  unfold f_X10_ladderOf at h
  obtain ⟨hg, h⟩ := of_guard h
  cases hF : X.2.1 97 (Int32.toNatClampNeg v) with
  | some q0 =>
    rw [hF] at h
    cases h
    exact ⟨hM, sh10_E8 hM _ _ hF, ⟨Nat.le_refl _, fun b _ => ⟨rfl, fun _ _ => rfl⟩⟩, sh10_S hM⟩
  | none =>
    rw [hF] at h
    obtain ⟨hz97, h⟩ := of_guardN h
    obtain ⟨I1, L1, hq, h⟩ := of_bnd2 h
    cases h
    obtain ⟨e1, e2, e3⟩ := ladX_ext (v := v) hM
    refine ⟨sh10_ext hM e1 e2 (fun i q hi => ?_), e3, e1, e2⟩
    have hu : (ladX X v).2.1 97 i = if i = Int32.toNatClampNeg v then some X.2.2 else X.2.1 97 i := by
      show upF _ 97 _ _ 97 i = _
      rw [upF_at]
      by_cases hi2 : i = Int32.toNatClampNeg v
      · rw [if_pos hi2, if_pos hi2]
      · rw [if_neg hi2, if_neg hi2]
        exact (lad_lo (by have := sh10_Z hM; omega)).2 i
    rw [hu] at hi
    by_cases hi2 : i = Int32.toNatClampNeg v
    · rw [if_pos hi2] at hi
      cases hi
      subst hi2
      exact e3
    · rw [if_neg hi2] at hi
      exact sh2_ext (sh10_S hM) (sh10_T8 hM) e1 (sh10_E8 hM _ _ hi)
theorem ladderOf_shape {X X' : MX} {N q : Nat} {v : Int32} {I I' : MI} {L L' : ML} (hM : shX10 X) (h : f_X10_ladderOf N v X I L = some (q, X', I', L')) : shX10 X' ∧ shX2 X' q (Int32.toNatClampNeg (tabI 3 (Int32.toNatClampNeg v))) := ⟨(ladderOf_ext hM h).1, (ladderOf_ext hM h).2.1⟩
set_option maxRecDepth 100000 in
set_option maxHeartbeats 4000000 in
theorem kb_X10_ladderOf {G : GX} {Q : State → Prop} {X : MX} (hM : shX10 X) {v1 : Int32} {N : Nat} {I : MI} {L : ML} {out : Nat × MX × MI × ML} (hf : f_X10_ladderOf N v1 X I L = some out) (hR : ∀ (q : Nat) (X' : MX) (I' : MI) (L' : ML), out = (q, X', I', L') → Q = RetQ G (some (.ref (gB G + q))) X' I' L' (8, 4700)) : Ex G mX10_ladderOf rmX10_ladderOf Q (0, 0) X I L 0 [(0, .ref (gB G + 0)), (1, .int v1)] [] := by
  unfold f_X10_ladderOf at hf
  obtain ⟨hg, hf⟩ := of_guard hf
  refine ex_aload_n 0 (pc' := 1) dX10_ladderOf_0 rfl rfl rfl ?_
  refine ex_getR (a' := 97) (pc' := 4) dX10_ladderOf_1 fl_X10_58 rfl (sh10_k hM) (sh10_F8 hM) rfl ?_
  refine ex_iload_n 1 (pc' := 5) dX10_ladderOf_4 rfl rfl rfl ?_
  cases hF : X.2.1 97 (Int32.toNatClampNeg v1) with
  | some q =>
    rw [hF] at hf
    refine ex_aaldS (pc' := 6) dX10_ladderOf_5 (sh10_T8 hM) (by decide) (by decide) (inb_in hg) hF rfl ?_
    refine ex_astore_n (lv' := [(2, .ref (gB G + q)), (0, .ref (gB G + 0)), (1, .int v1)]) (pc' := 7) dX10_ladderOf_6 rfl (Nat.le_of_ble_eq_true rfl) rfl rfl ?_
    refine ex_aload_n 0 (pc' := 8) dX10_ladderOf_7 rfl rfl rfl ?_
    refine ex_ifnonnull (tgt := 27) dX10_ladderOf_8 (by decide) ?_
    refine ex_aload_n 0 (pc' := 28) dX10_ladderOf_27 rfl rfl rfl ?_
    refine ex_widen (kn' := (8, 4700)) (Nat.le_of_ble_eq_true rfl) (Nat.le_of_ble_eq_true rfl) ?_
    exact ex_aret dX10_ladderOf_28 rfl (Or.inl ⟨_, rfl⟩) (hR _ _ _ _ (Option.some.inj hf).symm)
  | none =>
    rw [hF] at hf
    obtain ⟨hz97, hf⟩ := of_guardN hf
    obtain ⟨I', L', hq, hf⟩ := of_bnd2 hf
    refine ex_aald (v := .null) (pc' := 6) dX10_ladderOf_5 (sh10_T8 hM) (by decide) (by decide) (inb_in hg) (by rw [hF]; rfl) rfl ?_
    refine ex_astoreN_n (lv' := [(2, .null), (0, .ref (gB G + 0)), (1, .int v1)]) (pc' := 7) dX10_ladderOf_6 rfl (Nat.le_of_ble_eq_true rfl) rfl rfl ?_
    refine ex_aload_nN 0 (pc' := 8) dX10_ladderOf_7 rfl rfl rfl ?_
    refine ex_ifnonnullN (pc' := 11) dX10_ladderOf_8 rfl ?_
    refine ex_new (pc' := 14) dX10_ladderOf_11 cn_X10_56 ⟨Nat.le_of_ble_eq_true rfl, Nat.le_of_ble_eq_true rfl⟩ rfl ?_
    show Ex G mX10_ladderOf rmX10_ladderOf Q (1, 7) (ladX1 X) (nwI I X.2.2) L 14 [(2, .null), (0, .ref (gB G + 0)), (1, .int v1)] [.ref (gB G + X.2.2)]
    refine ex_dup (pc' := 15) dX10_ladderOf_14 rfl rfl ?_
    refine ex_iload_n 2 (pc' := 16) dX10_ladderOf_15 rfl rfl rfl ?_
    have hv0 : ¬ v1 < 0 := fun h => inb_in hg (Or.inl h)
    have hl7 := inb_lt hg
    have hcon := k_X2_init G (X := ladX1 X) (a0 := X.2.2) nwK_eq rfl hg rfl (tab3 _).1 (tab3 _).2 hv0 rfl (by omega) hq
    refine ex_callI (rm' := rmX2_init) (st := [.ref (gB G + X.2.2)]) (pc' := 19) [.int v1] dX10_ladderOf_16 cl_X10_365 rfl hcon rfl rfl rfl (ROOM_of rfl) (Nat.le_of_ble_eq_true rfl) rfl ?_
    refine ex_widen (kn' := (8, 4700)) (Nat.le_of_ble_eq_true rfl) (Nat.le_of_ble_eq_true rfl) ?_
    show Ex G mX10_ladderOf rmX10_ladderOf Q (8, 4700) (ladX0 (ladX1 X) X.2.2 (ladN v1) (Int32.toNatClampNeg v1)) I' L' 19 [(2, .null), (0, .ref (gB G + 0)), (1, .int v1)] [.ref (gB G + X.2.2)]
    refine ex_astore_n (lv' := [(2, .ref (gB G + X.2.2)), (0, .ref (gB G + 0)), (1, .int v1)]) (pc' := 20) dX10_ladderOf_19 rfl (Nat.le_of_ble_eq_true rfl) rfl rfl ?_
    refine ex_aload_n 1 (pc' := 21) dX10_ladderOf_20 rfl rfl rfl ?_
    have l0 := lad_lo (X := X) (n := ladN v1) (sd := Int32.toNatClampNeg v1) (b := 0) (by omega)
    have l97 := lad_lo (X := X) (n := ladN v1) (sd := Int32.toNatClampNeg v1) (b := 97) (by omega)
    refine ex_getR (a' := 97) (pc' := 24) dX10_ladderOf_21 fl_X10_58 rfl (l0.1.trans (sh10_k hM)) ((l0.2 8).trans (sh10_F8 hM)) rfl ?_
    refine ex_iload_n 2 (pc' := 25) dX10_ladderOf_24 rfl rfl rfl ?_
    refine ex_aload_n 0 (pc' := 26) dX10_ladderOf_25 rfl rfl rfl ?_
    refine ex_aast (t := 7) (a := 97) (pc' := 27) dX10_ladderOf_26 (l97.1.trans (sh10_T8 hM)) (by decide) (by decide) (sh2_k (ladX0_sh nwK_eq).1) (inb_in hg) rfl ?_
    refine ex_aload_n 0 (pc' := 28) dX10_ladderOf_27 rfl rfl rfl ?_
    exact ex_aret dX10_ladderOf_28 rfl (Or.inl ⟨_, rfl⟩) (hR _ _ _ _ (Option.some.inj hf).symm)
theorem k_X10_ladderOf (G : GX) {X : MX} (hM : shX10 X) {v1 : Int32} {N q : Nat} {I : MI} {L : ML} {X' : MX} {I' : MI} {L' : ML} (hf : f_X10_ladderOf N v1 X I L = some (q, X', I', L')) : Con G mX10_ladderOf yX10_ladderOf rmX10_ladderOf (fun B => [.ref (B + 0), .int v1]) X I L (some (.ref (gB G + q))) X' I' L' :=
  Con.of2 (by decide) rfl (fun h => by cases h) (fun B => Nat.le_of_ble_eq_true rfl) (fun G' hB => kb_X10_ladderOf hM hf (fun q _ _ _ he => by cases he; exact congrArg (fun b => RetQ G' (some (.ref (b + q))) X' I' L' (8, 4700)) hB.symm))
