theorem co_X6_30 : Cond.constantLong RX6 30 (1000000000000000) ∈ lwg := lwg_at 420 (by decide +kernel) rfl
theorem co_X6_32 : Cond.constantLong RX6 32 (-1000000000000000) ∈ lwg := lwg_at 421 (by decide +kernel) rfl
-- X6_isBeyond ('RookWords$Sum', 'isBeyond', '(J)Z')
def rmX6_isBeyond : RM := ((0, 0, 0, 0), false, (some FieldType.boolean))
def f_X6_isBeyond (v0 : Int64) : Option (Int32) := (if 1000000000000000 < v0 then some 1 else (if v0 < (-1000000000000000) then some 1 else some 0))
set_option maxRecDepth 100000 in
set_option maxHeartbeats 4000000 in
theorem kb_X6_isBeyond {G : GX} {Q : State → Prop} {X : MX} {v0 : Int64}  {I : MI} {L : ML} {out : Int32} (hf : f_X6_isBeyond v0 = some out) (hR : ∀ (z : Int32), out = z → Q = RetQ G (some (.int z)) X I L (0, 0)) : Ex G mX6_isBeyond rmX6_isBeyond Q (0, 0) X I L 0 [(0, .long v0)] [] := by
  unfold f_X6_isBeyond at hf
  refine ex_lload_n 0 (pc' := 1) dX6_isBeyond_0 rfl rfl rfl ?_
  refine ex_ldc2 (v := 1000000000000000) (pc' := 4) dX6_isBeyond_1 co_X6_30 rfl ?_
  refine ex_lcmp (pc' := 5) dX6_isBeyond_4 rfl ?_
  refine ex_lifgt (tgt := 16) (pc' := 8) dX6_isBeyond_5 (by decide) rfl (fun hc1 => ?_) (fun hc1 => ?_)
  · replace hf := if_t hc1 hf
    refine ex_iconst (v := 1) (pc' := 17) dX6_isBeyond_16 ic_1 rfl ?_
    refine ex_goto (tgt := 21) dX6_isBeyond_17 (by decide) ?_
    exact ex_zret dX6_isBeyond_21 rfl (Or.inr rfl) (hR _ (Option.some.inj hf).symm)
  · replace hf := if_f hc1 hf
    refine ex_lload_n 0 (pc' := 9) dX6_isBeyond_8 rfl rfl rfl ?_
    refine ex_ldc2 (v := (-1000000000000000)) (pc' := 12) dX6_isBeyond_9 co_X6_32 rfl ?_
    refine ex_lcmp (pc' := 13) dX6_isBeyond_12 rfl ?_
    refine ex_lifge (tgt := 20) (pc' := 16) dX6_isBeyond_13 (by decide) rfl (fun hc2 => ?_) (fun hc2 => ?_)
    · replace hf := if_t hc2 hf
      refine ex_iconst (v := 1) (pc' := 17) dX6_isBeyond_16 ic_1 rfl ?_
      refine ex_goto (tgt := 21) dX6_isBeyond_17 (by decide) ?_
      exact ex_zret dX6_isBeyond_21 rfl (Or.inr rfl) (hR _ (Option.some.inj hf).symm)
    · replace hf := if_f hc2 hf
      refine ex_iconst (v := 0) (pc' := 21) dX6_isBeyond_20 ic_0 rfl ?_
      exact ex_zret dX6_isBeyond_21 rfl (Or.inl rfl) (hR _ (Option.some.inj hf).symm)
set_option maxRecDepth 100000 in
set_option maxHeartbeats 4000000 in
theorem k_X6_isBeyond (G : GX) {X : MX} {v0 : Int64}  {I : MI} {L : ML} {z : Int32} (hf : f_X6_isBeyond v0 = some z) : Con G mX6_isBeyond yX6_isBeyond rmX6_isBeyond (fun B => [.long v0]) X I L (some (.int z)) X I L :=
  Con.of (by decide) rfl (fun h => by cases h) (fun B => Nat.le_of_ble_eq_true rfl) (fun G => kb_X6_isBeyond  hf (fun _ he => by cases he; rfl))
theorem sp_156 : (Int16.ofInt 156).toInt32 = 156 := by decide
theorem cl_X6_43 : CLS RX6 43 yX6_isBeyond mX6_isBeyond (some FieldType.boolean) 1 := ⟨⟨lwg_at 417 (by decide +kernel) rfl, lwg_at 418 (by decide +kernel) rfl, lwg_at 52 (by decide +kernel) rfl⟩, lwg_at 419 (by decide +kernel) rfl, ⟨by decide +kernel, by decide +kernel, by decide +kernel⟩⟩
-- X6_comingByUp ('RookWords$Sum', 'comingByUp', '()Z')
def rmX6_comingByUp : RM := ((1, 21, 0, 0), false, (some FieldType.boolean))
def f_X6_comingByUp_b2 (N : Nat) (a0 : Nat) (v1 : Int32) (L : ML) : Option ((Int32) ⊕ ((Unit) ⊕ (Int32 × ML))) := (if v1 < 13 then if inb (156 + v1) 169 then (if (L (a0 + 2) (Int32.toNatClampNeg (156 + v1))) = 0 then some (.inl (v1 + 1)) else some (.inr (.inr (0, L)))) else none else some (.inr (.inl ())))
set_option maxRecDepth 100000 in
set_option maxHeartbeats 4000000 in
theorem k_X6_comingByUp_b2 {G : GX} {Q : State → Prop} {X : MX} {a0 : Nat} (h0 : shX6 X a0) {v1 : Int32} {N : Nat} {I : MI} {L : ML} {out : (Int32) ⊕ ((Unit) ⊕ (Int32 × ML))} (hf : f_X6_comingByUp_b2 N a0 v1 L = some out) (hC : ∀ (v1' : Int32), out = .inl v1' → Ex G mX6_comingByUp rmX6_comingByUp Q (0, 0) X I L 2 [(0, .ref (gB G + a0)), (1, .int v1')] []) (hX : ∀ (u : Unit), out = .inr (.inl u) → Ex G mX6_comingByUp rmX6_comingByUp Q (0, 0) X I L 31 [(0, .ref (gB G + a0))] []) (hR : ∀ (z : Int32) (L' : ML), out = .inr (.inr (z, L')) → Q = RetQ G (some (.int z)) X I L' (0, 0)) : Ex G mX6_comingByUp rmX6_comingByUp Q (0, 0) X I L 2 [(0, .ref (gB G + a0)), (1, .int v1)] [] := by
  unfold f_X6_comingByUp_b2 at hf
  refine ex_iload_n 1 (pc' := 3) dX6_comingByUp_2 rfl rfl rfl ?_
  refine ex_bipush (v := 13) (pc' := 5) dX6_comingByUp_3 bp_13 rfl ?_
  refine ex_icmpge (tgt := 31) (pc' := 8) dX6_comingByUp_5 (by decide) rfl (fun hc1 => ?_) (fun hc1 => ?_)
  · replace hf := if_t hc1 hf
    refine ex_aload_n 0 (pc' := 9) dX6_comingByUp_8 rfl rfl rfl ?_
    refine ex_getR (pc' := 12) dX6_comingByUp_9 fl_X6_15 rfl (sh6_k h0) (sh6_F1 h0) rfl ?_
    refine ex_sipush (v := 156) (pc' := 15) dX6_comingByUp_12 sp_156 rfl ?_
    refine ex_iload_n 1 (pc' := 16) dX6_comingByUp_15 rfl rfl rfl ?_
    refine ex_iadd (pc' := 17) dX6_comingByUp_16 rfl ?_
    obtain ⟨hg2, hf⟩ := of_guard hf
    refine ex_lald (pc' := 18) dX6_comingByUp_17 (sh6_T1 h0) (inb_in hg2) rfl ?_
    refine ex_lconst (v := 0) (pc' := 19) dX6_comingByUp_18 lc_0 rfl ?_
    refine ex_lcmp (pc' := 20) dX6_comingByUp_19 rfl ?_
    refine ex_lifeq (tgt := 25) (pc' := 23) dX6_comingByUp_20 (by decide) rfl (fun hc3 => ?_) (fun hc3 => ?_)
    · replace hf := if_t hc3 hf
      refine ex_iincc (lv' := [(1, .int (v1 + 1)), (0, .ref (gB G + a0))]) 1 (pc' := 28) dX6_comingByUp_25 rfl ic_1 (Nat.le_of_ble_eq_true rfl) rfl rfl ?_
      refine ex_goto (tgt := 2) dX6_comingByUp_28 (by decide) ?_
      exact ex_sub [1, 0] rfl (hC _ (Option.some.inj hf).symm)
    · replace hf := if_f hc3 hf
      refine ex_iconst (v := 0) (pc' := 24) dX6_comingByUp_23 ic_0 rfl ?_
      exact ex_zret dX6_comingByUp_24 rfl (Or.inl rfl) (hR _ _ (Option.some.inj hf).symm)
  · replace hf := if_f hc1 hf
    exact ex_sub [0] rfl (hX _ (Option.some.inj hf).symm)
def f_X6_comingByUp_l2 (N : Nat) (a0 : Nat) (v1 : Int32) (L : ML) : Option ((Unit) ⊕ (Int32 × ML)) := loopN (fun s => f_X6_comingByUp_b2 N a0 s L) N v1
set_option maxRecDepth 100000 in
set_option maxHeartbeats 4000000 in
theorem k_X6_comingByUp_l2 {G : GX} {Q : State → Prop} {X : MX} {a0 : Nat} (h0 : shX6 X a0) {N0 : Nat} {I : MI} {L : ML} {out : ((Unit) ⊕ (Int32 × ML))} (hX : ∀ (u : Unit), out = .inl u → Ex G mX6_comingByUp rmX6_comingByUp Q (0, 0) X I L 31 [(0, .ref (gB G + a0))] []) (hR : ∀ (z : Int32) (L' : ML), out = .inr (z, L') → Q = RetQ G (some (.int z)) X I L' (0, 0)) : ∀ (N : Nat) (v1 : Int32), loopN (fun s => f_X6_comingByUp_b2 N0 a0 s L) N v1 = some out → Ex G mX6_comingByUp rmX6_comingByUp Q (0, 0) X I L 2 [(0, .ref (gB G + a0)), (1, .int v1)] [] := by
  intro N
  induction N with
  | zero => intro v1 hf; exact absurd (loopN_zero hf) id
  | succ n ih =>
    intro v1 hf
    rcases loopN_succ hf with ⟨s, hb, hl⟩ | hb
    · skip
      refine k_X6_comingByUp_b2 h0 hb (fun _ he => ?_) (fun _ he => by cases he) (fun _ _ he => by cases he)
      cases he
      exact ih s hl
    · exact k_X6_comingByUp_b2 h0 hb (fun _ he => by cases he) (fun x0 he => hX x0 (Sum.inr.inj he)) (fun z0 z1 he => hR z0 z1 (Sum.inr.inj he))
def f_X6_comingByUp_b40_j96 (N : Nat) (a0 : Nat) (v1 : Int32) (v2 : Int32) (v3 : Int64) (s0 : Int64) (L : ML) : Option ((Int32 × ML) ⊕ ((ML) ⊕ (Int32 × ML))) := if inb ((v1 * 13) + v2) 169 then letv (upL L (a0 + 2) (Int32.toNatClampNeg ((v1 * 13) + v2)) (v3 + s0)) fun L13 => bnd1 (f_X6_isBeyond (v3 + s0)) fun r14 => (if r14 = 0 then some (.inl (v2 + 1, L13)) else some (.inr (.inr (0, L13)))) else none
set_option maxRecDepth 100000 in
set_option maxHeartbeats 4000000 in
theorem k_X6_comingByUp_b40_j96 {G : GX} {Q : State → Prop} {X : MX} {a0 : Nat} {v1 : Int32} {v2 : Int32} {v3 : Int64} {s0 : Int64}  (h0 : shX6 X a0) {N : Nat} {I : MI} {L : ML} {out : (Int32 × ML) ⊕ ((ML) ⊕ (Int32 × ML))} (hf : f_X6_comingByUp_b40_j96 N a0 v1 v2 v3 s0 L = some out) (hC : ∀ (v2' : Int32) (L' : ML), out = .inl (v2', L') → Ex G mX6_comingByUp rmX6_comingByUp Q (0, 0) X I L' 40 [(0, .ref (gB G + a0)), (1, .int v1), (2, .int v2')] []) (hX : ∀ (L' : ML), out = .inr (.inl L') → Ex G mX6_comingByUp rmX6_comingByUp Q (0, 0) X I L' 131 [(0, .ref (gB G + a0)), (1, .int v1)] []) (hR : ∀ (z : Int32) (L' : ML), out = .inr (.inr (z, L')) → Q = RetQ G (some (.int z)) X I L' (0, 0)) : Ex G mX6_comingByUp rmX6_comingByUp Q (0, 0) X I L 96 [(0, .ref (gB G + a0)), (1, .int v1), (2, .int v2), (3, .long v3)] [.long s0] := by
  unfold f_X6_comingByUp_b40_j96 at hf
  refine ex_lstore (lv' := [(5, .long s0), (0, .ref (gB G + a0)), (1, .int v1), (2, .int v2), (3, .long v3)]) (pc' := 98) dX6_comingByUp_96 (Nat.le_of_ble_eq_true rfl) rfl rfl ?_
  refine ex_aload_n 1 (pc' := 99) dX6_comingByUp_98 rfl rfl rfl ?_
  refine ex_getR (pc' := 102) dX6_comingByUp_99 fl_X6_15 rfl (sh6_k h0) (sh6_F1 h0) rfl ?_
  refine ex_iload_n 2 (pc' := 103) dX6_comingByUp_102 rfl rfl rfl ?_
  refine ex_bipush (v := 13) (pc' := 105) dX6_comingByUp_103 bp_13 rfl ?_
  refine ex_imul (pc' := 106) dX6_comingByUp_105 rfl ?_
  refine ex_iload_n 3 (pc' := 107) dX6_comingByUp_106 rfl rfl rfl ?_
  refine ex_iadd (pc' := 108) dX6_comingByUp_107 rfl ?_
  refine ex_lload_n 4 (pc' := 109) dX6_comingByUp_108 rfl rfl rfl ?_
  refine ex_lload 0 (pc' := 111) dX6_comingByUp_109 rfl rfl ?_
  refine ex_ladd (pc' := 112) dX6_comingByUp_111 rfl ?_
  obtain ⟨hg12, hf⟩ := of_guard hf
  refine ex_last (pc' := 113) dX6_comingByUp_112 (sh6_T1 h0) (inb_in hg12) rfl ?_
  obtain ⟨L13, hL13, hf⟩ := of_let hf
  rw [← hL13]
  refine ex_lload_n 4 (pc' := 114) dX6_comingByUp_113 rfl rfl rfl ?_
  refine ex_lload 0 (pc' := 116) dX6_comingByUp_114 rfl rfl ?_
  refine ex_ladd (pc' := 117) dX6_comingByUp_116 rfl ?_
  obtain ⟨r14, hq15, hf⟩ := of_bnd1 hf
  refine ex_callS_i (rm' := rmX6_isBeyond) (st := []) (pc' := 120) [.long (v3 + s0)] dX6_comingByUp_117 cl_X6_43 (k_X6_isBeyond G hq15) rfl rfl rfl (ROOM_of rfl) (Nat.le_of_ble_eq_true rfl) rfl rfl ?_
  refine ex_ifeq (tgt := 125) (pc' := 123) dX6_comingByUp_120 (by decide) rfl (fun hc16 => ?_) (fun hc16 => ?_)
  · replace hf := if_t hc16 hf
    refine ex_iincc (lv' := [(2, .int (v2 + 1)), (5, .long s0), (0, .ref (gB G + a0)), (1, .int v1), (3, .long v3)]) 3 (pc' := 128) dX6_comingByUp_125 rfl ic_1 (Nat.le_of_ble_eq_true rfl) rfl rfl ?_
    refine ex_goto (tgt := 40) dX6_comingByUp_128 (by decide) ?_
    exact ex_sub [2, 3, 0] rfl (hC _ _ (Option.some.inj hf).symm)
  · replace hf := if_f hc16 hf
    refine ex_iconst (v := 0) (pc' := 124) dX6_comingByUp_123 ic_0 rfl ?_
    exact ex_zret dX6_comingByUp_124 rfl (Or.inl rfl) (hR _ _ (Option.some.inj hf).symm)
def f_X6_comingByUp_b40_j67 (N : Nat) (a0 : Nat) (v1 : Int32) (v2 : Int32) (s0 : Int64) (L : ML) : Option ((Int32 × ML) ⊕ ((ML) ⊕ (Int32 × ML))) := (if v2 < 12 then if inb (((v1 * 13) + v2) + 1) 169 then f_X6_comingByUp_b40_j96 N a0 v1 v2 s0 ((Int32.toInt64 (v2 + 1)) * (L (a0 + 2) (Int32.toNatClampNeg (((v1 * 13) + v2) + 1)))) L else none else f_X6_comingByUp_b40_j96 N a0 v1 v2 s0 0 L)
set_option maxRecDepth 100000 in
set_option maxHeartbeats 4000000 in
theorem k_X6_comingByUp_b40_j67 {G : GX} {Q : State → Prop} {X : MX} {a0 : Nat} {v1 : Int32} {v2 : Int32} {s0 : Int64}  (h0 : shX6 X a0) {N : Nat} {I : MI} {L : ML} {out : (Int32 × ML) ⊕ ((ML) ⊕ (Int32 × ML))} (hf : f_X6_comingByUp_b40_j67 N a0 v1 v2 s0 L = some out) (hC : ∀ (v2' : Int32) (L' : ML), out = .inl (v2', L') → Ex G mX6_comingByUp rmX6_comingByUp Q (0, 0) X I L' 40 [(0, .ref (gB G + a0)), (1, .int v1), (2, .int v2')] []) (hX : ∀ (L' : ML), out = .inr (.inl L') → Ex G mX6_comingByUp rmX6_comingByUp Q (0, 0) X I L' 131 [(0, .ref (gB G + a0)), (1, .int v1)] []) (hR : ∀ (z : Int32) (L' : ML), out = .inr (.inr (z, L')) → Q = RetQ G (some (.int z)) X I L' (0, 0)) : Ex G mX6_comingByUp rmX6_comingByUp Q (0, 0) X I L 67 [(0, .ref (gB G + a0)), (1, .int v1), (2, .int v2)] [.long s0] := by
  unfold f_X6_comingByUp_b40_j67 at hf
  refine ex_lstore_n (lv' := [(3, .long s0), (0, .ref (gB G + a0)), (1, .int v1), (2, .int v2)]) (pc' := 68) dX6_comingByUp_67 rfl (Nat.le_of_ble_eq_true rfl) rfl rfl ?_
  refine ex_iload_n 3 (pc' := 69) dX6_comingByUp_68 rfl rfl rfl ?_
  refine ex_bipush (v := 12) (pc' := 71) dX6_comingByUp_69 bp_12 rfl ?_
  refine ex_icmpge (tgt := 95) (pc' := 74) dX6_comingByUp_71 (by decide) rfl (fun hc10 => ?_) (fun hc10 => ?_)
  · replace hf := if_t hc10 hf
    refine ex_iload_n 3 (pc' := 75) dX6_comingByUp_74 rfl rfl rfl ?_
    refine ex_iconst (v := 1) (pc' := 76) dX6_comingByUp_75 ic_1 rfl ?_
    refine ex_iadd (pc' := 77) dX6_comingByUp_76 rfl ?_
    refine ex_i2l (pc' := 78) dX6_comingByUp_77 rfl ?_
    refine ex_aload_n 1 (pc' := 79) dX6_comingByUp_78 rfl rfl rfl ?_
    refine ex_getR (pc' := 82) dX6_comingByUp_79 fl_X6_15 rfl (sh6_k h0) (sh6_F1 h0) rfl ?_
    refine ex_iload_n 2 (pc' := 83) dX6_comingByUp_82 rfl rfl rfl ?_
    refine ex_bipush (v := 13) (pc' := 85) dX6_comingByUp_83 bp_13 rfl ?_
    refine ex_imul (pc' := 86) dX6_comingByUp_85 rfl ?_
    refine ex_iload_n 3 (pc' := 87) dX6_comingByUp_86 rfl rfl rfl ?_
    refine ex_iadd (pc' := 88) dX6_comingByUp_87 rfl ?_
    refine ex_iconst (v := 1) (pc' := 89) dX6_comingByUp_88 ic_1 rfl ?_
    refine ex_iadd (pc' := 90) dX6_comingByUp_89 rfl ?_
    obtain ⟨hg11, hf⟩ := of_guard hf
    refine ex_lald (pc' := 91) dX6_comingByUp_90 (sh6_T1 h0) (inb_in hg11) rfl ?_
    refine ex_lmul (pc' := 92) dX6_comingByUp_91 rfl ?_
    refine ex_goto (tgt := 96) dX6_comingByUp_92 (by decide) ?_
    refine ex_sub [1, 2, 3, 0] rfl (k_X6_comingByUp_b40_j96 h0 hf hC hX hR)
  · replace hf := if_f hc10 hf
    refine ex_lconst (v := 0) (pc' := 96) dX6_comingByUp_95 lc_0 rfl ?_
    refine ex_sub [1, 2, 3, 0] rfl (k_X6_comingByUp_b40_j96 h0 hf hC hX hR)
def f_X6_comingByUp_b40 (N : Nat) (a0 : Nat) (v1 : Int32) (v2 : Int32) (L : ML) : Option ((Int32 × ML) ⊕ ((ML) ⊕ (Int32 × ML))) := (if v2 < 13 then (if 0 < v1 then if inb (((v1 - 1) * 13) + v2) 169 then f_X6_comingByUp_b40_j67 N a0 v1 v2 (L (a0 + 2) (Int32.toNatClampNeg (((v1 - 1) * 13) + v2))) L else none else f_X6_comingByUp_b40_j67 N a0 v1 v2 0 L) else some (.inr (.inl L)))
set_option maxRecDepth 100000 in
set_option maxHeartbeats 4000000 in
theorem k_X6_comingByUp_b40 {G : GX} {Q : State → Prop} {X : MX} {a0 : Nat} {v1 : Int32} (h0 : shX6 X a0) {v2 : Int32} {N : Nat} {I : MI} {L : ML} {out : (Int32 × ML) ⊕ ((ML) ⊕ (Int32 × ML))} (hf : f_X6_comingByUp_b40 N a0 v1 v2 L = some out) (hC : ∀ (v2' : Int32) (L' : ML), out = .inl (v2', L') → Ex G mX6_comingByUp rmX6_comingByUp Q (0, 0) X I L' 40 [(0, .ref (gB G + a0)), (1, .int v1), (2, .int v2')] []) (hX : ∀ (L' : ML), out = .inr (.inl L') → Ex G mX6_comingByUp rmX6_comingByUp Q (0, 0) X I L' 131 [(0, .ref (gB G + a0)), (1, .int v1)] []) (hR : ∀ (z : Int32) (L' : ML), out = .inr (.inr (z, L')) → Q = RetQ G (some (.int z)) X I L' (0, 0)) : Ex G mX6_comingByUp rmX6_comingByUp Q (0, 0) X I L 40 [(0, .ref (gB G + a0)), (1, .int v1), (2, .int v2)] [] := by
  unfold f_X6_comingByUp_b40 at hf
  refine ex_iload_n 2 (pc' := 41) dX6_comingByUp_40 rfl rfl rfl ?_
  refine ex_bipush (v := 13) (pc' := 43) dX6_comingByUp_41 bp_13 rfl ?_
  refine ex_icmpge (tgt := 131) (pc' := 46) dX6_comingByUp_43 (by decide) rfl (fun hc7 => ?_) (fun hc7 => ?_)
  · replace hf := if_t hc7 hf
    refine ex_iload_n 1 (pc' := 47) dX6_comingByUp_46 rfl rfl rfl ?_
    refine ex_ifle (tgt := 66) (pc' := 50) dX6_comingByUp_47 (by decide) rfl (fun hc8 => ?_) (fun hc8 => ?_)
    · replace hf := if_t hc8 hf
      refine ex_aload_n 0 (pc' := 51) dX6_comingByUp_50 rfl rfl rfl ?_
      refine ex_getR (pc' := 54) dX6_comingByUp_51 fl_X6_15 rfl (sh6_k h0) (sh6_F1 h0) rfl ?_
      refine ex_iload_n 1 (pc' := 55) dX6_comingByUp_54 rfl rfl rfl ?_
      refine ex_iconst (v := 1) (pc' := 56) dX6_comingByUp_55 ic_1 rfl ?_
      refine ex_isub (pc' := 57) dX6_comingByUp_56 rfl ?_
      refine ex_bipush (v := 13) (pc' := 59) dX6_comingByUp_57 bp_13 rfl ?_
      refine ex_imul (pc' := 60) dX6_comingByUp_59 rfl ?_
      refine ex_iload_n 2 (pc' := 61) dX6_comingByUp_60 rfl rfl rfl ?_
      refine ex_iadd (pc' := 62) dX6_comingByUp_61 rfl ?_
      obtain ⟨hg9, hf⟩ := of_guard hf
      refine ex_lald (pc' := 63) dX6_comingByUp_62 (sh6_T1 h0) (inb_in hg9) rfl ?_
      refine ex_goto (tgt := 67) dX6_comingByUp_63 (by decide) ?_
      refine ex_sub [0, 1, 2] rfl (k_X6_comingByUp_b40_j67 h0 hf hC hX hR)
    · replace hf := if_f hc8 hf
      refine ex_lconst (v := 0) (pc' := 67) dX6_comingByUp_66 lc_0 rfl ?_
      refine ex_sub [0, 1, 2] rfl (k_X6_comingByUp_b40_j67 h0 hf hC hX hR)
  · replace hf := if_f hc7 hf
    exact ex_sub [0, 1] rfl (hX _ (Option.some.inj hf).symm)
def f_X6_comingByUp_l40 (N : Nat) (a0 : Nat) (v1 : Int32) (v2 : Int32) (L : ML) : Option ((ML) ⊕ (Int32 × ML)) := loopN (fun s => f_X6_comingByUp_b40 N a0 v1 s.1 s.2) N (v2, L)
set_option maxRecDepth 100000 in
set_option maxHeartbeats 4000000 in
theorem k_X6_comingByUp_l40 {G : GX} {Q : State → Prop} {X : MX} {a0 : Nat} {v1 : Int32} (h0 : shX6 X a0) {N0 : Nat} {I : MI} {out : ((ML) ⊕ (Int32 × ML))} (hX : ∀ (L' : ML), out = .inl L' → Ex G mX6_comingByUp rmX6_comingByUp Q (0, 0) X I L' 131 [(0, .ref (gB G + a0)), (1, .int v1)] []) (hR : ∀ (z : Int32) (L' : ML), out = .inr (z, L') → Q = RetQ G (some (.int z)) X I L' (0, 0)) : ∀ (N : Nat) (v2 : Int32) (L : ML), loopN (fun s => f_X6_comingByUp_b40 N0 a0 v1 s.1 s.2) N (v2, L) = some out → Ex G mX6_comingByUp rmX6_comingByUp Q (0, 0) X I L 40 [(0, .ref (gB G + a0)), (1, .int v1), (2, .int v2)] [] := by
  intro N
  induction N with
  | zero => intro v2 L hf; exact absurd (loopN_zero hf) id
  | succ n ih =>
    intro v2 L hf
    rcases loopN_succ hf with ⟨s, hb, hl⟩ | hb
    · obtain ⟨v2', L'⟩ := s
      refine k_X6_comingByUp_b40 h0 hb (fun _ _ he => ?_) (fun _ he => by cases he) (fun _ _ he => by cases he)
      cases he
      exact ih v2' L' hl
    · exact k_X6_comingByUp_b40 h0 hb (fun _ _ he => by cases he) (fun x0 he => hX x0 (Sum.inr.inj he)) (fun z0 z1 he => hR z0 z1 (Sum.inr.inj he))
def f_X6_comingByUp_b34 (N : Nat) (a0 : Nat) (v1 : Int32) (L : ML) : Option ((Int32 × ML) ⊕ ((ML) ⊕ (Int32 × ML))) := (if v1 < 0 then some (.inr (.inl L)) else bns1 (f_X6_comingByUp_l40 N a0 v1 0 L) (fun L17 => some (.inl (v1 + (-1), L17))) (fun q19 => some (.inr (.inr q19))))
set_option maxRecDepth 100000 in
set_option maxHeartbeats 4000000 in
theorem k_X6_comingByUp_b34 {G : GX} {Q : State → Prop} {X : MX} {a0 : Nat} (h0 : shX6 X a0) {v1 : Int32} {N : Nat} {I : MI} {L : ML} {out : (Int32 × ML) ⊕ ((ML) ⊕ (Int32 × ML))} (hf : f_X6_comingByUp_b34 N a0 v1 L = some out) (hC : ∀ (v1' : Int32) (L' : ML), out = .inl (v1', L') → Ex G mX6_comingByUp rmX6_comingByUp Q (0, 0) X I L' 34 [(0, .ref (gB G + a0)), (1, .int v1')] []) (hX : ∀ (L' : ML), out = .inr (.inl L') → Ex G mX6_comingByUp rmX6_comingByUp Q (0, 0) X I L' 137 [] []) (hR : ∀ (z : Int32) (L' : ML), out = .inr (.inr (z, L')) → Q = RetQ G (some (.int z)) X I L' (0, 0)) : Ex G mX6_comingByUp rmX6_comingByUp Q (0, 0) X I L 34 [(0, .ref (gB G + a0)), (1, .int v1)] [] := by
  unfold f_X6_comingByUp_b34 at hf
  refine ex_iload_n 1 (pc' := 35) dX6_comingByUp_34 rfl rfl rfl ?_
  refine ex_iflt (tgt := 137) (pc' := 38) dX6_comingByUp_35 (by decide) rfl (fun hc6 => ?_) (fun hc6 => ?_)
  · replace hf := if_t hc6 hf
    exact ex_sub [] rfl (hX _ (Option.some.inj hf).symm)
  · replace hf := if_f hc6 hf
    refine ex_iconst (v := 0) (pc' := 39) dX6_comingByUp_38 ic_0 rfl ?_
    refine ex_istore_n (lv' := [(2, .int 0), (0, .ref (gB G + a0)), (1, .int v1)]) (pc' := 40) dX6_comingByUp_39 rfl (Nat.le_of_ble_eq_true rfl) rfl rfl ?_
    refine ex_sub (lv' := [(0, .ref (gB G + a0)), (1, .int v1), (2, .int 0)]) [1, 2, 0] rfl ?_
    rcases of_bns1 hf with ⟨L17, hq18, hf⟩ | ⟨q19, hq18, hf⟩
    · refine k_X6_comingByUp_l40 h0 (fun L17' he => ?_) (fun _ _ he => by cases he) _ _ _ hq18
      cases he
      refine ex_iincc (lv' := [(1, .int (v1 + (-1))), (0, .ref (gB G + a0))]) 1 (pc' := 134) dX6_comingByUp_131 rfl ic_m1 (Nat.le_of_ble_eq_true rfl) rfl rfl ?_
      refine ex_goto (tgt := 34) dX6_comingByUp_134 (by decide) ?_
      exact ex_sub [1, 0] rfl (hC _ _ (Option.some.inj hf).symm)
    · refine k_X6_comingByUp_l40 h0 (fun _ he => by cases he) (fun z0 z1 he => ?_) _ _ _ hq18
      refine hR _ _ ?_
      rw [← Option.some.inj hf]
      cases he
      rfl
def f_X6_comingByUp_l34 (N : Nat) (a0 : Nat) (v1 : Int32) (L : ML) : Option ((ML) ⊕ (Int32 × ML)) := loopN (fun s => f_X6_comingByUp_b34 N a0 s.1 s.2) N (v1, L)
set_option maxRecDepth 100000 in
set_option maxHeartbeats 4000000 in
theorem k_X6_comingByUp_l34 {G : GX} {Q : State → Prop} {X : MX} {a0 : Nat} (h0 : shX6 X a0) {N0 : Nat} {I : MI} {out : ((ML) ⊕ (Int32 × ML))} (hX : ∀ (L' : ML), out = .inl L' → Ex G mX6_comingByUp rmX6_comingByUp Q (0, 0) X I L' 137 [] []) (hR : ∀ (z : Int32) (L' : ML), out = .inr (z, L') → Q = RetQ G (some (.int z)) X I L' (0, 0)) : ∀ (N : Nat) (v1 : Int32) (L : ML), loopN (fun s => f_X6_comingByUp_b34 N0 a0 s.1 s.2) N (v1, L) = some out → Ex G mX6_comingByUp rmX6_comingByUp Q (0, 0) X I L 34 [(0, .ref (gB G + a0)), (1, .int v1)] [] := by
  intro N
  induction N with
  | zero => intro v1 L hf; exact absurd (loopN_zero hf) id
  | succ n ih =>
    intro v1 L hf
    rcases loopN_succ hf with ⟨s, hb, hl⟩ | hb
    · obtain ⟨v1', L'⟩ := s
      refine k_X6_comingByUp_b34 h0 hb (fun _ _ he => ?_) (fun _ he => by cases he) (fun _ _ he => by cases he)
      cases he
      exact ih v1' L' hl
    · exact k_X6_comingByUp_b34 h0 hb (fun _ _ he => by cases he) (fun x0 he => hX x0 (Sum.inr.inj he)) (fun z0 z1 he => hR z0 z1 (Sum.inr.inj he))
def f_X6_comingByUp (N : Nat) (a0 : Nat) (L : ML) : Option (Int32 × ML) := bns1 (f_X6_comingByUp_l2 N a0 0 L) (fun u4 => bns1 (f_X6_comingByUp_l34 N a0 12 L) (fun L20 => some (1, L20)) (fun q22 => some q22)) (fun q23 => some q23)
set_option maxRecDepth 100000 in
set_option maxHeartbeats 4000000 in
theorem kb_X6_comingByUp {G : GX} {Q : State → Prop} {X : MX} {a0 : Nat} (h0 : shX6 X a0) {N : Nat} {I : MI} {L : ML} {out : Int32 × ML} (hf : f_X6_comingByUp N a0 L = some out) (hR : ∀ (z : Int32) (L' : ML), out = (z, L') → Q = RetQ G (some (.int z)) X I L' (0, 0)) : Ex G mX6_comingByUp rmX6_comingByUp Q (0, 0) X I L 0 [(0, .ref (gB G + a0))] [] := by
  unfold f_X6_comingByUp at hf
  refine ex_iconst (v := 0) (pc' := 1) dX6_comingByUp_0 ic_0 rfl ?_
  refine ex_istore_n (lv' := [(1, .int 0), (0, .ref (gB G + a0))]) (pc' := 2) dX6_comingByUp_1 rfl (Nat.le_of_ble_eq_true rfl) rfl rfl ?_
  refine ex_sub (lv' := [(0, .ref (gB G + a0)), (1, .int 0)]) [1, 0] rfl ?_
  rcases of_bns1 hf with ⟨u4, hq5, hf⟩ | ⟨q23, hq5, hf⟩
  · refine k_X6_comingByUp_l2 h0 (fun u4' he => ?_) (fun _ _ he => by cases he) _ _ hq5
    cases he
    refine ex_bipush (v := 12) (pc' := 33) dX6_comingByUp_31 bp_12 rfl ?_
    refine ex_istore_n (lv' := [(1, .int 12), (0, .ref (gB G + a0))]) (pc' := 34) dX6_comingByUp_33 rfl (Nat.le_of_ble_eq_true rfl) rfl rfl ?_
    refine ex_sub (lv' := [(0, .ref (gB G + a0)), (1, .int 12)]) [1, 0] rfl ?_
    rcases of_bns1 hf with ⟨L20, hq21, hf⟩ | ⟨q22, hq21, hf⟩
    · refine k_X6_comingByUp_l34 h0 (fun L20' he => ?_) (fun _ _ he => by cases he) _ _ _ hq21
      cases he
      refine ex_iconst (v := 1) (pc' := 138) dX6_comingByUp_137 ic_1 rfl ?_
      exact ex_zret dX6_comingByUp_138 rfl (Or.inr rfl) (hR _ _ (Option.some.inj hf).symm)
    · refine k_X6_comingByUp_l34 h0 (fun _ he => by cases he) (fun z0 z1 he => ?_) _ _ _ hq21
      refine hR _ _ ?_
      rw [← Option.some.inj hf]
      cases he
      rfl
  · refine k_X6_comingByUp_l2 h0 (fun _ he => by cases he) (fun z0 z1 he => ?_) _ _ hq5
    refine hR _ _ ?_
    rw [← Option.some.inj hf]
    cases he
    rfl
set_option maxRecDepth 100000 in
set_option maxHeartbeats 4000000 in
theorem k_X6_comingByUp (G : GX) {X : MX} {a0 : Nat} (h0 : shX6 X a0) {N : Nat} {I : MI} {L : ML} {z : Int32} {L' : ML} (hf : f_X6_comingByUp N a0 L = some (z, L')) : Con G mX6_comingByUp yX6_comingByUp rmX6_comingByUp (fun B => [.ref (B + a0)]) X I L (some (.int z)) X I L' :=
  Con.of (by decide) rfl (fun h => by cases h) (fun B => Nat.le_of_ble_eq_true rfl) (fun G => kb_X6_comingByUp h0 hf (fun _ _ he => by cases he; rfl))
-- X6_settle ('RookWords$Sum', 'settle', '()V')
def rmX6_settle : RM := ((1, 26, 0, 0), false, none)
def f_X6_settle (a0 : Nat) (L : ML) : Option (ML) := if cpok 0 0 169 169 169 then letv (cpL L (a0 + 2) (a0 + 1) (Int32.toNatClampNeg 0) (Int32.toNatClampNeg 0) (Int32.toNatClampNeg 169)) fun L2 => some L2 else none
set_option maxRecDepth 100000 in
set_option maxHeartbeats 4000000 in
theorem kb_X6_settle {G : GX} {Q : State → Prop} {X : MX} {a0 : Nat} (h0 : shX6 X a0) {I : MI} {L : ML} {out : ML} (hf : f_X6_settle a0 L = some out) (hR : ∀ (L' : ML), out = L' → Q = RetQ G none X I L' (0, 0)) : Ex G mX6_settle rmX6_settle Q (0, 0) X I L 0 [(0, .ref (gB G + a0))] [] := by
  unfold f_X6_settle at hf
  refine ex_aload_n 0 (pc' := 1) dX6_settle_0 rfl rfl rfl ?_
  refine ex_getR (pc' := 4) dX6_settle_1 fl_X6_15 rfl (sh6_k h0) (sh6_F1 h0) rfl ?_
  refine ex_iconst (v := 0) (pc' := 5) dX6_settle_4 ic_0 rfl ?_
  refine ex_aload_n 0 (pc' := 6) dX6_settle_5 rfl rfl rfl ?_
  refine ex_getR (pc' := 9) dX6_settle_6 fl_X6_11 rfl (sh6_k h0) (sh6_F0 h0) rfl ?_
  refine ex_iconst (v := 0) (pc' := 10) dX6_settle_9 ic_0 rfl ?_
  refine ex_aload_n 0 (pc' := 11) dX6_settle_10 rfl rfl rfl ?_
  refine ex_getR (pc' := 14) dX6_settle_11 fl_X6_11 rfl (sh6_k h0) (sh6_F0 h0) rfl ?_
  refine ex_alen (v := 169) (pc' := 15) dX6_settle_14 (sh6_T0 h0) (Or.inr rfl) al_169 rfl ?_
  obtain ⟨hg1, hf⟩ := of_guard hf
  refine ex_copyL (pc' := 18) dX6_settle_15 cl_X6_24 (sh6_T1 h0) (sh6_T0 h0) (cpok_ok hg1) ⟨Nat.le_of_ble_eq_true rfl, Nat.le_of_ble_eq_true rfl⟩ rfl ?_
  obtain ⟨L2, hL2, hf⟩ := of_let hf
  rw [← hL2]
  exact ex_vret dX6_settle_18 rfl (hR _ (Option.some.inj hf).symm)
set_option maxRecDepth 100000 in
set_option maxHeartbeats 4000000 in
theorem k_X6_settle (G : GX) {X : MX} {a0 : Nat} (h0 : shX6 X a0) {I : MI} {L : ML} {L' : ML} (hf : f_X6_settle a0 L = some L') : Con G mX6_settle yX6_settle rmX6_settle (fun B => [.ref (B + a0)]) X I L none X I L' :=
  Con.of (by decide) rfl (fun h => by cases h) (fun B => Nat.le_of_ble_eq_true rfl) (fun G => kb_X6_settle h0 hf (fun _ he => by cases he; rfl))
theorem cl_X6_34 : CLV RX6 34 yX6_begin mX6_begin none 0 := ⟨⟨lwg_at 407 (by decide +kernel) rfl, lwg_at 409 (by decide +kernel) rfl, lwg_at 2 (by decide +kernel) rfl, lwg_at 52 (by decide +kernel) rfl⟩, lwg_at 410 (by decide +kernel) rfl, ⟨by decide +kernel, by decide +kernel, by decide +kernel⟩⟩
theorem fl_X6_50 : FLD RX6 50 9 1 false := ⟨RX9, TX9, 2, rfl, inX9, by decide, lwg_at 114 (by decide +kernel) rfl, nmX9, tyX9_ok, rfl, rfl⟩
theorem fl_X6_56 : FLD RX6 56 9 0 true := ⟨RX9, TX9, 2, rfl, inX9, by decide, lwg_at 108 (by decide +kernel) rfl, nmX9, tyX9_ok, rfl, rfl⟩
theorem cl_X6_60 : CLV RX6 60 yX6_comingByUp mX6_comingByUp (some FieldType.boolean) 0 := ⟨⟨lwg_at 434 (by decide +kernel) rfl, lwg_at 436 (by decide +kernel) rfl, lwg_at 4 (by decide +kernel) rfl, lwg_at 52 (by decide +kernel) rfl⟩, lwg_at 437 (by decide +kernel) rfl, ⟨by decide +kernel, by decide +kernel, by decide +kernel⟩⟩
theorem cl_X6_64 : CLV RX6 64 yX6_comingByDown mX6_comingByDown (some FieldType.boolean) 0 := ⟨⟨lwg_at 438 (by decide +kernel) rfl, lwg_at 440 (by decide +kernel) rfl, lwg_at 5 (by decide +kernel) rfl, lwg_at 52 (by decide +kernel) rfl⟩, lwg_at 441 (by decide +kernel) rfl, ⟨by decide +kernel, by decide +kernel, by decide +kernel⟩⟩
theorem cl_X6_47 : CLV RX6 47 yX6_settle mX6_settle none 0 := ⟨⟨lwg_at 422 (by decide +kernel) rfl, lwg_at 424 (by decide +kernel) rfl, lwg_at 3 (by decide +kernel) rfl, lwg_at 52 (by decide +kernel) rfl⟩, lwg_at 425 (by decide +kernel) rfl, ⟨by decide +kernel, by decide +kernel, by decide +kernel⟩⟩
-- X6_multiply ('RookWords$Sum', 'multiply', '(LRookWords$Word;)Z')
def rmX6_multiply : RM := ((2, 48, 0, 0), false, (some FieldType.boolean))
def f_X6_multiply_b6 (N : Nat) (a0 : Nat) (a1 : Nat) (v2 : Int32) (I : MI) (L : ML) : Option ((Int32 × ML) ⊕ ((ML) ⊕ (Int32 × ML))) := (if v2 < (I a1 1) then if inb v2 12 then (if (I (a1 + 1) (Int32.toNatClampNeg v2)) = 0 then bnd2 (f_X6_comingByUp N a0 L) fun r6 L7 => (if r6 = 0 then some (.inr (.inr (0, L7))) else some (.inl (v2 + 1, L7))) else bnd2 (f_X6_comingByDown N a0 L) fun r10 L11 => (if r10 = 0 then some (.inr (.inr (0, L11))) else some (.inl (v2 + 1, L11)))) else none else some (.inr (.inl L)))
set_option maxRecDepth 100000 in
set_option maxHeartbeats 4000000 in
theorem k_X6_multiply_b6 {G : GX} {Q : State → Prop} {X : MX} {a0 : Nat} {a1 : Nat} (h0 : shX6 X a0) (h1 : shX9 X a1) {v2 : Int32} {N : Nat} {I : MI} {L : ML} {out : (Int32 × ML) ⊕ ((ML) ⊕ (Int32 × ML))} (hf : f_X6_multiply_b6 N a0 a1 v2 I L = some out) (hC : ∀ (v2' : Int32) (L' : ML), out = .inl (v2', L') → Ex G mX6_multiply rmX6_multiply Q (0, 0) X I L' 6 [(0, .ref (gB G + a0)), (1, .ref (gB G + a1)), (2, .int v2')] []) (hX : ∀ (L' : ML), out = .inr (.inl L') → Ex G mX6_multiply rmX6_multiply Q (0, 0) X I L' 47 [(0, .ref (gB G + a0))] []) (hR : ∀ (z : Int32) (L' : ML), out = .inr (.inr (z, L')) → Q = RetQ G (some (.int z)) X I L' (0, 0)) : Ex G mX6_multiply rmX6_multiply Q (0, 0) X I L 6 [(0, .ref (gB G + a0)), (1, .ref (gB G + a1)), (2, .int v2)] [] := by
  unfold f_X6_multiply_b6 at hf
  refine ex_iload_n 2 (pc' := 7) dX6_multiply_6 rfl rfl rfl ?_
  refine ex_aload_n 1 (pc' := 8) dX6_multiply_7 rfl rfl rfl ?_
  refine ex_getI (pc' := 11) dX6_multiply_8 fl_X6_50 rfl (sh9_k h1) rfl ?_
  refine ex_icmpge (tgt := 47) (pc' := 14) dX6_multiply_11 (by decide) rfl (fun hc3 => ?_) (fun hc3 => ?_)
  · replace hf := if_t hc3 hf
    refine ex_aload_n 1 (pc' := 15) dX6_multiply_14 rfl rfl rfl ?_
    refine ex_getR (pc' := 18) dX6_multiply_15 fl_X6_56 rfl (sh9_k h1) (sh9_F0 h1) rfl ?_
    refine ex_iload_n 2 (pc' := 19) dX6_multiply_18 rfl rfl rfl ?_
    obtain ⟨hg4, hf⟩ := of_guard hf
    refine ex_iald (pc' := 20) dX6_multiply_19 (sh9_T0 h1) (inb_in hg4) rfl ?_
    refine ex_ifne (tgt := 30) (pc' := 23) dX6_multiply_20 (by decide) rfl (fun hc5 => ?_) (fun hc5 => ?_)
    · replace hf := if_t hc5 hf
      refine ex_aload_n 0 (pc' := 24) dX6_multiply_23 rfl rfl rfl ?_
      obtain ⟨r6, L7, hq8, hf⟩ := of_bnd2 hf
      refine ex_callV_i (rm' := rmX6_comingByUp) (st := []) (pc' := 27) [] dX6_multiply_24 cl_X6_60 (k_X6_comingByUp G h0 hq8) rfl (sh6_k h0) ⟨_, _, rfl⟩ rfl rfl (ROOM_of rfl) (Nat.le_of_ble_eq_true rfl) rfl rfl ?_
      refine ex_goto (tgt := 34) dX6_multiply_27 (by decide) ?_
      refine ex_istore_n (lv' := [(3, .int r6), (0, .ref (gB G + a0)), (1, .ref (gB G + a1)), (2, .int v2)]) (pc' := 35) dX6_multiply_34 rfl (Nat.le_of_ble_eq_true rfl) rfl rfl ?_
      refine ex_iload_n 0 (pc' := 36) dX6_multiply_35 rfl rfl rfl ?_
      refine ex_ifne (tgt := 41) (pc' := 39) dX6_multiply_36 (by decide) rfl (fun hc9 => ?_) (fun hc9 => ?_)
      · replace hf := if_t hc9 hf
        refine ex_iconst (v := 0) (pc' := 40) dX6_multiply_39 ic_0 rfl ?_
        exact ex_zret dX6_multiply_40 rfl (Or.inl rfl) (hR _ _ (Option.some.inj hf).symm)
      · replace hf := if_f hc9 hf
        refine ex_iincc (lv' := [(2, .int (v2 + 1)), (3, .int r6), (0, .ref (gB G + a0)), (1, .ref (gB G + a1))]) 3 (pc' := 44) dX6_multiply_41 rfl ic_1 (Nat.le_of_ble_eq_true rfl) rfl rfl ?_
        refine ex_goto (tgt := 6) dX6_multiply_44 (by decide) ?_
        exact ex_sub [2, 3, 0] rfl (hC _ _ (Option.some.inj hf).symm)
    · replace hf := if_f hc5 hf
      refine ex_aload_n 0 (pc' := 31) dX6_multiply_30 rfl rfl rfl ?_
      obtain ⟨r10, L11, hq12, hf⟩ := of_bnd2 hf
      refine ex_callV_i (rm' := rmX6_comingByDown) (st := []) (pc' := 34) [] dX6_multiply_31 cl_X6_64 (k_X6_comingByDown G h0 hq12) rfl (sh6_k h0) ⟨_, _, rfl⟩ rfl rfl (ROOM_of rfl) (Nat.le_of_ble_eq_true rfl) rfl rfl ?_
      refine ex_istore_n (lv' := [(3, .int r10), (0, .ref (gB G + a0)), (1, .ref (gB G + a1)), (2, .int v2)]) (pc' := 35) dX6_multiply_34 rfl (Nat.le_of_ble_eq_true rfl) rfl rfl ?_
      refine ex_iload_n 0 (pc' := 36) dX6_multiply_35 rfl rfl rfl ?_
      refine ex_ifne (tgt := 41) (pc' := 39) dX6_multiply_36 (by decide) rfl (fun hc13 => ?_) (fun hc13 => ?_)
      · replace hf := if_t hc13 hf
        refine ex_iconst (v := 0) (pc' := 40) dX6_multiply_39 ic_0 rfl ?_
        exact ex_zret dX6_multiply_40 rfl (Or.inl rfl) (hR _ _ (Option.some.inj hf).symm)
      · replace hf := if_f hc13 hf
        refine ex_iincc (lv' := [(2, .int (v2 + 1)), (3, .int r10), (0, .ref (gB G + a0)), (1, .ref (gB G + a1))]) 3 (pc' := 44) dX6_multiply_41 rfl ic_1 (Nat.le_of_ble_eq_true rfl) rfl rfl ?_
        refine ex_goto (tgt := 6) dX6_multiply_44 (by decide) ?_
        exact ex_sub [2, 3, 0] rfl (hC _ _ (Option.some.inj hf).symm)
  · replace hf := if_f hc3 hf
    exact ex_sub [0] rfl (hX _ (Option.some.inj hf).symm)
def f_X6_multiply_l6 (N : Nat) (a0 : Nat) (a1 : Nat) (v2 : Int32) (I : MI) (L : ML) : Option ((ML) ⊕ (Int32 × ML)) := loopN (fun s => f_X6_multiply_b6 N a0 a1 s.1 I s.2) N (v2, L)
set_option maxRecDepth 100000 in
set_option maxHeartbeats 4000000 in
theorem k_X6_multiply_l6 {G : GX} {Q : State → Prop} {X : MX} {a0 : Nat} {a1 : Nat} (h0 : shX6 X a0) (h1 : shX9 X a1) {N0 : Nat} {I : MI} {out : ((ML) ⊕ (Int32 × ML))} (hX : ∀ (L' : ML), out = .inl L' → Ex G mX6_multiply rmX6_multiply Q (0, 0) X I L' 47 [(0, .ref (gB G + a0))] []) (hR : ∀ (z : Int32) (L' : ML), out = .inr (z, L') → Q = RetQ G (some (.int z)) X I L' (0, 0)) : ∀ (N : Nat) (v2 : Int32) (L : ML), loopN (fun s => f_X6_multiply_b6 N0 a0 a1 s.1 I s.2) N (v2, L) = some out → Ex G mX6_multiply rmX6_multiply Q (0, 0) X I L 6 [(0, .ref (gB G + a0)), (1, .ref (gB G + a1)), (2, .int v2)] [] := by
  intro N
  induction N with
  | zero => intro v2 L hf; exact absurd (loopN_zero hf) id
  | succ n ih =>
    intro v2 L hf
    rcases loopN_succ hf with ⟨s, hb, hl⟩ | hb
    · obtain ⟨v2', L'⟩ := s
      refine k_X6_multiply_b6 h0 h1 hb (fun _ _ he => ?_) (fun _ he => by cases he) (fun _ _ he => by cases he)
      cases he
      exact ih v2' L' hl
    · exact k_X6_multiply_b6 h0 h1 hb (fun _ _ he => by cases he) (fun x0 he => hX x0 (Sum.inr.inj he)) (fun z0 z1 he => hR z0 z1 (Sum.inr.inj he))
def f_X6_multiply (N : Nat) (a0 : Nat) (a1 : Nat) (I : MI) (L : ML) : Option (Int32 × ML) := bnd1 (f_X6_begin a0 L) fun L1 => bns1 (f_X6_multiply_l6 N a0 a1 0 I L1) (fun L14 => bnd1 (f_X6_settle a0 L14) fun L16 => some (1, L16)) (fun q18 => some q18)
set_option maxRecDepth 100000 in
set_option maxHeartbeats 4000000 in
theorem kb_X6_multiply {G : GX} {Q : State → Prop} {X : MX} {a0 : Nat} {a1 : Nat} (h0 : shX6 X a0) (h1 : shX9 X a1) {N : Nat} {I : MI} {L : ML} {out : Int32 × ML} (hf : f_X6_multiply N a0 a1 I L = some out) (hR : ∀ (z : Int32) (L' : ML), out = (z, L') → Q = RetQ G (some (.int z)) X I L' (0, 0)) : Ex G mX6_multiply rmX6_multiply Q (0, 0) X I L 0 [(0, .ref (gB G + a0)), (1, .ref (gB G + a1))] [] := by
  unfold f_X6_multiply at hf
  refine ex_aload_n 0 (pc' := 1) dX6_multiply_0 rfl rfl rfl ?_
  obtain ⟨L1, hq2, hf⟩ := of_bnd1 hf
  refine ex_callV_v (rm' := rmX6_begin) (st := []) (pc' := 4) [] dX6_multiply_1 cl_X6_34 (k_X6_begin G h0 hq2) rfl (sh6_k h0) ⟨_, _, rfl⟩ rfl rfl (ROOM_of rfl) (Nat.le_of_ble_eq_true rfl) rfl rfl ?_
  refine ex_iconst (v := 0) (pc' := 5) dX6_multiply_4 ic_0 rfl ?_
  refine ex_istore_n (lv' := [(2, .int 0), (0, .ref (gB G + a0)), (1, .ref (gB G + a1))]) (pc' := 6) dX6_multiply_5 rfl (Nat.le_of_ble_eq_true rfl) rfl rfl ?_
  refine ex_sub (lv' := [(0, .ref (gB G + a0)), (1, .ref (gB G + a1)), (2, .int 0)]) [1, 2, 0] rfl ?_
  rcases of_bns1 hf with ⟨L14, hq15, hf⟩ | ⟨q18, hq15, hf⟩
  · refine k_X6_multiply_l6 h0 h1 (fun L14' he => ?_) (fun _ _ he => by cases he) _ _ _ hq15
    cases he
    refine ex_aload_n 0 (pc' := 48) dX6_multiply_47 rfl rfl rfl ?_
    obtain ⟨L16, hq17, hf⟩ := of_bnd1 hf
    refine ex_callV_v (rm' := rmX6_settle) (st := []) (pc' := 51) [] dX6_multiply_48 cl_X6_47 (k_X6_settle G h0 hq17) rfl (sh6_k h0) ⟨_, _, rfl⟩ rfl rfl (ROOM_of rfl) (Nat.le_of_ble_eq_true rfl) rfl rfl ?_
    refine ex_iconst (v := 1) (pc' := 52) dX6_multiply_51 ic_1 rfl ?_
    exact ex_zret dX6_multiply_52 rfl (Or.inr rfl) (hR _ _ (Option.some.inj hf).symm)
  · refine k_X6_multiply_l6 h0 h1 (fun _ he => by cases he) (fun z0 z1 he => ?_) _ _ _ hq15
    refine hR _ _ ?_
    rw [← Option.some.inj hf]
    cases he
    rfl
set_option maxRecDepth 100000 in
set_option maxHeartbeats 4000000 in
theorem k_X6_multiply (G : GX) {X : MX} {a0 : Nat} {a1 : Nat} (h0 : shX6 X a0) (h1 : shX9 X a1) {N : Nat} {I : MI} {L : ML} {z : Int32} {L' : ML} (hf : f_X6_multiply N a0 a1 I L = some (z, L')) : Con G mX6_multiply yX6_multiply rmX6_multiply (fun B => [.ref (B + a0), .ref (B + a1)]) X I L (some (.int z)) X I L' :=
  Con.of (by decide) rfl (fun h => by cases h) (fun B => Nat.le_of_ble_eq_true rfl) (fun G => kb_X6_multiply h0 h1 hf (fun _ _ he => by cases he; rfl))
-- X6_notZero ('RookWords$Sum', 'notZero', '()I')
def rmX6_notZero : RM := ((0, 0, 0, 0), false, (some FieldType.int))
def f_X6_notZero_b4 (N : Nat) (a0 : Nat) (v1 : Int32) (v2 : Int32) (L : ML) : Option ((Int32 × Int32) ⊕ (Int32)) := (if v2 < 169 then if inb v2 169 then (if (L (a0 + 1) (Int32.toNatClampNeg v2)) = 0 then some (.inl (v1, v2 + 1)) else some (.inl (v1 + 1, v2 + 1))) else none else some (.inr v1))
set_option maxRecDepth 100000 in
set_option maxHeartbeats 4000000 in
theorem k_X6_notZero_b4 {G : GX} {Q : State → Prop} {X : MX} {a0 : Nat} (h0 : shX6 X a0) {v1 : Int32} {v2 : Int32} {N : Nat} {I : MI} {L : ML} {out : (Int32 × Int32) ⊕ (Int32)} (hf : f_X6_notZero_b4 N a0 v1 v2 L = some out) (hC : ∀ (v1' : Int32) (v2' : Int32), out = .inl (v1', v2') → Ex G mX6_notZero rmX6_notZero Q (0, 0) X I L 4 [(0, .ref (gB G + a0)), (1, .int v1'), (2, .int v2')] []) (hX : ∀ (w1 : Int32), out = .inr w1 → Ex G mX6_notZero rmX6_notZero Q (0, 0) X I L 33 [(1, .int w1)] []) : Ex G mX6_notZero rmX6_notZero Q (0, 0) X I L 4 [(0, .ref (gB G + a0)), (1, .int v1), (2, .int v2)] [] := by
  unfold f_X6_notZero_b4 at hf
  refine ex_iload_n 2 (pc' := 5) dX6_notZero_4 rfl rfl rfl ?_
  refine ex_aload_n 0 (pc' := 6) dX6_notZero_5 rfl rfl rfl ?_
  refine ex_getR (pc' := 9) dX6_notZero_6 fl_X6_11 rfl (sh6_k h0) (sh6_F0 h0) rfl ?_
  refine ex_alen (v := 169) (pc' := 10) dX6_notZero_9 (sh6_T0 h0) (Or.inr rfl) al_169 rfl ?_
  refine ex_icmpge (tgt := 33) (pc' := 13) dX6_notZero_10 (by decide) rfl (fun hc1 => ?_) (fun hc1 => ?_)
  · replace hf := if_t hc1 hf
    refine ex_aload_n 0 (pc' := 14) dX6_notZero_13 rfl rfl rfl ?_
    refine ex_getR (pc' := 17) dX6_notZero_14 fl_X6_11 rfl (sh6_k h0) (sh6_F0 h0) rfl ?_
    refine ex_iload_n 2 (pc' := 18) dX6_notZero_17 rfl rfl rfl ?_
    obtain ⟨hg2, hf⟩ := of_guard hf
    refine ex_lald (pc' := 19) dX6_notZero_18 (sh6_T0 h0) (inb_in hg2) rfl ?_
    refine ex_lconst (v := 0) (pc' := 20) dX6_notZero_19 lc_0 rfl ?_
    refine ex_lcmp (pc' := 21) dX6_notZero_20 rfl ?_
    refine ex_lifeq (tgt := 27) (pc' := 24) dX6_notZero_21 (by decide) rfl (fun hc3 => ?_) (fun hc3 => ?_)
    · replace hf := if_t hc3 hf
      refine ex_iincc (lv' := [(2, .int (v2 + 1)), (0, .ref (gB G + a0)), (1, .int v1)]) 2 (pc' := 30) dX6_notZero_27 rfl ic_1 (Nat.le_of_ble_eq_true rfl) rfl rfl ?_
      refine ex_goto (tgt := 4) dX6_notZero_30 (by decide) ?_
      exact ex_sub [1, 2, 0] rfl (hC _ _ (Option.some.inj hf).symm)
    · replace hf := if_f hc3 hf
      refine ex_iincc (lv' := [(1, .int (v1 + 1)), (0, .ref (gB G + a0)), (2, .int v2)]) 1 (pc' := 27) dX6_notZero_24 rfl ic_1 (Nat.le_of_ble_eq_true rfl) rfl rfl ?_
      refine ex_iincc (lv' := [(2, .int (v2 + 1)), (1, .int (v1 + 1)), (0, .ref (gB G + a0))]) 2 (pc' := 30) dX6_notZero_27 rfl ic_1 (Nat.le_of_ble_eq_true rfl) rfl rfl ?_
      refine ex_goto (tgt := 4) dX6_notZero_30 (by decide) ?_
      exact ex_sub [2, 1, 0] rfl (hC _ _ (Option.some.inj hf).symm)
  · replace hf := if_f hc1 hf
    exact ex_sub [1] rfl (hX _ (Option.some.inj hf).symm)
def f_X6_notZero_l4 (N : Nat) (a0 : Nat) (v1 : Int32) (v2 : Int32) (L : ML) : Option (Int32) := loopN (fun s => f_X6_notZero_b4 N a0 s.1 s.2 L) N (v1, v2)
set_option maxRecDepth 100000 in
set_option maxHeartbeats 4000000 in
theorem k_X6_notZero_l4 {G : GX} {Q : State → Prop} {X : MX} {a0 : Nat} (h0 : shX6 X a0) {N0 : Nat} {I : MI} {L : ML} {out : (Int32)} (hX : ∀ (w1 : Int32), out = w1 → Ex G mX6_notZero rmX6_notZero Q (0, 0) X I L 33 [(1, .int w1)] []) : ∀ (N : Nat) (v1 : Int32) (v2 : Int32), loopN (fun s => f_X6_notZero_b4 N0 a0 s.1 s.2 L) N (v1, v2) = some out → Ex G mX6_notZero rmX6_notZero Q (0, 0) X I L 4 [(0, .ref (gB G + a0)), (1, .int v1), (2, .int v2)] [] := by
  intro N
  induction N with
  | zero => intro v1 v2 hf; exact absurd (loopN_zero hf) id
  | succ n ih =>
    intro v1 v2 hf
    rcases loopN_succ hf with ⟨s, hb, hl⟩ | hb
    · obtain ⟨v1', v2'⟩ := s
      refine k_X6_notZero_b4 h0 hb (fun _ _ he => ?_) (fun _ he => by cases he)
      cases he
      exact ih v1' v2' hl
    · exact k_X6_notZero_b4 h0 hb (fun _ _ he => by cases he) (fun x0 he => hX x0 (Sum.inr.inj he))
def f_X6_notZero (N : Nat) (a0 : Nat) (L : ML) : Option (Int32) := bnd1 (f_X6_notZero_l4 N a0 0 0 L) fun x4 => some x4
set_option maxRecDepth 100000 in
set_option maxHeartbeats 4000000 in
theorem kb_X6_notZero {G : GX} {Q : State → Prop} {X : MX} {a0 : Nat} (h0 : shX6 X a0) {N : Nat} {I : MI} {L : ML} {out : Int32} (hf : f_X6_notZero N a0 L = some out) (hR : ∀ (z : Int32), out = z → Q = RetQ G (some (.int z)) X I L (0, 0)) : Ex G mX6_notZero rmX6_notZero Q (0, 0) X I L 0 [(0, .ref (gB G + a0))] [] := by
  unfold f_X6_notZero at hf
  refine ex_iconst (v := 0) (pc' := 1) dX6_notZero_0 ic_0 rfl ?_
  refine ex_istore_n (lv' := [(1, .int 0), (0, .ref (gB G + a0))]) (pc' := 2) dX6_notZero_1 rfl (Nat.le_of_ble_eq_true rfl) rfl rfl ?_
  refine ex_iconst (v := 0) (pc' := 3) dX6_notZero_2 ic_0 rfl ?_
  refine ex_istore_n (lv' := [(2, .int 0), (1, .int 0), (0, .ref (gB G + a0))]) (pc' := 4) dX6_notZero_3 rfl (Nat.le_of_ble_eq_true rfl) rfl rfl ?_
  refine ex_sub (lv' := [(0, .ref (gB G + a0)), (1, .int 0), (2, .int 0)]) [2, 1, 0] rfl ?_
  obtain ⟨x4, hq5, hf⟩ := of_bnd1 hf
  refine k_X6_notZero_l4 h0 (fun x4' he => ?_) _ _ _ hq5
  cases he
  refine ex_iload_n 0 (pc' := 34) dX6_notZero_33 rfl rfl rfl ?_
  exact ex_iret dX6_notZero_34 rfl (hR _ (Option.some.inj hf).symm)
set_option maxRecDepth 100000 in
set_option maxHeartbeats 4000000 in
theorem k_X6_notZero (G : GX) {X : MX} {a0 : Nat} (h0 : shX6 X a0) {N : Nat} {I : MI} {L : ML} {z : Int32} (hf : f_X6_notZero N a0 L = some z) : Con G mX6_notZero yX6_notZero rmX6_notZero (fun B => [.ref (B + a0)]) X I L (some (.int z)) X I L :=
  Con.of (by decide) rfl (fun h => by cases h) (fun B => Nat.le_of_ble_eq_true rfl) (fun G => kb_X6_notZero h0 hf (fun _ he => by cases he; rfl))
theorem cl_X6_37 : Cond.methodLink RX6 37 Lib.Math.min.name ∈ lwg ∧ Cond.static Lib.Math.min.name ∈ lwg ∧ Cond.initialized "java/lang/Math" ∈ lwg ∧ Cond.code Lib.Math.min.name Lib.Math.min.code 2 (some .int) ∈ lwg := ⟨lwg_at 414 (by decide +kernel) rfl, lwg_at 415 (by decide +kernel) rfl, lwg_at 62 (by decide +kernel) rfl, lwg_at 416 (by decide +kernel) rfl⟩
-- X6_take ('RookWords$Sum', 'take', '([JIII)Z')
def rmX6_take : RM := ((2, 46, 0, 0), false, (some FieldType.boolean))
def f_X6_take_b14 (N : Nat) (a0 : Nat) (a1 : Nat) (n1 : Nat) (v2 : Int32) (v3 : Int32) (v4 : Int32) (v5 : Int32) (v6 : Int32) (L : ML) : Option ((Int32 × ML) ⊕ ((ML) ⊕ (Int32 × ML))) := (if v5 < v6 then some (.inr (.inl L)) else if inb ((((v2 - v6) * 13) + v3) - v6) 169 then if inb v6 n1 then if inb ((((v2 - v6) * 13) + v3) - v6) 169 then letv (upL L (a0 + 2) (Int32.toNatClampNeg ((((v2 - v6) * 13) + v3) - v6)) ((L (a0 + 2) (Int32.toNatClampNeg ((((v2 - v6) * 13) + v3) - v6))) + ((Int32.toInt64 v4) * (L a1 (Int32.toNatClampNeg v6))))) fun L8 => if inb ((((v2 - v6) * 13) + v3) - v6) 169 then bnd1 (f_X6_isBeyond (L8 (a0 + 2) (Int32.toNatClampNeg ((((v2 - v6) * 13) + v3) - v6)))) fun r10 => (if r10 = 0 then some (.inl (v6 + 1, L8)) else some (.inr (.inr (0, L8)))) else none else none else none else none)
set_option maxRecDepth 100000 in
set_option maxHeartbeats 4000000 in
theorem k_X6_take_b14 {G : GX} {Q : State → Prop} {X : MX} {a0 : Nat} {a1 : Nat} {n1 : Nat} {v2 : Int32} {v3 : Int32} {v4 : Int32} {v5 : Int32} (h0 : shX6 X a0) (h1 : X.1 a1 = (3, n1)) {v6 : Int32} {N : Nat} {I : MI} {L : ML} {out : (Int32 × ML) ⊕ ((ML) ⊕ (Int32 × ML))} (hf : f_X6_take_b14 N a0 a1 n1 v2 v3 v4 v5 v6 L = some out) (hC : ∀ (v6' : Int32) (L' : ML), out = .inl (v6', L') → Ex G mX6_take rmX6_take Q (0, 0) X I L' 14 [(0, .ref (gB G + a0)), (1, .ref (gB G + a1)), (2, .int v2), (3, .int v3), (4, .int v4), (5, .int v5), (6, .int v6')] []) (hX : ∀ (L' : ML), out = .inr (.inl L') → Ex G mX6_take rmX6_take Q (0, 0) X I L' 74 [(0, .ref (gB G + a0))] []) (hR : ∀ (z : Int32) (L' : ML), out = .inr (.inr (z, L')) → Q = RetQ G (some (.int z)) X I L' (0, 0)) : Ex G mX6_take rmX6_take Q (0, 0) X I L 14 [(0, .ref (gB G + a0)), (1, .ref (gB G + a1)), (2, .int v2), (3, .int v3), (4, .int v4), (5, .int v5), (6, .int v6)] [] := by
  unfold f_X6_take_b14 at hf
  refine ex_iload 6 (pc' := 16) dX6_take_14 rfl rfl ?_
  refine ex_iload 5 (pc' := 18) dX6_take_16 rfl rfl ?_
  refine ex_icmpgt (tgt := 74) (pc' := 21) dX6_take_18 (by decide) rfl (fun hc4 => ?_) (fun hc4 => ?_)
  · replace hf := if_t hc4 hf
    exact ex_sub [0] rfl (hX _ (Option.some.inj hf).symm)
  · replace hf := if_f hc4 hf
    refine ex_iload_n 2 (pc' := 22) dX6_take_21 rfl rfl rfl ?_
    refine ex_iload 6 (pc' := 24) dX6_take_22 rfl rfl ?_
    refine ex_isub (pc' := 25) dX6_take_24 rfl ?_
    refine ex_bipush (v := 13) (pc' := 27) dX6_take_25 bp_13 rfl ?_
    refine ex_imul (pc' := 28) dX6_take_27 rfl ?_
    refine ex_iload_n 3 (pc' := 29) dX6_take_28 rfl rfl rfl ?_
    refine ex_iadd (pc' := 30) dX6_take_29 rfl ?_
    refine ex_iload 6 (pc' := 32) dX6_take_30 rfl rfl ?_
    refine ex_isub (pc' := 33) dX6_take_32 rfl ?_
    refine ex_istore (lv' := [(7, .int ((((v2 - v6) * 13) + v3) - v6)), (0, .ref (gB G + a0)), (1, .ref (gB G + a1)), (2, .int v2), (3, .int v3), (4, .int v4), (5, .int v5), (6, .int v6)]) (pc' := 35) dX6_take_33 (Nat.le_of_ble_eq_true rfl) rfl rfl ?_
    refine ex_aload_n 1 (pc' := 36) dX6_take_35 rfl rfl rfl ?_
    refine ex_getR (pc' := 39) dX6_take_36 fl_X6_15 rfl (sh6_k h0) (sh6_F1 h0) rfl ?_
    refine ex_iload 0 (pc' := 41) dX6_take_39 rfl rfl ?_
    refine ex_dup2 (pc' := 42) dX6_take_41 rfl rfl rfl ?_
    obtain ⟨hg5, hf⟩ := of_guard hf
    refine ex_lald (pc' := 43) dX6_take_42 (sh6_T1 h0) (inb_in hg5) rfl ?_
    refine ex_iload 5 (pc' := 45) dX6_take_43 rfl rfl ?_
    refine ex_i2l (pc' := 46) dX6_take_45 rfl ?_
    refine ex_aload_n 2 (pc' := 47) dX6_take_46 rfl rfl rfl ?_
    refine ex_iload 7 (pc' := 49) dX6_take_47 rfl rfl ?_
    obtain ⟨hg6, hf⟩ := of_guard hf
    refine ex_lald (pc' := 50) dX6_take_49 h1 (inb_in hg6) rfl ?_
    refine ex_lmul (pc' := 51) dX6_take_50 rfl ?_
    refine ex_ladd (pc' := 52) dX6_take_51 rfl ?_
    obtain ⟨hg7, hf⟩ := of_guard hf
    refine ex_last (pc' := 53) dX6_take_52 (sh6_T1 h0) (inb_in hg7) rfl ?_
    obtain ⟨L8, hL8, hf⟩ := of_let hf
    rw [← hL8]
    refine ex_aload_n 1 (pc' := 54) dX6_take_53 rfl rfl rfl ?_
    refine ex_getR (pc' := 57) dX6_take_54 fl_X6_15 rfl (sh6_k h0) (sh6_F1 h0) rfl ?_
    refine ex_iload 0 (pc' := 59) dX6_take_57 rfl rfl ?_
    obtain ⟨hg9, hf⟩ := of_guard hf
    refine ex_lald (pc' := 60) dX6_take_59 (sh6_T1 h0) (inb_in hg9) rfl ?_
    obtain ⟨r10, hq11, hf⟩ := of_bnd1 hf
    refine ex_callS_i (rm' := rmX6_isBeyond) (st := []) (pc' := 63) [.long (L8 (a0 + 2) (Int32.toNatClampNeg ((((v2 - v6) * 13) + v3) - v6)))] dX6_take_60 cl_X6_43 (k_X6_isBeyond G hq11) rfl rfl rfl (ROOM_of rfl) (Nat.le_of_ble_eq_true rfl) rfl rfl ?_
    refine ex_ifeq (tgt := 68) (pc' := 66) dX6_take_63 (by decide) rfl (fun hc12 => ?_) (fun hc12 => ?_)
    · replace hf := if_t hc12 hf
      refine ex_iincc (lv' := [(6, .int (v6 + 1)), (7, .int ((((v2 - v6) * 13) + v3) - v6)), (0, .ref (gB G + a0)), (1, .ref (gB G + a1)), (2, .int v2), (3, .int v3), (4, .int v4), (5, .int v5)]) 7 (pc' := 71) dX6_take_68 rfl ic_1 (Nat.le_of_ble_eq_true rfl) rfl rfl ?_
      refine ex_goto (tgt := 14) dX6_take_71 (by decide) ?_
      exact ex_sub [2, 3, 4, 5, 6, 7, 0] rfl (hC _ _ (Option.some.inj hf).symm)
    · replace hf := if_f hc12 hf
      refine ex_iconst (v := 0) (pc' := 67) dX6_take_66 ic_0 rfl ?_
      exact ex_zret dX6_take_67 rfl (Or.inl rfl) (hR _ _ (Option.some.inj hf).symm)
def f_X6_take_l14 (N : Nat) (a0 : Nat) (a1 : Nat) (n1 : Nat) (v2 : Int32) (v3 : Int32) (v4 : Int32) (v5 : Int32) (v6 : Int32) (L : ML) : Option ((ML) ⊕ (Int32 × ML)) := loopN (fun s => f_X6_take_b14 N a0 a1 n1 v2 v3 v4 v5 s.1 s.2) N (v6, L)
set_option maxRecDepth 100000 in
set_option maxHeartbeats 4000000 in
theorem k_X6_take_l14 {G : GX} {Q : State → Prop} {X : MX} {a0 : Nat} {a1 : Nat} {n1 : Nat} {v2 : Int32} {v3 : Int32} {v4 : Int32} {v5 : Int32} (h0 : shX6 X a0) (h1 : X.1 a1 = (3, n1)) {N0 : Nat} {I : MI} {out : ((ML) ⊕ (Int32 × ML))} (hX : ∀ (L' : ML), out = .inl L' → Ex G mX6_take rmX6_take Q (0, 0) X I L' 74 [(0, .ref (gB G + a0))] []) (hR : ∀ (z : Int32) (L' : ML), out = .inr (z, L') → Q = RetQ G (some (.int z)) X I L' (0, 0)) : ∀ (N : Nat) (v6 : Int32) (L : ML), loopN (fun s => f_X6_take_b14 N0 a0 a1 n1 v2 v3 v4 v5 s.1 s.2) N (v6, L) = some out → Ex G mX6_take rmX6_take Q (0, 0) X I L 14 [(0, .ref (gB G + a0)), (1, .ref (gB G + a1)), (2, .int v2), (3, .int v3), (4, .int v4), (5, .int v5), (6, .int v6)] [] := by
  intro N
  induction N with
  | zero => intro v6 L hf; exact absurd (loopN_zero hf) id
  | succ n ih =>
    intro v6 L hf
    rcases loopN_succ hf with ⟨s, hb, hl⟩ | hb
    · obtain ⟨v6', L'⟩ := s
      refine k_X6_take_b14 h0 h1 hb (fun _ _ he => ?_) (fun _ he => by cases he) (fun _ _ he => by cases he)
      cases he
      exact ih v6' L' hl
    · exact k_X6_take_b14 h0 h1 hb (fun _ _ he => by cases he) (fun x0 he => hX x0 (Sum.inr.inj he)) (fun z0 z1 he => hR z0 z1 (Sum.inr.inj he))
def f_X6_take (N : Nat) (a0 : Nat) (a1 : Nat) (n1 : Nat) (v2 : Int32) (v3 : Int32) (v4 : Int32) (L : ML) : Option (Int32 × ML) := bnd1 (f_X6_begin a0 L) fun L1 => letv (if v3 < v2 then v3 else v2) fun x3 => bns1 (f_X6_take_l14 N a0 a1 n1 v2 v3 v4 x3 0 L1) (fun L13 => bnd1 (f_X6_settle a0 L13) fun L15 => some (1, L15)) (fun q17 => some q17)
set_option maxRecDepth 100000 in
set_option maxHeartbeats 4000000 in
theorem kb_X6_take {G : GX} {Q : State → Prop} {X : MX} {a0 : Nat} {a1 : Nat} {n1 : Nat} {v2 : Int32} {v3 : Int32} {v4 : Int32} (h0 : shX6 X a0) (h1 : X.1 a1 = (3, n1)) {N : Nat} {I : MI} {L : ML} {out : Int32 × ML} (hf : f_X6_take N a0 a1 n1 v2 v3 v4 L = some out) (hR : ∀ (z : Int32) (L' : ML), out = (z, L') → Q = RetQ G (some (.int z)) X I L' (0, 0)) : Ex G mX6_take rmX6_take Q (0, 0) X I L 0 [(0, .ref (gB G + a0)), (1, .ref (gB G + a1)), (2, .int v2), (3, .int v3), (4, .int v4)] [] := by
  unfold f_X6_take at hf
  refine ex_aload_n 0 (pc' := 1) dX6_take_0 rfl rfl rfl ?_
  obtain ⟨L1, hq2, hf⟩ := of_bnd1 hf
  refine ex_callV_v (rm' := rmX6_begin) (st := []) (pc' := 4) [] dX6_take_1 cl_X6_34 (k_X6_begin G h0 hq2) rfl (sh6_k h0) ⟨_, _, rfl⟩ rfl rfl (ROOM_of rfl) (Nat.le_of_ble_eq_true rfl) rfl rfl ?_
  refine ex_iload_n 2 (pc' := 5) dX6_take_4 rfl rfl rfl ?_
  refine ex_iload_n 3 (pc' := 6) dX6_take_5 rfl rfl rfl ?_
  refine ex_mmin (pc' := 9) dX6_take_6 cl_X6_37 ⟨Nat.le_of_ble_eq_true rfl, Nat.le_of_ble_eq_true rfl, Nat.le_of_ble_eq_true rfl, Nat.le_of_ble_eq_true rfl⟩ rfl ?_
  obtain ⟨x3, hx3, hf⟩ := of_let hf
  rw [← hx3]
  refine ex_istore (lv' := [(5, .int x3), (0, .ref (gB G + a0)), (1, .ref (gB G + a1)), (2, .int v2), (3, .int v3), (4, .int v4)]) (pc' := 11) dX6_take_9 (Nat.le_of_ble_eq_true rfl) rfl rfl ?_
  refine ex_iconst (v := 0) (pc' := 12) dX6_take_11 ic_0 rfl ?_
  refine ex_istore (lv' := [(6, .int 0), (5, .int x3), (0, .ref (gB G + a0)), (1, .ref (gB G + a1)), (2, .int v2), (3, .int v3), (4, .int v4)]) (pc' := 14) dX6_take_12 (Nat.le_of_ble_eq_true rfl) rfl rfl ?_
  refine ex_sub (lv' := [(0, .ref (gB G + a0)), (1, .ref (gB G + a1)), (2, .int v2), (3, .int v3), (4, .int v4), (5, .int x3), (6, .int 0)]) [2, 3, 4, 5, 6, 1, 0] rfl ?_
  rcases of_bns1 hf with ⟨L13, hq14, hf⟩ | ⟨q17, hq14, hf⟩
  · refine k_X6_take_l14 h0 h1 (fun L13' he => ?_) (fun _ _ he => by cases he) _ _ _ hq14
    cases he
    refine ex_aload_n 0 (pc' := 75) dX6_take_74 rfl rfl rfl ?_
    obtain ⟨L15, hq16, hf⟩ := of_bnd1 hf
    refine ex_callV_v (rm' := rmX6_settle) (st := []) (pc' := 78) [] dX6_take_75 cl_X6_47 (k_X6_settle G h0 hq16) rfl (sh6_k h0) ⟨_, _, rfl⟩ rfl rfl (ROOM_of rfl) (Nat.le_of_ble_eq_true rfl) rfl rfl ?_
    refine ex_iconst (v := 1) (pc' := 79) dX6_take_78 ic_1 rfl ?_
    exact ex_zret dX6_take_79 rfl (Or.inr rfl) (hR _ _ (Option.some.inj hf).symm)
  · refine k_X6_take_l14 h0 h1 (fun _ he => by cases he) (fun z0 z1 he => ?_) _ _ _ hq14
    refine hR _ _ ?_
    rw [← Option.some.inj hf]
    cases he
    rfl
set_option maxRecDepth 100000 in
set_option maxHeartbeats 4000000 in
theorem k_X6_take (G : GX) {X : MX} {a0 : Nat} {a1 : Nat} {n1 : Nat} {v2 : Int32} {v3 : Int32} {v4 : Int32} (h0 : shX6 X a0) (h1 : X.1 a1 = (3, n1)) {N : Nat} {I : MI} {L : ML} {z : Int32} {L' : ML} (hf : f_X6_take N a0 a1 n1 v2 v3 v4 L = some (z, L')) : Con G mX6_take yX6_take rmX6_take (fun B => [.ref (B + a0), .ref (B + a1), .int v2, .int v3, .int v4]) X I L (some (.int z)) X I L' :=
  Con.of (by decide) rfl (fun h => by cases h) (fun B => Nat.le_of_ble_eq_true rfl) (fun G => kb_X6_take h0 h1 hf (fun _ _ he => by cases he; rfl))
theorem cl_X6_18 : CLS RX6 18 yJ7_fill_d0a16 mJ7_fill_d0a16 none 2 := ⟨⟨lwg_at 393 (by decide +kernel) rfl, lwg_at 379 (by decide +kernel) rfl, lwg_at 55 (by decide +kernel) rfl⟩, lwg_at 380 (by decide +kernel) rfl, ⟨by decide +kernel, by decide +kernel, by decide +kernel⟩⟩
-- X6_wipe ('RookWords$Sum', 'wipe', '()V')
def rmX6_wipe : RM := ((1, 24, 0, 0), false, none)
def f_X6_wipe (N : Nat) (a0 : Nat) (L : ML) : Option (ML) := bnd1 (f_J7_fill_d0a16 N (a0 + 1) 169 0 L) fun L1 => some L1
set_option maxRecDepth 100000 in
set_option maxHeartbeats 4000000 in
theorem kb_X6_wipe {G : GX} {Q : State → Prop} {X : MX} {a0 : Nat} (h0 : shX6 X a0) {N : Nat} {I : MI} {L : ML} {out : ML} (hf : f_X6_wipe N a0 L = some out) (hR : ∀ (L' : ML), out = L' → Q = RetQ G none X I L' (0, 0)) : Ex G mX6_wipe rmX6_wipe Q (0, 0) X I L 0 [(0, .ref (gB G + a0))] [] := by
  unfold f_X6_wipe at hf
  refine ex_aload_n 0 (pc' := 1) dX6_wipe_0 rfl rfl rfl ?_
  refine ex_getR (pc' := 4) dX6_wipe_1 fl_X6_11 rfl (sh6_k h0) (sh6_F0 h0) rfl ?_
  refine ex_lconst (v := 0) (pc' := 5) dX6_wipe_4 lc_0 rfl ?_
  obtain ⟨L1, hq2, hf⟩ := of_bnd1 hf
  refine ex_callS_v (rm' := rmJ7_fill_d0a16) (st := []) (pc' := 8) [.ref (gB G + (a0 + 1)), .long 0] dX6_wipe_5 cl_X6_18 (k_J7_fill_d0a16 G (sh6_T0 h0) hq2) rfl rfl rfl (ROOM_of rfl) (Nat.le_of_ble_eq_true rfl) rfl rfl ?_
  exact ex_vret dX6_wipe_8 rfl (hR _ (Option.some.inj hf).symm)
set_option maxRecDepth 100000 in
set_option maxHeartbeats 4000000 in
theorem k_X6_wipe (G : GX) {X : MX} {a0 : Nat} (h0 : shX6 X a0) {N : Nat} {I : MI} {L : ML} {L' : ML} (hf : f_X6_wipe N a0 L = some L') : Con G mX6_wipe yX6_wipe rmX6_wipe (fun B => [.ref (B + a0)]) X I L none X I L' :=
  Con.of (by decide) rfl (fun h => by cases h) (fun B => Nat.le_of_ble_eq_true rfl) (fun G => kb_X6_wipe h0 hf (fun _ he => by cases he; rfl))
theorem fl_X7_9 : FLD RX7 9 7 0 false := ⟨RX7, TX7, 3, rfl, inX7, by decide, lwg_at 237 (by decide +kernel) rfl, nmX7, tyX7_ok, rfl, rfl⟩
theorem lc_1 : Int64.ofNat ((1 : Fin 2) : Nat) = 1 := by decide
-- X7_asItem ('RookWords$Tape', 'asItem', '(J)J')
def rmX7_asItem : RM := ((0, 0, 0, 0), false, (some FieldType.long))
def f_X7_asItem (a0 : Nat) (v1 : Int64) (I : MI) : Option (Int64) := (if (I a0 0) = 0 then some (Int32.toInt64 (Int8.toInt32 (Int32.toInt8 (Int64.toInt32 v1)))) else (if (I a0 0) = 1 then some (Int32.toInt64 (Int16.toInt32 (Int32.toInt16 (Int64.toInt32 v1)))) else (if (I a0 0) = 2 then some (Int32.toInt64 (Int64.toInt32 v1)) else (if (I a0 0) = 3 then some v1 else (if (I a0 0) = 4 then (if v1 = 0 then some 0 else some 1) else some v1)))))
set_option maxRecDepth 100000 in
set_option maxHeartbeats 4000000 in
theorem kb_X7_asItem {G : GX} {Q : State → Prop} {X : MX} {a0 : Nat} {v1 : Int64} (h0 : shX7 X a0) {I : MI} {L : ML} {out : Int64} (hf : f_X7_asItem a0 v1 I = some out) (hR : ∀ (z : Int64), out = z → Q = RetQ G (some (.long z)) X I L (0, 0)) : Ex G mX7_asItem rmX7_asItem Q (0, 0) X I L 0 [(0, .ref (gB G + a0)), (1, .long v1)] [] := by
  unfold f_X7_asItem at hf
  refine ex_aload_n 0 (pc' := 1) dX7_asItem_0 rfl rfl rfl ?_
  refine ex_getI (pc' := 4) dX7_asItem_1 fl_X7_9 rfl (sh7_k h0) rfl ?_
  by_cases hc1 : (I a0 0) = 0
  · replace hf := if_t hc1 hf
    refine ex_tableIn (off := 36) (tgt := 40) dX7_asItem_4 (by rw [hc1]; decide) (by rw [hc1]; decide) (by rw [hc1]; decide) (by decide) ?_
    refine ex_lload_n 1 (pc' := 41) dX7_asItem_40 rfl rfl rfl ?_
    refine ex_l2i (pc' := 42) dX7_asItem_41 rfl ?_
    refine ex_i2b (pc' := 43) dX7_asItem_42 rfl ?_
    refine ex_i2l (pc' := 44) dX7_asItem_43 rfl ?_
    exact ex_lret dX7_asItem_44 rfl (hR _ (Option.some.inj hf).symm)
  replace hf := if_f hc1 hf
  by_cases hc2 : (I a0 0) = 1
  · replace hf := if_t hc2 hf
    refine ex_tableIn (off := 41) (tgt := 45) dX7_asItem_4 (by rw [hc2]; decide) (by rw [hc2]; decide) (by rw [hc2]; decide) (by decide) ?_
    refine ex_lload_n 1 (pc' := 46) dX7_asItem_45 rfl rfl rfl ?_
    refine ex_l2i (pc' := 47) dX7_asItem_46 rfl ?_
    refine ex_i2s (pc' := 48) dX7_asItem_47 rfl ?_
    refine ex_i2l (pc' := 49) dX7_asItem_48 rfl ?_
    exact ex_lret dX7_asItem_49 rfl (hR _ (Option.some.inj hf).symm)
  replace hf := if_f hc2 hf
  by_cases hc3 : (I a0 0) = 2
  · replace hf := if_t hc3 hf
    refine ex_tableIn (off := 46) (tgt := 50) dX7_asItem_4 (by rw [hc3]; decide) (by rw [hc3]; decide) (by rw [hc3]; decide) (by decide) ?_
    refine ex_lload_n 1 (pc' := 51) dX7_asItem_50 rfl rfl rfl ?_
    refine ex_l2i (pc' := 52) dX7_asItem_51 rfl ?_
    refine ex_i2l (pc' := 53) dX7_asItem_52 rfl ?_
    exact ex_lret dX7_asItem_53 rfl (hR _ (Option.some.inj hf).symm)
  replace hf := if_f hc3 hf
  by_cases hc4 : (I a0 0) = 3
  · replace hf := if_t hc4 hf
    refine ex_tableIn (off := 62) (tgt := 66) dX7_asItem_4 (by rw [hc4]; decide) (by rw [hc4]; decide) (by rw [hc4]; decide) (by decide) ?_
    refine ex_lload_n 1 (pc' := 67) dX7_asItem_66 rfl rfl rfl ?_
    exact ex_lret dX7_asItem_67 rfl (hR _ (Option.some.inj hf).symm)
  replace hf := if_f hc4 hf
  by_cases hc5 : (I a0 0) = 4
  · replace hf := if_t hc5 hf
    refine ex_tableIn (off := 50) (tgt := 54) dX7_asItem_4 (by rw [hc5]; decide) (by rw [hc5]; decide) (by rw [hc5]; decide) (by decide) ?_
    refine ex_lload_n 1 (pc' := 55) dX7_asItem_54 rfl rfl rfl ?_
    refine ex_lconst (v := 0) (pc' := 56) dX7_asItem_55 lc_0 rfl ?_
    refine ex_lcmp (pc' := 57) dX7_asItem_56 rfl ?_
    refine ex_lifeq (tgt := 64) (pc' := 60) dX7_asItem_57 (by decide) rfl (fun hc6 => ?_) (fun hc6 => ?_)
    · replace hf := if_t hc6 hf
      refine ex_lconst (v := 0) (pc' := 65) dX7_asItem_64 lc_0 rfl ?_
      exact ex_lret dX7_asItem_65 rfl (hR _ (Option.some.inj hf).symm)
    · replace hf := if_f hc6 hf
      refine ex_lconst (v := 1) (pc' := 61) dX7_asItem_60 lc_1 rfl ?_
      refine ex_goto (tgt := 65) dX7_asItem_61 (by decide) ?_
      exact ex_lret dX7_asItem_65 rfl (hR _ (Option.some.inj hf).symm)
  replace hf := if_f hc5 hf
  have hc1t := lv_neT (a := 0) hc1 (by decide)
  have hc2t := lv_neT (a := 1) hc2 (by decide)
  have hc3t := lv_neT (a := 2) hc3 (by decide)
  have hc4t := lv_neT (a := 3) hc4 (by decide)
  have hc5t := lv_neT (a := 4) hc5 (by decide)
  refine ex_tableOut (tgt := 66) dX7_asItem_4 (by omega) (by decide) ?_
  refine ex_lload_n 1 (pc' := 67) dX7_asItem_66 rfl rfl rfl ?_
  exact ex_lret dX7_asItem_67 rfl (hR _ (Option.some.inj hf).symm)
set_option maxRecDepth 100000 in
set_option maxHeartbeats 4000000 in
theorem k_X7_asItem (G : GX) {X : MX} {a0 : Nat} {v1 : Int64} (h0 : shX7 X a0) {I : MI} {L : ML} {z : Int64} (hf : f_X7_asItem a0 v1 I = some z) : Con G mX7_asItem yX7_asItem rmX7_asItem (fun B => [.ref (B + a0), .long v1]) X I L (some (.long z)) X I L :=
  Con.of (by decide) rfl (fun h => by cases h) (fun B => Nat.le_of_ble_eq_true rfl) (fun G => kb_X7_asItem h0 hf (fun _ he => by cases he; rfl))
theorem fl_X7_19 : FLD RX7 19 7 1 false := ⟨RX7, TX7, 3, rfl, inX7, by decide, lwg_at 239 (by decide +kernel) rfl, nmX7, tyX7_ok, rfl, rfl⟩
theorem fl_X7_15 : FLD RX7 15 7 2 true := ⟨RX7, TX7, 3, rfl, inX7, by decide, lwg_at 241 (by decide +kernel) rfl, nmX7, tyX7_ok, rfl, rfl⟩
theorem cl_X7_22 : CLS RX7 22 yJ7_fill_d0a16 mJ7_fill_d0a16 none 2 := ⟨⟨lwg_at 906 (by decide +kernel) rfl, lwg_at 379 (by decide +kernel) rfl, lwg_at 55 (by decide +kernel) rfl⟩, lwg_at 380 (by decide +kernel) rfl, ⟨by decide +kernel, by decide +kernel, by decide +kernel⟩⟩
-- X7_become ('RookWords$Tape', 'become', '(II)V')
def rmX7_become : RM := ((1, 24, 0, 0), false, none)
def f_X7_become (N : Nat) (a0 : Nat) (v1 : Int32) (v2 : Int32) (I : MI) (L : ML) : Option (MI × ML) := letv (upI I a0 0 v1) fun I1 => letv (upI I1 a0 1 v2) fun I2 => bnd1 (f_J7_fill_d0a16 N (a0 + 1) 60 0 L) fun L3 => some (I2, L3)
set_option maxRecDepth 100000 in
set_option maxHeartbeats 4000000 in
theorem kb_X7_become {G : GX} {Q : State → Prop} {X : MX} {a0 : Nat} {v1 : Int32} {v2 : Int32} (h0 : shX7 X a0) {N : Nat} {I : MI} {L : ML} {out : MI × ML} (hf : f_X7_become N a0 v1 v2 I L = some out) (hR : ∀ (I' : MI) (L' : ML), out = (I', L') → Q = RetQ G none X I' L' (0, 0)) : Ex G mX7_become rmX7_become Q (0, 0) X I L 0 [(0, .ref (gB G + a0)), (1, .int v1), (2, .int v2)] [] := by
  unfold f_X7_become at hf
  refine ex_aload_n 0 (pc' := 1) dX7_become_0 rfl rfl rfl ?_
  refine ex_iload_n 1 (pc' := 2) dX7_become_1 rfl rfl rfl ?_
  refine ex_putI (pc' := 5) dX7_become_2 fl_X7_9 rfl (sh7_k h0) rfl ?_
  obtain ⟨I1, hI1, hf⟩ := of_let hf
  rw [← hI1]
  refine ex_aload_n 0 (pc' := 6) dX7_become_5 rfl rfl rfl ?_
  refine ex_iload_n 2 (pc' := 7) dX7_become_6 rfl rfl rfl ?_
  refine ex_putI (pc' := 10) dX7_become_7 fl_X7_19 rfl (sh7_k h0) rfl ?_
  obtain ⟨I2, hI2, hf⟩ := of_let hf
  rw [← hI2]
  refine ex_aload_n 0 (pc' := 11) dX7_become_10 rfl rfl rfl ?_
  refine ex_getR (pc' := 14) dX7_become_11 fl_X7_15 rfl (sh7_k h0) (sh7_F2 h0) rfl ?_
  refine ex_lconst (v := 0) (pc' := 15) dX7_become_14 lc_0 rfl ?_
  obtain ⟨L3, hq4, hf⟩ := of_bnd1 hf
  refine ex_callS_v (rm' := rmJ7_fill_d0a16) (st := []) (pc' := 18) [.ref (gB G + (a0 + 1)), .long 0] dX7_become_15 cl_X7_22 (k_J7_fill_d0a16 G (sh7_T2 h0) hq4) rfl rfl rfl (ROOM_of rfl) (Nat.le_of_ble_eq_true rfl) rfl rfl ?_
  exact ex_vret dX7_become_18 rfl (hR _ _ (Option.some.inj hf).symm)
set_option maxRecDepth 100000 in
set_option maxHeartbeats 4000000 in
theorem k_X7_become (G : GX) {X : MX} {a0 : Nat} {v1 : Int32} {v2 : Int32} (h0 : shX7 X a0) {N : Nat} {I : MI} {L : ML} {I' : MI} {L' : ML} (hf : f_X7_become N a0 v1 v2 I L = some (I', L')) : Con G mX7_become yX7_become rmX7_become (fun B => [.ref (B + a0), .int v1, .int v2]) X I L none X I' L' :=
  Con.of (by decide) rfl (fun h => by cases h) (fun B => Nat.le_of_ble_eq_true rfl) (fun G => kb_X7_become h0 hf (fun _ _ he => by cases he; rfl))
-- X7_hasPart ('RookWords$Tape', 'hasPart', '(II)Z')
def rmX7_hasPart : RM := ((0, 0, 0, 0), false, (some FieldType.boolean))
def f_X7_hasPart (a0 : Nat) (v1 : Int32) (v2 : Int32) (I : MI) : Option (Int32) := (if v2 < 0 then some 0 else (if v1 < 0 then some 0 else (if (I a0 1) < v2 then some 0 else (if ((I a0 1) - v2) < v1 then some 0 else some 1))))
set_option maxRecDepth 100000 in
set_option maxHeartbeats 4000000 in
theorem kb_X7_hasPart {G : GX} {Q : State → Prop} {X : MX} {a0 : Nat} {v1 : Int32} {v2 : Int32} (h0 : shX7 X a0) {I : MI} {L : ML} {out : Int32} (hf : f_X7_hasPart a0 v1 v2 I = some out) (hR : ∀ (z : Int32), out = z → Q = RetQ G (some (.int z)) X I L (0, 0)) : Ex G mX7_hasPart rmX7_hasPart Q (0, 0) X I L 0 [(0, .ref (gB G + a0)), (1, .int v1), (2, .int v2)] [] := by
  unfold f_X7_hasPart at hf
  refine ex_iload_n 2 (pc' := 1) dX7_hasPart_0 rfl rfl rfl ?_
  refine ex_iflt (tgt := 30) (pc' := 4) dX7_hasPart_1 (by decide) rfl (fun hc1 => ?_) (fun hc1 => ?_)
  · replace hf := if_t hc1 hf
    refine ex_iconst (v := 0) (pc' := 31) dX7_hasPart_30 ic_0 rfl ?_
    exact ex_zret dX7_hasPart_31 rfl (Or.inl rfl) (hR _ (Option.some.inj hf).symm)
  · replace hf := if_f hc1 hf
    refine ex_iload_n 1 (pc' := 5) dX7_hasPart_4 rfl rfl rfl ?_
    refine ex_iflt (tgt := 30) (pc' := 8) dX7_hasPart_5 (by decide) rfl (fun hc2 => ?_) (fun hc2 => ?_)
    · replace hf := if_t hc2 hf
      refine ex_iconst (v := 0) (pc' := 31) dX7_hasPart_30 ic_0 rfl ?_
      exact ex_zret dX7_hasPart_31 rfl (Or.inl rfl) (hR _ (Option.some.inj hf).symm)
    · replace hf := if_f hc2 hf
      refine ex_iload_n 2 (pc' := 9) dX7_hasPart_8 rfl rfl rfl ?_
      refine ex_aload_n 0 (pc' := 10) dX7_hasPart_9 rfl rfl rfl ?_
      refine ex_getI (pc' := 13) dX7_hasPart_10 fl_X7_19 rfl (sh7_k h0) rfl ?_
      refine ex_icmpgt (tgt := 30) (pc' := 16) dX7_hasPart_13 (by decide) rfl (fun hc3 => ?_) (fun hc3 => ?_)
      · replace hf := if_t hc3 hf
        refine ex_iconst (v := 0) (pc' := 31) dX7_hasPart_30 ic_0 rfl ?_
        exact ex_zret dX7_hasPart_31 rfl (Or.inl rfl) (hR _ (Option.some.inj hf).symm)
      · replace hf := if_f hc3 hf
        refine ex_iload_n 1 (pc' := 17) dX7_hasPart_16 rfl rfl rfl ?_
        refine ex_aload_n 0 (pc' := 18) dX7_hasPart_17 rfl rfl rfl ?_
        refine ex_getI (pc' := 21) dX7_hasPart_18 fl_X7_19 rfl (sh7_k h0) rfl ?_
        refine ex_iload_n 2 (pc' := 22) dX7_hasPart_21 rfl rfl rfl ?_
        refine ex_isub (pc' := 23) dX7_hasPart_22 rfl ?_
        refine ex_icmpgt (tgt := 30) (pc' := 26) dX7_hasPart_23 (by decide) rfl (fun hc4 => ?_) (fun hc4 => ?_)
        · replace hf := if_t hc4 hf
          refine ex_iconst (v := 0) (pc' := 31) dX7_hasPart_30 ic_0 rfl ?_
          exact ex_zret dX7_hasPart_31 rfl (Or.inl rfl) (hR _ (Option.some.inj hf).symm)
        · replace hf := if_f hc4 hf
          refine ex_iconst (v := 1) (pc' := 27) dX7_hasPart_26 ic_1 rfl ?_
          refine ex_goto (tgt := 31) dX7_hasPart_27 (by decide) ?_
          exact ex_zret dX7_hasPart_31 rfl (Or.inr rfl) (hR _ (Option.some.inj hf).symm)
set_option maxRecDepth 100000 in
set_option maxHeartbeats 4000000 in
theorem k_X7_hasPart (G : GX) {X : MX} {a0 : Nat} {v1 : Int32} {v2 : Int32} (h0 : shX7 X a0) {I : MI} {L : ML} {z : Int32} (hf : f_X7_hasPart a0 v1 v2 I = some z) : Con G mX7_hasPart yX7_hasPart rmX7_hasPart (fun B => [.ref (B + a0), .int v1, .int v2]) X I L (some (.int z)) X I L :=
  Con.of (by decide) rfl (fun h => by cases h) (fun B => Nat.le_of_ble_eq_true rfl) (fun G => kb_X7_hasPart h0 hf (fun _ he => by cases he; rfl))
theorem fl_X8_11 : FLD RX8 11 8 0 true := ⟨RX8, TX8, 4, rfl, inX8, by decide, lwg_at 200 (by decide +kernel) rfl, nmX8, tyX8_ok, rfl, rfl⟩
-- X8_isLetter ('RookWords$Text', 'isLetter', '(I)Z')
def rmX8_isLetter : RM := ((0, 0, 0, 0), false, (some FieldType.boolean))
def f_X8_isLetter (v1 : Int32) (I : MI) : Option (Int32) := if inb v1 80 then (if (I 73 (Int32.toNatClampNeg v1)) = 85 then some 1 else if inb v1 80 then (if (I 73 (Int32.toNatClampNeg v1)) = 68 then some 1 else some 0) else none) else none
set_option maxRecDepth 100000 in
set_option maxHeartbeats 4000000 in
theorem kb_X8_isLetter {G : GX} {Q : State → Prop} {X : MX} (hM : shX10 X) {v1 : Int32}  {I : MI} {L : ML} {out : Int32} (hf : f_X8_isLetter v1 I = some out) (hR : ∀ (z : Int32), out = z → Q = RetQ G (some (.int z)) X I L (0, 0)) : Ex G mX8_isLetter rmX8_isLetter Q (0, 0) X I L 0 [(0, .ref (gB G + 72)), (1, .int v1)] [] := by
  unfold f_X8_isLetter at hf
  refine ex_aload_n 0 (pc' := 1) dX8_isLetter_0 rfl rfl rfl ?_
  refine ex_getR (pc' := 4) dX8_isLetter_1 fl_X8_11 rfl (sh8_k (sh10_T4 hM)) (sh8_F0 (sh10_T4 hM)) rfl ?_
  refine ex_iload_n 1 (pc' := 5) dX8_isLetter_4 rfl rfl rfl ?_
  obtain ⟨hg1, hf⟩ := of_guard hf
  refine ex_iald (pc' := 6) dX8_isLetter_5 (sh8_T0 (sh10_T4 hM)) (inb_in hg1) rfl ?_
  refine ex_bipush (v := 85) (pc' := 8) dX8_isLetter_6 bp_85 rfl ?_
  refine ex_icmpeq (tgt := 22) (pc' := 11) dX8_isLetter_8 (by decide) rfl (fun hc2 => ?_) (fun hc2 => ?_)
  · replace hf := if_t hc2 hf
    refine ex_iconst (v := 1) (pc' := 23) dX8_isLetter_22 ic_1 rfl ?_
    refine ex_goto (tgt := 27) dX8_isLetter_23 (by decide) ?_
    exact ex_zret dX8_isLetter_27 rfl (Or.inr rfl) (hR _ (Option.some.inj hf).symm)
  · replace hf := if_f hc2 hf
    refine ex_aload_n 0 (pc' := 12) dX8_isLetter_11 rfl rfl rfl ?_
    refine ex_getR (pc' := 15) dX8_isLetter_12 fl_X8_11 rfl (sh8_k (sh10_T4 hM)) (sh8_F0 (sh10_T4 hM)) rfl ?_
    refine ex_iload_n 1 (pc' := 16) dX8_isLetter_15 rfl rfl rfl ?_
    obtain ⟨hg3, hf⟩ := of_guard hf
    refine ex_iald (pc' := 17) dX8_isLetter_16 (sh8_T0 (sh10_T4 hM)) (inb_in hg3) rfl ?_
    refine ex_bipush (v := 68) (pc' := 19) dX8_isLetter_17 bp_68 rfl ?_
    refine ex_icmpne (tgt := 26) (pc' := 22) dX8_isLetter_19 (by decide) rfl (fun hc4 => ?_) (fun hc4 => ?_)
    · replace hf := if_t hc4 hf
      refine ex_iconst (v := 1) (pc' := 23) dX8_isLetter_22 ic_1 rfl ?_
      refine ex_goto (tgt := 27) dX8_isLetter_23 (by decide) ?_
      exact ex_zret dX8_isLetter_27 rfl (Or.inr rfl) (hR _ (Option.some.inj hf).symm)
    · replace hf := if_f hc4 hf
      refine ex_iconst (v := 0) (pc' := 27) dX8_isLetter_26 ic_0 rfl ?_
      exact ex_zret dX8_isLetter_27 rfl (Or.inl rfl) (hR _ (Option.some.inj hf).symm)
set_option maxRecDepth 100000 in
set_option maxHeartbeats 4000000 in
theorem k_X8_isLetter (G : GX) {X : MX} (hM : shX10 X) {v1 : Int32}  {I : MI} {L : ML} {z : Int32} (hf : f_X8_isLetter v1 I = some z) : Con G mX8_isLetter yX8_isLetter rmX8_isLetter (fun B => [.ref (B + 72), .int v1]) X I L (some (.int z)) X I L :=
  Con.of (by decide) rfl (fun h => by cases h) (fun B => Nat.le_of_ble_eq_true rfl) (fun G => kb_X8_isLetter hM  hf (fun _ he => by cases he; rfl))
theorem fl_X8_21 : FLD RX8 21 8 1 false := ⟨RX8, TX8, 4, rfl, inX8, by decide, lwg_at 201 (by decide +kernel) rfl, nmX8, tyX8_ok, rfl, rfl⟩
theorem bp_57 : (Int8.ofInt 57).toInt32 = 57 := by decide
-- X8_isFigure ('RookWords$Text', 'isFigure', '(I)Z')
def rmX8_isFigure : RM := ((0, 0, 0, 0), false, (some FieldType.boolean))
def f_X8_isFigure (v1 : Int32) (I : MI) : Option (Int32) := (if v1 < (I 72 1) then if inb v1 80 then (if (I 73 (Int32.toNatClampNeg v1)) < 48 then some 0 else if inb v1 80 then (if 57 < (I 73 (Int32.toNatClampNeg v1)) then some 0 else some 1) else none) else none else some 0)
set_option maxRecDepth 100000 in
set_option maxHeartbeats 4000000 in
theorem kb_X8_isFigure {G : GX} {Q : State → Prop} {X : MX} (hM : shX10 X) {v1 : Int32}  {I : MI} {L : ML} {out : Int32} (hf : f_X8_isFigure v1 I = some out) (hR : ∀ (z : Int32), out = z → Q = RetQ G (some (.int z)) X I L (0, 0)) : Ex G mX8_isFigure rmX8_isFigure Q (0, 0) X I L 0 [(0, .ref (gB G + 72)), (1, .int v1)] [] := by
  unfold f_X8_isFigure at hf
  refine ex_iload_n 1 (pc' := 1) dX8_isFigure_0 rfl rfl rfl ?_
  refine ex_aload_n 0 (pc' := 2) dX8_isFigure_1 rfl rfl rfl ?_
  refine ex_getI (pc' := 5) dX8_isFigure_2 fl_X8_21 rfl (sh8_k (sh10_T4 hM)) rfl ?_
  refine ex_icmpge (tgt := 34) (pc' := 8) dX8_isFigure_5 (by decide) rfl (fun hc1 => ?_) (fun hc1 => ?_)
  · replace hf := if_t hc1 hf
    refine ex_aload_n 0 (pc' := 9) dX8_isFigure_8 rfl rfl rfl ?_
    refine ex_getR (pc' := 12) dX8_isFigure_9 fl_X8_11 rfl (sh8_k (sh10_T4 hM)) (sh8_F0 (sh10_T4 hM)) rfl ?_
    refine ex_iload_n 1 (pc' := 13) dX8_isFigure_12 rfl rfl rfl ?_
    obtain ⟨hg2, hf⟩ := of_guard hf
    refine ex_iald (pc' := 14) dX8_isFigure_13 (sh8_T0 (sh10_T4 hM)) (inb_in hg2) rfl ?_
    refine ex_bipush (v := 48) (pc' := 16) dX8_isFigure_14 bp_48 rfl ?_
    refine ex_icmplt (tgt := 34) (pc' := 19) dX8_isFigure_16 (by decide) rfl (fun hc3 => ?_) (fun hc3 => ?_)
    · replace hf := if_t hc3 hf
      refine ex_iconst (v := 0) (pc' := 35) dX8_isFigure_34 ic_0 rfl ?_
      exact ex_zret dX8_isFigure_35 rfl (Or.inl rfl) (hR _ (Option.some.inj hf).symm)
    · replace hf := if_f hc3 hf
      refine ex_aload_n 0 (pc' := 20) dX8_isFigure_19 rfl rfl rfl ?_
      refine ex_getR (pc' := 23) dX8_isFigure_20 fl_X8_11 rfl (sh8_k (sh10_T4 hM)) (sh8_F0 (sh10_T4 hM)) rfl ?_
      refine ex_iload_n 1 (pc' := 24) dX8_isFigure_23 rfl rfl rfl ?_
      obtain ⟨hg4, hf⟩ := of_guard hf
      refine ex_iald (pc' := 25) dX8_isFigure_24 (sh8_T0 (sh10_T4 hM)) (inb_in hg4) rfl ?_
      refine ex_bipush (v := 57) (pc' := 27) dX8_isFigure_25 bp_57 rfl ?_
      refine ex_icmpgt (tgt := 34) (pc' := 30) dX8_isFigure_27 (by decide) rfl (fun hc5 => ?_) (fun hc5 => ?_)
      · replace hf := if_t hc5 hf
        refine ex_iconst (v := 0) (pc' := 35) dX8_isFigure_34 ic_0 rfl ?_
        exact ex_zret dX8_isFigure_35 rfl (Or.inl rfl) (hR _ (Option.some.inj hf).symm)
      · replace hf := if_f hc5 hf
        refine ex_iconst (v := 1) (pc' := 31) dX8_isFigure_30 ic_1 rfl ?_
        refine ex_goto (tgt := 35) dX8_isFigure_31 (by decide) ?_
        exact ex_zret dX8_isFigure_35 rfl (Or.inr rfl) (hR _ (Option.some.inj hf).symm)
  · replace hf := if_f hc1 hf
    refine ex_iconst (v := 0) (pc' := 35) dX8_isFigure_34 ic_0 rfl ?_
    exact ex_zret dX8_isFigure_35 rfl (Or.inl rfl) (hR _ (Option.some.inj hf).symm)
set_option maxRecDepth 100000 in
set_option maxHeartbeats 4000000 in
theorem k_X8_isFigure (G : GX) {X : MX} (hM : shX10 X) {v1 : Int32}  {I : MI} {L : ML} {z : Int32} (hf : f_X8_isFigure v1 I = some z) : Con G mX8_isFigure yX8_isFigure rmX8_isFigure (fun B => [.ref (B + 72), .int v1]) X I L (some (.int z)) X I L :=
  Con.of (by decide) rfl (fun h => by cases h) (fun B => Nat.le_of_ble_eq_true rfl) (fun G => kb_X8_isFigure hM  hf (fun _ he => by cases he; rfl))
theorem cl_X8_25 : CLV RX8 25 yX8_isLetter mX8_isLetter (some FieldType.boolean) 1 := ⟨⟨lwg_at 811 (by decide +kernel) rfl, lwg_at 813 (by decide +kernel) rfl, lwg_at 15 (by decide +kernel) rfl, lwg_at 57 (by decide +kernel) rfl⟩, lwg_at 814 (by decide +kernel) rfl, ⟨by decide +kernel, by decide +kernel, by decide +kernel⟩⟩
theorem bp_40 : (Int8.ofInt 40).toInt32 = 40 := by decide
theorem bp_41 : (Int8.ofInt 41).toInt32 = 41 := by decide
theorem cl_X8_29 : CLV RX8 29 yX8_isFigure mX8_isFigure (some FieldType.boolean) 1 := ⟨⟨lwg_at 815 (by decide +kernel) rfl, lwg_at 817 (by decide +kernel) rfl, lwg_at 16 (by decide +kernel) rfl, lwg_at 57 (by decide +kernel) rfl⟩, lwg_at 818 (by decide +kernel) rfl, ⟨by decide +kernel, by decide +kernel, by decide +kernel⟩⟩
-- X8_fault ('RookWords$Text', 'fault', '()I')
def rmX8_fault : RM := ((1, 21, 0, 0), false, (some FieldType.int))
def f_X8_fault_b9_j89 (N : Nat) (v1 : Int32) (v2 : Int32) (v3 : Int32) (v4 : Int32) (I : MI) : Option ((Int32 × Int32 × Int32 × Int32) ⊕ ((Int32 × Int32) ⊕ (Int32))) := bnd1 (f_X8_isFigure v4 I) fun r12 => (if r12 = 0 then some (.inr (.inr v4)) else (if v3 = 0 then some (.inr (.inr v4)) else some (.inl (v1, v2, 0, v4 + 1))))
set_option maxRecDepth 100000 in
set_option maxHeartbeats 4000000 in
theorem k_X8_fault_b9_j89 {G : GX} {Q : State → Prop} {X : MX} (hM : shX10 X) {v1 : Int32} {v2 : Int32} {v3 : Int32} {v4 : Int32}   {N : Nat} {I : MI} {L : ML} {out : (Int32 × Int32 × Int32 × Int32) ⊕ ((Int32 × Int32) ⊕ (Int32))} (hf : f_X8_fault_b9_j89 N v1 v2 v3 v4 I = some out) (hC : ∀ (v1' : Int32) (v2' : Int32) (v3' : Int32) (v4' : Int32), out = .inl (v1', v2', v3', v4') → Ex G mX8_fault rmX8_fault Q (0, 0) X I L 9 [(0, .ref (gB G + 72)), (1, .int v1'), (2, .int v2'), (3, .int v3'), (4, .int v4')] []) (hX : ∀ (w1 : Int32) (w2 : Int32), out = .inr (.inl (w1, w2)) → Ex G mX8_fault rmX8_fault Q (0, 0) X I L 116 [(0, .ref (gB G + 72)), (1, .int w1), (2, .int w2)] []) (hR : ∀ (z : Int32), out = .inr (.inr z) → Q = RetQ G (some (.int z)) X I L (0, 0)) : Ex G mX8_fault rmX8_fault Q (0, 0) X I L 89 [(0, .ref (gB G + 72)), (1, .int v1), (2, .int v2), (3, .int v3), (4, .int v4)] [] := by
  unfold f_X8_fault_b9_j89 at hf
  refine ex_aload_n 0 (pc' := 90) dX8_fault_89 rfl rfl rfl ?_
  refine ex_iload 4 (pc' := 92) dX8_fault_90 rfl rfl ?_
  obtain ⟨r12, hq13, hf⟩ := of_bnd1 hf
  refine ex_callV_i (rm' := rmX8_isFigure) (st := []) (pc' := 95) [.int v4] dX8_fault_92 cl_X8_29 (k_X8_isFigure G hM hq13) rfl (sh8_k (sh10_T4 hM)) ⟨_, _, rfl⟩ rfl rfl (ROOM_of rfl) (Nat.le_of_ble_eq_true rfl) rfl rfl ?_
  refine ex_ifeq (tgt := 107) (pc' := 98) dX8_fault_95 (by decide) rfl (fun hc14 => ?_) (fun hc14 => ?_)
  · replace hf := if_t hc14 hf
    refine ex_iload 4 (pc' := 109) dX8_fault_107 rfl rfl ?_
    exact ex_iret dX8_fault_109 rfl (hR _ (Option.some.inj hf).symm)
  · replace hf := if_f hc14 hf
    refine ex_iload_n 3 (pc' := 99) dX8_fault_98 rfl rfl rfl ?_
    refine ex_ifeq (tgt := 107) (pc' := 102) dX8_fault_99 (by decide) rfl (fun hc15 => ?_) (fun hc15 => ?_)
    · replace hf := if_t hc15 hf
      refine ex_iload 4 (pc' := 109) dX8_fault_107 rfl rfl ?_
      exact ex_iret dX8_fault_109 rfl (hR _ (Option.some.inj hf).symm)
    · replace hf := if_f hc15 hf
      refine ex_iconst (v := 0) (pc' := 103) dX8_fault_102 ic_0 rfl ?_
      refine ex_istore_n (lv' := [(3, .int 0), (0, .ref (gB G + 72)), (1, .int v1), (2, .int v2), (4, .int v4)]) (pc' := 104) dX8_fault_103 rfl (Nat.le_of_ble_eq_true rfl) rfl rfl ?_
      refine ex_goto (tgt := 110) dX8_fault_104 (by decide) ?_
      refine ex_iincc (lv' := [(4, .int (v4 + 1)), (3, .int 0), (0, .ref (gB G + 72)), (1, .int v1), (2, .int v2)]) 4 (pc' := 113) dX8_fault_110 rfl ic_1 (Nat.le_of_ble_eq_true rfl) rfl rfl ?_
      refine ex_goto (tgt := 9) dX8_fault_113 (by decide) ?_
      exact ex_sub [2, 3, 4, 1, 0] rfl (hC _ _ _ _ (Option.some.inj hf).symm)
def f_X8_fault_b9_j61 (N : Nat) (v1 : Int32) (v2 : Int32) (v3 : Int32) (v4 : Int32) (I : MI) : Option ((Int32 × Int32 × Int32 × Int32) ⊕ ((Int32 × Int32) ⊕ (Int32))) := if inb v4 80 then (if (I 73 (Int32.toNatClampNeg v4)) = 41 then (if 0 < v1 then (if v2 = 0 then f_X8_fault_b9_j89 N v1 v2 v3 v4 I else some (.inl (v1 + (-1), v2, 1, v4 + 1))) else f_X8_fault_b9_j89 N v1 v2 v3 v4 I) else f_X8_fault_b9_j89 N v1 v2 v3 v4 I) else none
set_option maxRecDepth 100000 in
set_option maxHeartbeats 4000000 in
theorem k_X8_fault_b9_j61 {G : GX} {Q : State → Prop} {X : MX} (hM : shX10 X) {v1 : Int32} {v2 : Int32} {v3 : Int32} {v4 : Int32}   {N : Nat} {I : MI} {L : ML} {out : (Int32 × Int32 × Int32 × Int32) ⊕ ((Int32 × Int32) ⊕ (Int32))} (hf : f_X8_fault_b9_j61 N v1 v2 v3 v4 I = some out) (hC : ∀ (v1' : Int32) (v2' : Int32) (v3' : Int32) (v4' : Int32), out = .inl (v1', v2', v3', v4') → Ex G mX8_fault rmX8_fault Q (0, 0) X I L 9 [(0, .ref (gB G + 72)), (1, .int v1'), (2, .int v2'), (3, .int v3'), (4, .int v4')] []) (hX : ∀ (w1 : Int32) (w2 : Int32), out = .inr (.inl (w1, w2)) → Ex G mX8_fault rmX8_fault Q (0, 0) X I L 116 [(0, .ref (gB G + 72)), (1, .int w1), (2, .int w2)] []) (hR : ∀ (z : Int32), out = .inr (.inr z) → Q = RetQ G (some (.int z)) X I L (0, 0)) : Ex G mX8_fault rmX8_fault Q (0, 0) X I L 61 [(0, .ref (gB G + 72)), (1, .int v1), (2, .int v2), (3, .int v3), (4, .int v4)] [] := by
  unfold f_X8_fault_b9_j61 at hf
  refine ex_aload_n 0 (pc' := 62) dX8_fault_61 rfl rfl rfl ?_
  refine ex_getR (pc' := 65) dX8_fault_62 fl_X8_11 rfl (sh8_k (sh10_T4 hM)) (sh8_F0 (sh10_T4 hM)) rfl ?_
  refine ex_iload 4 (pc' := 67) dX8_fault_65 rfl rfl ?_
  obtain ⟨hg8, hf⟩ := of_guard hf
  refine ex_iald (pc' := 68) dX8_fault_67 (sh8_T0 (sh10_T4 hM)) (inb_in hg8) rfl ?_
  refine ex_bipush (v := 41) (pc' := 70) dX8_fault_68 bp_41 rfl ?_
  refine ex_icmpne (tgt := 89) (pc' := 73) dX8_fault_70 (by decide) rfl (fun hc9 => ?_) (fun hc9 => ?_)
  · replace hf := if_t hc9 hf
    refine ex_iload_n 1 (pc' := 74) dX8_fault_73 rfl rfl rfl ?_
    refine ex_ifle (tgt := 89) (pc' := 77) dX8_fault_74 (by decide) rfl (fun hc10 => ?_) (fun hc10 => ?_)
    · replace hf := if_t hc10 hf
      refine ex_iload_n 2 (pc' := 78) dX8_fault_77 rfl rfl rfl ?_
      refine ex_ifeq (tgt := 89) (pc' := 81) dX8_fault_78 (by decide) rfl (fun hc11 => ?_) (fun hc11 => ?_)
      · replace hf := if_t hc11 hf
        refine ex_sub [0, 1, 2, 3, 4] rfl (k_X8_fault_b9_j89 hM  hf hC hX hR)
      · replace hf := if_f hc11 hf
        refine ex_iincc (lv' := [(1, .int (v1 + (-1))), (0, .ref (gB G + 72)), (2, .int v2), (3, .int v3), (4, .int v4)]) 1 (pc' := 84) dX8_fault_81 rfl ic_m1 (Nat.le_of_ble_eq_true rfl) rfl rfl ?_
        refine ex_iconst (v := 1) (pc' := 85) dX8_fault_84 ic_1 rfl ?_
        refine ex_istore_n (lv' := [(3, .int 1), (1, .int (v1 + (-1))), (0, .ref (gB G + 72)), (2, .int v2), (4, .int v4)]) (pc' := 86) dX8_fault_85 rfl (Nat.le_of_ble_eq_true rfl) rfl rfl ?_
        refine ex_goto (tgt := 110) dX8_fault_86 (by decide) ?_
        refine ex_iincc (lv' := [(4, .int (v4 + 1)), (3, .int 1), (1, .int (v1 + (-1))), (0, .ref (gB G + 72)), (2, .int v2)]) 4 (pc' := 113) dX8_fault_110 rfl ic_1 (Nat.le_of_ble_eq_true rfl) rfl rfl ?_
        refine ex_goto (tgt := 9) dX8_fault_113 (by decide) ?_
        exact ex_sub [3, 2, 4, 1, 0] rfl (hC _ _ _ _ (Option.some.inj hf).symm)
    · replace hf := if_f hc10 hf
      refine ex_sub [0, 1, 2, 3, 4] rfl (k_X8_fault_b9_j89 hM  hf hC hX hR)
  · replace hf := if_f hc9 hf
    refine ex_sub [0, 1, 2, 3, 4] rfl (k_X8_fault_b9_j89 hM  hf hC hX hR)
def f_X8_fault_b9 (N : Nat)  (v1 : Int32) (v2 : Int32) (v3 : Int32) (v4 : Int32) (I : MI) : Option ((Int32 × Int32 × Int32 × Int32) ⊕ ((Int32 × Int32) ⊕ (Int32))) := (if v4 < (I 72 1) then bnd1 (f_X8_isLetter v4 I) fun r2 => (if r2 = 0 then if inb v4 80 then (if (I 73 (Int32.toNatClampNeg v4)) = 40 then (if v1 < 4 then some (.inl (v1 + 1, 0, 0, v4 + 1)) else f_X8_fault_b9_j61 N v1 v2 v3 v4 I) else f_X8_fault_b9_j61 N v1 v2 v3 v4 I) else none else some (.inl (v1, 1, 1, v4 + 1))) else some (.inr (.inl (v1, v2))))
set_option maxRecDepth 100000 in
set_option maxHeartbeats 4000000 in
theorem k_X8_fault_b9 {G : GX} {Q : State → Prop} {X : MX} (hM : shX10 X)   {v1 : Int32} {v2 : Int32} {v3 : Int32} {v4 : Int32} {N : Nat} {I : MI} {L : ML} {out : (Int32 × Int32 × Int32 × Int32) ⊕ ((Int32 × Int32) ⊕ (Int32))} (hf : f_X8_fault_b9 N v1 v2 v3 v4 I = some out) (hC : ∀ (v1' : Int32) (v2' : Int32) (v3' : Int32) (v4' : Int32), out = .inl (v1', v2', v3', v4') → Ex G mX8_fault rmX8_fault Q (0, 0) X I L 9 [(0, .ref (gB G + 72)), (1, .int v1'), (2, .int v2'), (3, .int v3'), (4, .int v4')] []) (hX : ∀ (w1 : Int32) (w2 : Int32), out = .inr (.inl (w1, w2)) → Ex G mX8_fault rmX8_fault Q (0, 0) X I L 116 [(0, .ref (gB G + 72)), (1, .int w1), (2, .int w2)] []) (hR : ∀ (z : Int32), out = .inr (.inr z) → Q = RetQ G (some (.int z)) X I L (0, 0)) : Ex G mX8_fault rmX8_fault Q (0, 0) X I L 9 [(0, .ref (gB G + 72)), (1, .int v1), (2, .int v2), (3, .int v3), (4, .int v4)] [] := by
  unfold f_X8_fault_b9 at hf
  refine ex_iload 4 (pc' := 11) dX8_fault_9 rfl rfl ?_
  refine ex_aload_n 0 (pc' := 12) dX8_fault_11 rfl rfl rfl ?_
  refine ex_getI (pc' := 15) dX8_fault_12 fl_X8_21 rfl (sh8_k (sh10_T4 hM)) rfl ?_
  refine ex_icmpge (tgt := 116) (pc' := 18) dX8_fault_15 (by decide) rfl (fun hc1 => ?_) (fun hc1 => ?_)
  · replace hf := if_t hc1 hf
    refine ex_aload_n 0 (pc' := 19) dX8_fault_18 rfl rfl rfl ?_
    refine ex_iload 4 (pc' := 21) dX8_fault_19 rfl rfl ?_
    obtain ⟨r2, hq3, hf⟩ := of_bnd1 hf
    refine ex_callV_i (rm' := rmX8_isLetter) (st := []) (pc' := 24) [.int v4] dX8_fault_21 cl_X8_25 (k_X8_isLetter G hM hq3) rfl (sh8_k (sh10_T4 hM)) ⟨_, _, rfl⟩ rfl rfl (ROOM_of rfl) (Nat.le_of_ble_eq_true rfl) rfl rfl ?_
    refine ex_ifeq (tgt := 34) (pc' := 27) dX8_fault_24 (by decide) rfl (fun hc4 => ?_) (fun hc4 => ?_)
    · replace hf := if_t hc4 hf
      refine ex_aload_n 0 (pc' := 35) dX8_fault_34 rfl rfl rfl ?_
      refine ex_getR (pc' := 38) dX8_fault_35 fl_X8_11 rfl (sh8_k (sh10_T4 hM)) (sh8_F0 (sh10_T4 hM)) rfl ?_
      refine ex_iload 4 (pc' := 40) dX8_fault_38 rfl rfl ?_
      obtain ⟨hg5, hf⟩ := of_guard hf
      refine ex_iald (pc' := 41) dX8_fault_40 (sh8_T0 (sh10_T4 hM)) (inb_in hg5) rfl ?_
      refine ex_bipush (v := 40) (pc' := 43) dX8_fault_41 bp_40 rfl ?_
      refine ex_icmpne (tgt := 61) (pc' := 46) dX8_fault_43 (by decide) rfl (fun hc6 => ?_) (fun hc6 => ?_)
      · replace hf := if_t hc6 hf
        refine ex_iload_n 1 (pc' := 47) dX8_fault_46 rfl rfl rfl ?_
        refine ex_iconst (v := 4) (pc' := 48) dX8_fault_47 ic_4 rfl ?_
        refine ex_icmpge (tgt := 61) (pc' := 51) dX8_fault_48 (by decide) rfl (fun hc7 => ?_) (fun hc7 => ?_)
        · replace hf := if_t hc7 hf
          refine ex_iincc (lv' := [(1, .int (v1 + 1)), (0, .ref (gB G + 72)), (2, .int v2), (3, .int v3), (4, .int v4)]) 1 (pc' := 54) dX8_fault_51 rfl ic_1 (Nat.le_of_ble_eq_true rfl) rfl rfl ?_
          refine ex_iconst (v := 0) (pc' := 55) dX8_fault_54 ic_0 rfl ?_
          refine ex_istore_n (lv' := [(2, .int 0), (1, .int (v1 + 1)), (0, .ref (gB G + 72)), (3, .int v3), (4, .int v4)]) (pc' := 56) dX8_fault_55 rfl (Nat.le_of_ble_eq_true rfl) rfl rfl ?_
          refine ex_iconst (v := 0) (pc' := 57) dX8_fault_56 ic_0 rfl ?_
          refine ex_istore_n (lv' := [(3, .int 0), (2, .int 0), (1, .int (v1 + 1)), (0, .ref (gB G + 72)), (4, .int v4)]) (pc' := 58) dX8_fault_57 rfl (Nat.le_of_ble_eq_true rfl) rfl rfl ?_
          refine ex_goto (tgt := 110) dX8_fault_58 (by decide) ?_
          refine ex_iincc (lv' := [(4, .int (v4 + 1)), (3, .int 0), (2, .int 0), (1, .int (v1 + 1)), (0, .ref (gB G + 72))]) 4 (pc' := 113) dX8_fault_110 rfl ic_1 (Nat.le_of_ble_eq_true rfl) rfl rfl ?_
          refine ex_goto (tgt := 9) dX8_fault_113 (by decide) ?_
          exact ex_sub [4, 3, 2, 1, 0] rfl (hC _ _ _ _ (Option.some.inj hf).symm)
        · replace hf := if_f hc7 hf
          refine ex_sub [0, 1, 2, 3, 4] rfl (k_X8_fault_b9_j61 hM  hf hC hX hR)
      · replace hf := if_f hc6 hf
        refine ex_sub [0, 1, 2, 3, 4] rfl (k_X8_fault_b9_j61 hM  hf hC hX hR)
    · replace hf := if_f hc4 hf
      refine ex_iconst (v := 1) (pc' := 28) dX8_fault_27 ic_1 rfl ?_
      refine ex_istore_n (lv' := [(2, .int 1), (0, .ref (gB G + 72)), (1, .int v1), (3, .int v3), (4, .int v4)]) (pc' := 29) dX8_fault_28 rfl (Nat.le_of_ble_eq_true rfl) rfl rfl ?_
      refine ex_iconst (v := 1) (pc' := 30) dX8_fault_29 ic_1 rfl ?_
      refine ex_istore_n (lv' := [(3, .int 1), (2, .int 1), (0, .ref (gB G + 72)), (1, .int v1), (4, .int v4)]) (pc' := 31) dX8_fault_30 rfl (Nat.le_of_ble_eq_true rfl) rfl rfl ?_
      refine ex_goto (tgt := 110) dX8_fault_31 (by decide) ?_
      refine ex_iincc (lv' := [(4, .int (v4 + 1)), (3, .int 1), (2, .int 1), (0, .ref (gB G + 72)), (1, .int v1)]) 4 (pc' := 113) dX8_fault_110 rfl ic_1 (Nat.le_of_ble_eq_true rfl) rfl rfl ?_
      refine ex_goto (tgt := 9) dX8_fault_113 (by decide) ?_
      exact ex_sub [3, 4, 2, 1, 0] rfl (hC _ _ _ _ (Option.some.inj hf).symm)
  · replace hf := if_f hc1 hf
    exact ex_sub [0, 1, 2] rfl (hX _ _ (Option.some.inj hf).symm)
def f_X8_fault_l9 (N : Nat)  (v1 : Int32) (v2 : Int32) (v3 : Int32) (v4 : Int32) (I : MI) : Option ((Int32 × Int32) ⊕ (Int32)) := loopN (fun s => f_X8_fault_b9 N s.1 s.2.1 s.2.2.1 s.2.2.2 I) N (v1, v2, v3, v4)
set_option maxRecDepth 100000 in
set_option maxHeartbeats 4000000 in
theorem k_X8_fault_l9 {G : GX} {Q : State → Prop} {X : MX} (hM : shX10 X)   {N0 : Nat} {I : MI} {L : ML} {out : ((Int32 × Int32) ⊕ (Int32))} (hX : ∀ (w1 : Int32) (w2 : Int32), out = .inl (w1, w2) → Ex G mX8_fault rmX8_fault Q (0, 0) X I L 116 [(0, .ref (gB G + 72)), (1, .int w1), (2, .int w2)] []) (hR : ∀ (z : Int32), out = .inr z → Q = RetQ G (some (.int z)) X I L (0, 0)) : ∀ (N : Nat) (v1 : Int32) (v2 : Int32) (v3 : Int32) (v4 : Int32), loopN (fun s => f_X8_fault_b9 N0 s.1 s.2.1 s.2.2.1 s.2.2.2 I) N (v1, v2, v3, v4) = some out → Ex G mX8_fault rmX8_fault Q (0, 0) X I L 9 [(0, .ref (gB G + 72)), (1, .int v1), (2, .int v2), (3, .int v3), (4, .int v4)] [] := by
  intro N
  induction N with
  | zero => intro v1 v2 v3 v4 hf; exact absurd (loopN_zero hf) id
  | succ n ih =>
    intro v1 v2 v3 v4 hf
    rcases loopN_succ hf with ⟨s, hb, hl⟩ | hb
    · obtain ⟨v1', v2', v3', v4'⟩ := s
      refine k_X8_fault_b9 hM  hb (fun _ _ _ _ he => ?_) (fun _ _ he => by cases he) (fun _ he => by cases he)
      cases he
      exact ih v1' v2' v3' v4' hl
    · exact k_X8_fault_b9 hM  hb (fun _ _ _ _ he => by cases he) (fun x0 x1 he => hX x0 x1 (Sum.inr.inj he)) (fun z0 he => hR z0 (Sum.inr.inj he))
def f_X8_fault (N : Nat)  (I : MI) : Option (Int32) := bns2 (f_X8_fault_l9 N 0 0 0 0 I) (fun x16 x17 => (if x16 = 0 then (if x17 = 0 then some (I 72 1) else some (-1)) else some (I 72 1))) (fun q21 => some q21)
set_option maxRecDepth 100000 in
set_option maxHeartbeats 4000000 in
theorem kb_X8_fault {G : GX} {Q : State → Prop} {X : MX} (hM : shX10 X)   {N : Nat} {I : MI} {L : ML} {out : Int32} (hf : f_X8_fault N I = some out) (hR : ∀ (z : Int32), out = z → Q = RetQ G (some (.int z)) X I L (0, 0)) : Ex G mX8_fault rmX8_fault Q (0, 0) X I L 0 [(0, .ref (gB G + 72))] [] := by
  unfold f_X8_fault at hf
  refine ex_iconst (v := 0) (pc' := 1) dX8_fault_0 ic_0 rfl ?_
  refine ex_istore_n (lv' := [(1, .int 0), (0, .ref (gB G + 72))]) (pc' := 2) dX8_fault_1 rfl (Nat.le_of_ble_eq_true rfl) rfl rfl ?_
  refine ex_iconst (v := 0) (pc' := 3) dX8_fault_2 ic_0 rfl ?_
  refine ex_istore_n (lv' := [(2, .int 0), (1, .int 0), (0, .ref (gB G + 72))]) (pc' := 4) dX8_fault_3 rfl (Nat.le_of_ble_eq_true rfl) rfl rfl ?_
  refine ex_iconst (v := 0) (pc' := 5) dX8_fault_4 ic_0 rfl ?_
  refine ex_istore_n (lv' := [(3, .int 0), (2, .int 0), (1, .int 0), (0, .ref (gB G + 72))]) (pc' := 6) dX8_fault_5 rfl (Nat.le_of_ble_eq_true rfl) rfl rfl ?_
  refine ex_iconst (v := 0) (pc' := 7) dX8_fault_6 ic_0 rfl ?_
  refine ex_istore (lv' := [(4, .int 0), (3, .int 0), (2, .int 0), (1, .int 0), (0, .ref (gB G + 72))]) (pc' := 9) dX8_fault_7 (Nat.le_of_ble_eq_true rfl) rfl rfl ?_
  refine ex_sub (lv' := [(0, .ref (gB G + 72)), (1, .int 0), (2, .int 0), (3, .int 0), (4, .int 0)]) [4, 3, 2, 1, 0] rfl ?_
  rcases of_bns2 hf with ⟨x16, x17, hq18, hf⟩ | ⟨q21, hq18, hf⟩
  · refine k_X8_fault_l9 hM (fun x16' x17' he => ?_) (fun _ he => by cases he) _ _ _ _ _ hq18
    cases he
    refine ex_iload_n 1 (pc' := 117) dX8_fault_116 rfl rfl rfl ?_
    refine ex_ifne (tgt := 128) (pc' := 120) dX8_fault_117 (by decide) rfl (fun hc19 => ?_) (fun hc19 => ?_)
    · replace hf := if_t hc19 hf
      refine ex_iload_n 2 (pc' := 121) dX8_fault_120 rfl rfl rfl ?_
      refine ex_ifeq (tgt := 128) (pc' := 124) dX8_fault_121 (by decide) rfl (fun hc20 => ?_) (fun hc20 => ?_)
      · replace hf := if_t hc20 hf
        refine ex_aload_n 0 (pc' := 129) dX8_fault_128 rfl rfl rfl ?_
        refine ex_getI (pc' := 132) dX8_fault_129 fl_X8_21 rfl (sh8_k (sh10_T4 hM)) rfl ?_
        exact ex_iret dX8_fault_132 rfl (hR _ (Option.some.inj hf).symm)
      · replace hf := if_f hc20 hf
        refine ex_iconst (v := (-1)) (pc' := 125) dX8_fault_124 ic_m1 rfl ?_
        refine ex_goto (tgt := 132) dX8_fault_125 (by decide) ?_
        exact ex_iret dX8_fault_132 rfl (hR _ (Option.some.inj hf).symm)
    · replace hf := if_f hc19 hf
      refine ex_aload_n 0 (pc' := 129) dX8_fault_128 rfl rfl rfl ?_
      refine ex_getI (pc' := 132) dX8_fault_129 fl_X8_21 rfl (sh8_k (sh10_T4 hM)) rfl ?_
      exact ex_iret dX8_fault_132 rfl (hR _ (Option.some.inj hf).symm)
  · refine k_X8_fault_l9 hM (fun _ _ he => by cases he) (fun z0 he => ?_) _ _ _ _ _ hq18
    refine hR _ ?_
    rw [← Option.some.inj hf]
    cases he
    rfl
set_option maxRecDepth 100000 in
set_option maxHeartbeats 4000000 in
theorem k_X8_fault (G : GX) {X : MX} (hM : shX10 X)   {N : Nat} {I : MI} {L : ML} {z : Int32} (hf : f_X8_fault N I = some z) : Con G mX8_fault yX8_fault rmX8_fault (fun B => [.ref (B + 72)]) X I L (some (.int z)) X I L :=
  Con.of (by decide) rfl (fun h => by cases h) (fun B => Nat.le_of_ble_eq_true rfl) (fun G => kb_X8_fault hM  hf (fun _ he => by cases he; rfl))
theorem bp_80 : (Int8.ofInt 80).toInt32 = 80 := by decide
-- X8_push ('RookWords$Text', 'push', '(I)Z')
def rmX8_push : RM := ((0, 0, 0, 0), false, (some FieldType.boolean))
def f_X8_push (v1 : Int32) (I : MI) : Option (Int32 × MI) := (if (I 72 1) < 80 then if inb (I 72 1) 80 then letv (upI I 73 (Int32.toNatClampNeg (I 72 1)) v1) fun I3 => letv (upI I3 72 1 ((I3 72 1) + 1)) fun I4 => some (1, I4) else none else some (0, I))
set_option maxRecDepth 100000 in
set_option maxHeartbeats 4000000 in
theorem kb_X8_push {G : GX} {Q : State → Prop} {X : MX} (hM : shX10 X) {v1 : Int32}  {I : MI} {L : ML} {out : Int32 × MI} (hf : f_X8_push v1 I = some out) (hR : ∀ (z : Int32) (I' : MI), out = (z, I') → Q = RetQ G (some (.int z)) X I' L (0, 0)) : Ex G mX8_push rmX8_push Q (0, 0) X I L 0 [(0, .ref (gB G + 72)), (1, .int v1)] [] := by
  unfold f_X8_push at hf
  refine ex_aload_n 0 (pc' := 1) dX8_push_0 rfl rfl rfl ?_
  refine ex_getI (pc' := 4) dX8_push_1 fl_X8_21 rfl (sh8_k (sh10_T4 hM)) rfl ?_
  refine ex_bipush (v := 80) (pc' := 6) dX8_push_4 bp_80 rfl ?_
  refine ex_icmplt (tgt := 11) (pc' := 9) dX8_push_6 (by decide) rfl (fun hc1 => ?_) (fun hc1 => ?_)
  · replace hf := if_t hc1 hf
    refine ex_aload_n 0 (pc' := 12) dX8_push_11 rfl rfl rfl ?_
    refine ex_getR (pc' := 15) dX8_push_12 fl_X8_11 rfl (sh8_k (sh10_T4 hM)) (sh8_F0 (sh10_T4 hM)) rfl ?_
    refine ex_aload_n 0 (pc' := 16) dX8_push_15 rfl rfl rfl ?_
    refine ex_getI (pc' := 19) dX8_push_16 fl_X8_21 rfl (sh8_k (sh10_T4 hM)) rfl ?_
    refine ex_iload_n 1 (pc' := 20) dX8_push_19 rfl rfl rfl ?_
    obtain ⟨hg2, hf⟩ := of_guard hf
    refine ex_iast (pc' := 21) dX8_push_20 (sh8_T0 (sh10_T4 hM)) (inb_in hg2) rfl ?_
    obtain ⟨I3, hI3, hf⟩ := of_let hf
    rw [← hI3]
    refine ex_aload_n 0 (pc' := 22) dX8_push_21 rfl rfl rfl ?_
    refine ex_dup (pc' := 23) dX8_push_22 rfl rfl ?_
    refine ex_getI (pc' := 26) dX8_push_23 fl_X8_21 rfl (sh8_k (sh10_T4 hM)) rfl ?_
    refine ex_iconst (v := 1) (pc' := 27) dX8_push_26 ic_1 rfl ?_
    refine ex_iadd (pc' := 28) dX8_push_27 rfl ?_
    refine ex_putI (pc' := 31) dX8_push_28 fl_X8_21 rfl (sh8_k (sh10_T4 hM)) rfl ?_
    obtain ⟨I4, hI4, hf⟩ := of_let hf
    rw [← hI4]
    refine ex_iconst (v := 1) (pc' := 32) dX8_push_31 ic_1 rfl ?_
    exact ex_zret dX8_push_32 rfl (Or.inr rfl) (hR _ _ (Option.some.inj hf).symm)
  · replace hf := if_f hc1 hf
    refine ex_iconst (v := 0) (pc' := 10) dX8_push_9 ic_0 rfl ?_
    exact ex_zret dX8_push_10 rfl (Or.inl rfl) (hR _ _ (Option.some.inj hf).symm)
set_option maxRecDepth 100000 in
set_option maxHeartbeats 4000000 in
theorem k_X8_push (G : GX) {X : MX} (hM : shX10 X) {v1 : Int32}  {I : MI} {L : ML} {z : Int32} {I' : MI} (hf : f_X8_push v1 I = some (z, I')) : Con G mX8_push yX8_push rmX8_push (fun B => [.ref (B + 72), .int v1]) X I L (some (.int z)) X I' L :=
  Con.of (by decide) rfl (fun h => by cases h) (fun B => Nat.le_of_ble_eq_true rfl) (fun G => kb_X8_push hM  hf (fun _ _ he => by cases he; rfl))
theorem bp_m4 : (Int8.ofInt (-4)).toInt32 = (-4) := by decide
theorem fl_X8_15 : FLD RX8 15 8 2 true := ⟨RX8, TX8, 4, rfl, inX8, by decide, lwg_at 203 (by decide +kernel) rfl, nmX8, tyX8_ok, rfl, rfl⟩
-- X8_repeat ('RookWords$Text', 'repeat', '(III)I')
def rmX8_repeat : RM := ((0, 0, 0, 0), false, (some FieldType.int))
def f_X8_repeat_b28 (N : Nat) (v4 : Int32) (v5 : Int32) (v6 : Int32) (I : MI) : Option ((Int32 × MI) ⊕ (MI)) := (if v6 < v5 then if inb (v6 - v4) 72 then if inb v6 72 then letv (upI I 74 (Int32.toNatClampNeg v6) (I 74 (Int32.toNatClampNeg (v6 - v4)))) fun I5 => some (.inl (v6 + 1, I5)) else none else none else some (.inr I))
set_option maxRecDepth 100000 in
set_option maxHeartbeats 4000000 in
theorem k_X8_repeat_b28 {G : GX} {Q : State → Prop} {X : MX} (hM : shX10 X) {v4 : Int32} {v5 : Int32}  {v6 : Int32} {N : Nat} {I : MI} {L : ML} {out : (Int32 × MI) ⊕ (MI)} (hf : f_X8_repeat_b28 N v4 v5 v6 I = some out) (hC : ∀ (v6' : Int32) (I' : MI), out = .inl (v6', I') → Ex G mX8_repeat rmX8_repeat Q (0, 0) X I' L 28 [(0, .ref (gB G + 72)), (4, .int v4), (5, .int v5), (6, .int v6')] []) (hX : ∀ (I' : MI), out = .inr I' → Ex G mX8_repeat rmX8_repeat Q (0, 0) X I' L 58 [(5, .int v5)] []) : Ex G mX8_repeat rmX8_repeat Q (0, 0) X I L 28 [(0, .ref (gB G + 72)), (4, .int v4), (5, .int v5), (6, .int v6)] [] := by
  unfold f_X8_repeat_b28 at hf
  refine ex_iload 3 (pc' := 30) dX8_repeat_28 rfl rfl ?_
  refine ex_iload 2 (pc' := 32) dX8_repeat_30 rfl rfl ?_
  refine ex_icmpge (tgt := 58) (pc' := 35) dX8_repeat_32 (by decide) rfl (fun hc2 => ?_) (fun hc2 => ?_)
  · replace hf := if_t hc2 hf
    refine ex_aload_n 0 (pc' := 36) dX8_repeat_35 rfl rfl rfl ?_
    refine ex_getR (pc' := 39) dX8_repeat_36 fl_X8_15 rfl (sh8_k (sh10_T4 hM)) (sh8_F2 (sh10_T4 hM)) rfl ?_
    refine ex_iload 3 (pc' := 41) dX8_repeat_39 rfl rfl ?_
    refine ex_aload_n 0 (pc' := 42) dX8_repeat_41 rfl rfl rfl ?_
    refine ex_getR (pc' := 45) dX8_repeat_42 fl_X8_15 rfl (sh8_k (sh10_T4 hM)) (sh8_F2 (sh10_T4 hM)) rfl ?_
    refine ex_iload 3 (pc' := 47) dX8_repeat_45 rfl rfl ?_
    refine ex_iload 1 (pc' := 49) dX8_repeat_47 rfl rfl ?_
    refine ex_isub (pc' := 50) dX8_repeat_49 rfl ?_
    obtain ⟨hg3, hf⟩ := of_guard hf
    refine ex_iald (pc' := 51) dX8_repeat_50 (sh8_T2 (sh10_T4 hM)) (inb_in hg3) rfl ?_
    obtain ⟨hg4, hf⟩ := of_guard hf
    refine ex_iast (pc' := 52) dX8_repeat_51 (sh8_T2 (sh10_T4 hM)) (inb_in hg4) rfl ?_
    obtain ⟨I5, hI5, hf⟩ := of_let hf
    rw [← hI5]
    refine ex_iincc (lv' := [(6, .int (v6 + 1)), (0, .ref (gB G + 72)), (4, .int v4), (5, .int v5)]) 3 (pc' := 55) dX8_repeat_52 rfl ic_1 (Nat.le_of_ble_eq_true rfl) rfl rfl ?_
    refine ex_goto (tgt := 28) dX8_repeat_55 (by decide) ?_
    exact ex_sub [1, 2, 3, 0] rfl (hC _ _ (Option.some.inj hf).symm)
  · replace hf := if_f hc2 hf
    exact ex_sub [2] rfl (hX _ (Option.some.inj hf).symm)
def f_X8_repeat_l28 (N : Nat) (v4 : Int32) (v5 : Int32) (v6 : Int32) (I : MI) : Option (MI) := loopN (fun s => f_X8_repeat_b28 N v4 v5 s.1 s.2) N (v6, I)
set_option maxRecDepth 100000 in
set_option maxHeartbeats 4000000 in
theorem k_X8_repeat_l28 {G : GX} {Q : State → Prop} {X : MX} (hM : shX10 X) {v4 : Int32} {v5 : Int32}  {N0 : Nat} {L : ML} {out : (MI)} (hX : ∀ (I' : MI), out = I' → Ex G mX8_repeat rmX8_repeat Q (0, 0) X I' L 58 [(5, .int v5)] []) : ∀ (N : Nat) (v6 : Int32) (I : MI), loopN (fun s => f_X8_repeat_b28 N0 v4 v5 s.1 s.2) N (v6, I) = some out → Ex G mX8_repeat rmX8_repeat Q (0, 0) X I L 28 [(0, .ref (gB G + 72)), (4, .int v4), (5, .int v5), (6, .int v6)] [] := by
  intro N
  induction N with
  | zero => intro v6 I hf; exact absurd (loopN_zero hf) id
  | succ n ih =>
    intro v6 I hf
    rcases loopN_succ hf with ⟨s, hb, hl⟩ | hb
    · obtain ⟨v6', I'⟩ := s
      refine k_X8_repeat_b28 hM  hb (fun _ _ he => ?_) (fun _ he => by cases he)
      cases he
      exact ih v6' I' hl
    · exact k_X8_repeat_b28 hM  hb (fun _ _ he => by cases he) (fun x0 he => hX x0 (Sum.inr.inj he))
def f_X8_repeat (N : Nat) (v1 : Int32) (v2 : Int32) (v3 : Int32) (I : MI) : Option (Int32 × MI) := (if 12 < ((v1 + ((v2 - v1) * v3)) - v1) then some ((-4), I) else bnd1 (f_X8_repeat_l28 N (v2 - v1) (v1 + ((v2 - v1) * v3)) v2 I) fun I6 => some (v1 + ((v2 - v1) * v3), I6))
set_option maxRecDepth 100000 in
set_option maxHeartbeats 4000000 in
theorem kb_X8_repeat {G : GX} {Q : State → Prop} {X : MX} (hM : shX10 X) {v1 : Int32} {v2 : Int32} {v3 : Int32}  {N : Nat} {I : MI} {L : ML} {out : Int32 × MI} (hf : f_X8_repeat N v1 v2 v3 I = some out) (hR : ∀ (z : Int32) (I' : MI), out = (z, I') → Q = RetQ G (some (.int z)) X I' L (0, 0)) : Ex G mX8_repeat rmX8_repeat Q (0, 0) X I L 0 [(0, .ref (gB G + 72)), (1, .int v1), (2, .int v2), (3, .int v3)] [] := by
  unfold f_X8_repeat at hf
  refine ex_iload_n 2 (pc' := 1) dX8_repeat_0 rfl rfl rfl ?_
  refine ex_iload_n 1 (pc' := 2) dX8_repeat_1 rfl rfl rfl ?_
  refine ex_isub (pc' := 3) dX8_repeat_2 rfl ?_
  refine ex_istore (lv' := [(4, .int (v2 - v1)), (0, .ref (gB G + 72)), (1, .int v1), (2, .int v2), (3, .int v3)]) (pc' := 5) dX8_repeat_3 (Nat.le_of_ble_eq_true rfl) rfl rfl ?_
  refine ex_iload_n 2 (pc' := 6) dX8_repeat_5 rfl rfl rfl ?_
  refine ex_iload 0 (pc' := 8) dX8_repeat_6 rfl rfl ?_
  refine ex_iload_n 4 (pc' := 9) dX8_repeat_8 rfl rfl rfl ?_
  refine ex_imul (pc' := 10) dX8_repeat_9 rfl ?_
  refine ex_iadd (pc' := 11) dX8_repeat_10 rfl ?_
  refine ex_istore (lv' := [(5, .int (v1 + ((v2 - v1) * v3))), (4, .int (v2 - v1)), (0, .ref (gB G + 72)), (1, .int v1), (2, .int v2), (3, .int v3)]) (pc' := 13) dX8_repeat_11 (Nat.le_of_ble_eq_true rfl) rfl rfl ?_
  refine ex_iload 0 (pc' := 15) dX8_repeat_13 rfl rfl ?_
  refine ex_iload_n 3 (pc' := 16) dX8_repeat_15 rfl rfl rfl ?_
  refine ex_isub (pc' := 17) dX8_repeat_16 rfl ?_
  refine ex_bipush (v := 12) (pc' := 19) dX8_repeat_17 bp_12 rfl ?_
  refine ex_icmple (tgt := 25) (pc' := 22) dX8_repeat_19 (by decide) rfl (fun hc1 => ?_) (fun hc1 => ?_)
  · replace hf := if_t hc1 hf
    refine ex_bipush (v := (-4)) (pc' := 24) dX8_repeat_22 bp_m4 rfl ?_
    exact ex_iret dX8_repeat_24 rfl (hR _ _ (Option.some.inj hf).symm)
  · replace hf := if_f hc1 hf
    refine ex_iload_n 4 (pc' := 26) dX8_repeat_25 rfl rfl rfl ?_
    refine ex_istore (lv' := [(6, .int v2), (5, .int (v1 + ((v2 - v1) * v3))), (4, .int (v2 - v1)), (0, .ref (gB G + 72)), (1, .int v1), (2, .int v2), (3, .int v3)]) (pc' := 28) dX8_repeat_26 (Nat.le_of_ble_eq_true rfl) rfl rfl ?_
    refine ex_sub (lv' := [(0, .ref (gB G + 72)), (4, .int (v2 - v1)), (5, .int (v1 + ((v2 - v1) * v3))), (6, .int v2)]) [3, 2, 1, 0] rfl ?_
    obtain ⟨I6, hq7, hf⟩ := of_bnd1 hf
    refine k_X8_repeat_l28 hM (fun I6' he => ?_) _ _ _ hq7
    cases he
    refine ex_iload 0 (pc' := 60) dX8_repeat_58 rfl rfl ?_
    exact ex_iret dX8_repeat_60 rfl (hR _ _ (Option.some.inj hf).symm)
set_option maxRecDepth 100000 in
set_option maxHeartbeats 4000000 in
theorem k_X8_repeat (G : GX) {X : MX} (hM : shX10 X) {v1 : Int32} {v2 : Int32} {v3 : Int32}  {N : Nat} {I : MI} {L : ML} {z : Int32} {I' : MI} (hf : f_X8_repeat N v1 v2 v3 I = some (z, I')) : Con G mX8_repeat yX8_repeat rmX8_repeat (fun B => [.ref (B + 72), .int v1, .int v2, .int v3]) X I L (some (.int z)) X I' L :=
  Con.of (by decide) rfl (fun h => by cases h) (fun B => Nat.le_of_ble_eq_true rfl) (fun G => kb_X8_repeat hM  hf (fun _ _ he => by cases he; rfl))
theorem fl_X8_18 : FLD RX8 18 8 3 true := ⟨RX8, TX8, 4, rfl, inX8, by decide, lwg_at 205 (by decide +kernel) rfl, nmX8, tyX8_ok, rfl, rfl⟩
theorem cl_X8_32 : Cond.methodLink RX8 32 Lib.Math.min.name ∈ lwg ∧ Cond.static Lib.Math.min.name ∈ lwg ∧ Cond.initialized "java/lang/Math" ∈ lwg ∧ Cond.code Lib.Math.min.name Lib.Math.min.code 2 (some .int) ∈ lwg := ⟨lwg_at 823 (by decide +kernel) rfl, lwg_at 415 (by decide +kernel) rfl, lwg_at 62 (by decide +kernel) rfl, lwg_at 416 (by decide +kernel) rfl⟩
theorem cl_X8_38 : Cond.methodLink RX8 38 Lib.Math.max.name ∈ lwg ∧ Cond.static Lib.Math.max.name ∈ lwg ∧ Cond.initialized "java/lang/Math" ∈ lwg ∧ Cond.code Lib.Math.max.name Lib.Math.max.code 2 (some .int) ∈ lwg := ⟨lwg_at 824 (by decide +kernel) rfl, lwg_at 368 (by decide +kernel) rfl, lwg_at 62 (by decide +kernel) rfl, lwg_at 369 (by decide +kernel) rfl⟩
theorem cl_X8_41 : CLV RX8 41 yX8_repeat mX8_repeat (some FieldType.int) 3 := ⟨⟨lwg_at 825 (by decide +kernel) rfl, lwg_at 827 (by decide +kernel) rfl, lwg_at 17 (by decide +kernel) rfl, lwg_at 57 (by decide +kernel) rfl⟩, lwg_at 828 (by decide +kernel) rfl, ⟨by decide +kernel, by decide +kernel, by decide +kernel⟩⟩
-- X8_spell ('RookWords$Text', 'spell', '()I')
def rmX8_spell : RM := ((1, 26, 0, 0), false, (some FieldType.int))
def f_X8_spell_b13_j138 (N : Nat) (v1 : Int32) (v2 : Int32) (v3 : Int32) (I : MI) : Option ((Int32 × Int32 × Int32 × MI) ⊕ ((Int32 × MI) ⊕ (Int32 × MI))) := (if v1 < 0 then some (.inr (.inr ((-4), I))) else if inb v2 5 then (if 12 < (v1 - (I 75 (Int32.toNatClampNeg v2))) then some (.inr (.inr ((-4), I))) else some (.inl (v1, v2, v3 + 1, I))) else none)
set_option maxRecDepth 100000 in
set_option maxHeartbeats 4000000 in
theorem k_X8_spell_b13_j138 {G : GX} {Q : State → Prop} {X : MX} (hM : shX10 X) {v1 : Int32} {v2 : Int32} {v3 : Int32}   {N : Nat} {I : MI} {L : ML} {out : (Int32 × Int32 × Int32 × MI) ⊕ ((Int32 × MI) ⊕ (Int32 × MI))} (hf : f_X8_spell_b13_j138 N v1 v2 v3 I = some out) (hC : ∀ (v1' : Int32) (v2' : Int32) (v3' : Int32) (I' : MI), out = .inl (v1', v2', v3', I') → Ex G mX8_spell rmX8_spell Q (0, 0) X I' L 13 [(0, .ref (gB G + 72)), (1, .int v1'), (2, .int v2'), (3, .int v3')] []) (hX : ∀ (w1 : Int32) (I' : MI), out = .inr (.inl (w1, I')) → Ex G mX8_spell rmX8_spell Q (0, 0) X I' L 164 [(1, .int w1)] []) (hR : ∀ (z : Int32) (I' : MI), out = .inr (.inr (z, I')) → Q = RetQ G (some (.int z)) X I' L (0, 0)) : Ex G mX8_spell rmX8_spell Q (0, 0) X I L 138 [(0, .ref (gB G + 72)), (1, .int v1), (2, .int v2), (3, .int v3)] [] := by
  unfold f_X8_spell_b13_j138 at hf
  refine ex_iload_n 1 (pc' := 139) dX8_spell_138 rfl rfl rfl ?_
  refine ex_iflt (tgt := 155) (pc' := 142) dX8_spell_139 (by decide) rfl (fun hc16 => ?_) (fun hc16 => ?_)
  · replace hf := if_t hc16 hf
    refine ex_bipush (v := (-4)) (pc' := 157) dX8_spell_155 bp_m4 rfl ?_
    exact ex_iret dX8_spell_157 rfl (hR _ _ (Option.some.inj hf).symm)
  · replace hf := if_f hc16 hf
    refine ex_iload_n 1 (pc' := 143) dX8_spell_142 rfl rfl rfl ?_
    refine ex_aload_n 0 (pc' := 144) dX8_spell_143 rfl rfl rfl ?_
    refine ex_getR (pc' := 147) dX8_spell_144 fl_X8_18 rfl (sh8_k (sh10_T4 hM)) (sh8_F3 (sh10_T4 hM)) rfl ?_
    refine ex_iload_n 2 (pc' := 148) dX8_spell_147 rfl rfl rfl ?_
    obtain ⟨hg17, hf⟩ := of_guard hf
    refine ex_iald (pc' := 149) dX8_spell_148 (sh8_T3 (sh10_T4 hM)) (inb_in hg17) rfl ?_
    refine ex_isub (pc' := 150) dX8_spell_149 rfl ?_
    refine ex_bipush (v := 12) (pc' := 152) dX8_spell_150 bp_12 rfl ?_
    refine ex_icmple (tgt := 158) (pc' := 155) dX8_spell_152 (by decide) rfl (fun hc18 => ?_) (fun hc18 => ?_)
    · replace hf := if_t hc18 hf
      refine ex_bipush (v := (-4)) (pc' := 157) dX8_spell_155 bp_m4 rfl ?_
      exact ex_iret dX8_spell_157 rfl (hR _ _ (Option.some.inj hf).symm)
    · replace hf := if_f hc18 hf
      refine ex_iincc (lv' := [(3, .int (v3 + 1)), (0, .ref (gB G + 72)), (1, .int v1), (2, .int v2)]) 3 (pc' := 161) dX8_spell_158 rfl ic_1 (Nat.le_of_ble_eq_true rfl) rfl rfl ?_
      refine ex_goto (tgt := 13) dX8_spell_161 (by decide) ?_
      exact ex_sub [1, 2, 3, 0] rfl (hC _ _ _ _ (Option.some.inj hf).symm)
def f_X8_spell_b13_j108 (N : Nat) (v1 : Int32) (v2 : Int32) (v3 : Int32) (v4 : Int32) (I : MI) : Option ((Int32 × Int32 × Int32 × MI) ⊕ ((Int32 × MI) ⊕ (Int32 × MI))) := bnd1 (f_X8_isFigure (v3 + 1) I) fun r13 => (if r13 = 0 then f_X8_spell_b13_j138 N v1 v2 v3 I else if inb (v3 + 1) 80 then bnd2 (f_X8_repeat N v4 v1 ((I 73 (Int32.toNatClampNeg (v3 + 1))) - 48) I) fun r20 I21 => f_X8_spell_b13_j138 N r20 v2 (v3 + 1) I21 else none)
set_option maxRecDepth 100000 in
set_option maxHeartbeats 4000000 in
theorem k_X8_spell_b13_j108 {G : GX} {Q : State → Prop} {X : MX} (hM : shX10 X) {v1 : Int32} {v2 : Int32} {v3 : Int32} {v4 : Int32}   {N : Nat} {I : MI} {L : ML} {out : (Int32 × Int32 × Int32 × MI) ⊕ ((Int32 × MI) ⊕ (Int32 × MI))} (hf : f_X8_spell_b13_j108 N v1 v2 v3 v4 I = some out) (hC : ∀ (v1' : Int32) (v2' : Int32) (v3' : Int32) (I' : MI), out = .inl (v1', v2', v3', I') → Ex G mX8_spell rmX8_spell Q (0, 0) X I' L 13 [(0, .ref (gB G + 72)), (1, .int v1'), (2, .int v2'), (3, .int v3')] []) (hX : ∀ (w1 : Int32) (I' : MI), out = .inr (.inl (w1, I')) → Ex G mX8_spell rmX8_spell Q (0, 0) X I' L 164 [(1, .int w1)] []) (hR : ∀ (z : Int32) (I' : MI), out = .inr (.inr (z, I')) → Q = RetQ G (some (.int z)) X I' L (0, 0)) : Ex G mX8_spell rmX8_spell Q (0, 0) X I L 108 [(0, .ref (gB G + 72)), (1, .int v1), (2, .int v2), (3, .int v3), (4, .int v4)] [] := by
  unfold f_X8_spell_b13_j108 at hf
  refine ex_aload_n 0 (pc' := 109) dX8_spell_108 rfl rfl rfl ?_
  refine ex_iload_n 3 (pc' := 110) dX8_spell_109 rfl rfl rfl ?_
  refine ex_iconst (v := 1) (pc' := 111) dX8_spell_110 ic_1 rfl ?_
  refine ex_iadd (pc' := 112) dX8_spell_111 rfl ?_
  obtain ⟨r13, hq14, hf⟩ := of_bnd1 hf
  refine ex_callV_i (rm' := rmX8_isFigure) (st := []) (pc' := 115) [.int (v3 + 1)] dX8_spell_112 cl_X8_29 (k_X8_isFigure G hM hq14) rfl (sh8_k (sh10_T4 hM)) ⟨_, _, rfl⟩ rfl rfl (ROOM_of rfl) (Nat.le_of_ble_eq_true rfl) rfl rfl ?_
  refine ex_ifeq (tgt := 138) (pc' := 118) dX8_spell_115 (by decide) rfl (fun hc15 => ?_) (fun hc15 => ?_)
  · replace hf := if_t hc15 hf
    refine ex_sub [0, 1, 2, 3] rfl (k_X8_spell_b13_j138 hM  hf hC hX hR)
  · replace hf := if_f hc15 hf
    refine ex_iincc (lv' := [(3, .int (v3 + 1)), (0, .ref (gB G + 72)), (1, .int v1), (2, .int v2), (4, .int v4)]) 3 (pc' := 121) dX8_spell_118 rfl ic_1 (Nat.le_of_ble_eq_true rfl) rfl rfl ?_
    refine ex_aload_n 1 (pc' := 122) dX8_spell_121 rfl rfl rfl ?_
    refine ex_iload 4 (pc' := 124) dX8_spell_122 rfl rfl ?_
    refine ex_iload_n 2 (pc' := 125) dX8_spell_124 rfl rfl rfl ?_
    refine ex_aload_n 1 (pc' := 126) dX8_spell_125 rfl rfl rfl ?_
    refine ex_getR (pc' := 129) dX8_spell_126 fl_X8_11 rfl (sh8_k (sh10_T4 hM)) (sh8_F0 (sh10_T4 hM)) rfl ?_
    refine ex_iload_n 0 (pc' := 130) dX8_spell_129 rfl rfl rfl ?_
    obtain ⟨hg19, hf⟩ := of_guard hf
    refine ex_iald (pc' := 131) dX8_spell_130 (sh8_T0 (sh10_T4 hM)) (inb_in hg19) rfl ?_
    refine ex_bipush (v := 48) (pc' := 133) dX8_spell_131 bp_48 rfl ?_
    refine ex_isub (pc' := 134) dX8_spell_133 rfl ?_
    obtain ⟨r20, I21, hq22, hf⟩ := of_bnd2 hf
    refine ex_callV_i (rm' := rmX8_repeat) (st := []) (pc' := 137) [.int v4, .int v1, .int ((I 73 (Int32.toNatClampNeg (v3 + 1))) - 48)] dX8_spell_134 cl_X8_41 (k_X8_repeat G hM hq22) rfl (sh8_k (sh10_T4 hM)) ⟨_, _, rfl⟩ rfl rfl (ROOM_of rfl) (Nat.le_of_ble_eq_true rfl) rfl rfl ?_
    refine ex_istore_n (lv' := [(1, .int r20), (3, .int (v3 + 1)), (0, .ref (gB G + 72)), (2, .int v2), (4, .int v4)]) (pc' := 138) dX8_spell_137 rfl (Nat.le_of_ble_eq_true rfl) rfl rfl ?_
    refine ex_sub [2, 0, 3, 1] rfl (k_X8_spell_b13_j138 hM  hf hC hX hR)
def f_X8_spell_b13_j104 (N : Nat) (v1 : Int32) (v2 : Int32) (v3 : Int32) (v4 : Int32) (s0 : Int32) (s1 : Int32) (I : MI) : Option ((Int32 × Int32 × Int32 × MI) ⊕ ((Int32 × MI) ⊕ (Int32 × MI))) := if inb s1 72 then letv (upI I 74 (Int32.toNatClampNeg s1) s0) fun I26 => f_X8_spell_b13_j108 N (v1 + 1) v2 v3 v4 I26 else none
set_option maxRecDepth 100000 in
set_option maxHeartbeats 4000000 in
theorem k_X8_spell_b13_j104 {G : GX} {Q : State → Prop} {X : MX} (hM : shX10 X) {v1 : Int32} {v2 : Int32} {v3 : Int32} {v4 : Int32} {s0 : Int32} {s1 : Int32}   {N : Nat} {I : MI} {L : ML} {out : (Int32 × Int32 × Int32 × MI) ⊕ ((Int32 × MI) ⊕ (Int32 × MI))} (hf : f_X8_spell_b13_j104 N v1 v2 v3 v4 s0 s1 I = some out) (hC : ∀ (v1' : Int32) (v2' : Int32) (v3' : Int32) (I' : MI), out = .inl (v1', v2', v3', I') → Ex G mX8_spell rmX8_spell Q (0, 0) X I' L 13 [(0, .ref (gB G + 72)), (1, .int v1'), (2, .int v2'), (3, .int v3')] []) (hX : ∀ (w1 : Int32) (I' : MI), out = .inr (.inl (w1, I')) → Ex G mX8_spell rmX8_spell Q (0, 0) X I' L 164 [(1, .int w1)] []) (hR : ∀ (z : Int32) (I' : MI), out = .inr (.inr (z, I')) → Q = RetQ G (some (.int z)) X I' L (0, 0)) : Ex G mX8_spell rmX8_spell Q (0, 0) X I L 104 [(0, .ref (gB G + 72)), (1, .int v1), (2, .int v2), (3, .int v3), (4, .int v4)] [.int s0, .int s1, .ref (gB G + 74)] := by
  unfold f_X8_spell_b13_j104 at hf
  obtain ⟨hg25, hf⟩ := of_guard hf
  refine ex_iast (pc' := 105) dX8_spell_104 (sh8_T2 (sh10_T4 hM)) (inb_in hg25) rfl ?_
  obtain ⟨I26, hI26, hf⟩ := of_let hf
  rw [← hI26]
  refine ex_iincc (lv' := [(1, .int (v1 + 1)), (0, .ref (gB G + 72)), (2, .int v2), (3, .int v3), (4, .int v4)]) 1 (pc' := 108) dX8_spell_105 rfl ic_1 (Nat.le_of_ble_eq_true rfl) rfl rfl ?_
  refine ex_sub [1, 0, 2, 3, 4] rfl (k_X8_spell_b13_j108 hM  hf hC hX hR)
def f_X8_spell_b13 (N : Nat)  (v1 : Int32) (v2 : Int32) (v3 : Int32) (I : MI) : Option ((Int32 × Int32 × Int32 × MI) ⊕ ((Int32 × MI) ⊕ (Int32 × MI))) := (if v3 < (I 72 1) then if inb v3 80 then (if (I 73 (Int32.toNatClampNeg v3)) = 40 then letv (if 4 < (v2 + 1) then 4 else (v2 + 1)) fun x6 => if inb x6 5 then letv (upI I 75 (Int32.toNatClampNeg x6) v1) fun I8 => some (.inl (v1, x6, v3 + 1, I8)) else none else if inb v3 80 then (if (I 73 (Int32.toNatClampNeg v3)) = 41 then if inb v2 5 then letv (if (v2 - 1) < 0 then 0 else (v2 - 1)) fun x12 => f_X8_spell_b13_j108 N v1 x12 v3 (I 75 (Int32.toNatClampNeg v2)) I else none else if inb v3 80 then (if (I 73 (Int32.toNatClampNeg v3)) = 85 then f_X8_spell_b13_j104 N v1 v2 v3 v1 0 v1 I else f_X8_spell_b13_j104 N v1 v2 v3 v1 1 v1 I) else none) else none) else none else some (.inr (.inl (v1, I))))
set_option maxRecDepth 100000 in
set_option maxHeartbeats 4000000 in
theorem k_X8_spell_b13 {G : GX} {Q : State → Prop} {X : MX} (hM : shX10 X)   {v1 : Int32} {v2 : Int32} {v3 : Int32} {N : Nat} {I : MI} {L : ML} {out : (Int32 × Int32 × Int32 × MI) ⊕ ((Int32 × MI) ⊕ (Int32 × MI))} (hf : f_X8_spell_b13 N v1 v2 v3 I = some out) (hC : ∀ (v1' : Int32) (v2' : Int32) (v3' : Int32) (I' : MI), out = .inl (v1', v2', v3', I') → Ex G mX8_spell rmX8_spell Q (0, 0) X I' L 13 [(0, .ref (gB G + 72)), (1, .int v1'), (2, .int v2'), (3, .int v3')] []) (hX : ∀ (w1 : Int32) (I' : MI), out = .inr (.inl (w1, I')) → Ex G mX8_spell rmX8_spell Q (0, 0) X I' L 164 [(1, .int w1)] []) (hR : ∀ (z : Int32) (I' : MI), out = .inr (.inr (z, I')) → Q = RetQ G (some (.int z)) X I' L (0, 0)) : Ex G mX8_spell rmX8_spell Q (0, 0) X I L 13 [(0, .ref (gB G + 72)), (1, .int v1), (2, .int v2), (3, .int v3)] [] := by
  unfold f_X8_spell_b13 at hf
  refine ex_iload_n 3 (pc' := 14) dX8_spell_13 rfl rfl rfl ?_
  refine ex_aload_n 0 (pc' := 15) dX8_spell_14 rfl rfl rfl ?_
  refine ex_getI (pc' := 18) dX8_spell_15 fl_X8_21 rfl (sh8_k (sh10_T4 hM)) rfl ?_
  refine ex_icmpge (tgt := 164) (pc' := 21) dX8_spell_18 (by decide) rfl (fun hc3 => ?_) (fun hc3 => ?_)
  · replace hf := if_t hc3 hf
    refine ex_aload_n 0 (pc' := 22) dX8_spell_21 rfl rfl rfl ?_
    refine ex_getR (pc' := 25) dX8_spell_22 fl_X8_11 rfl (sh8_k (sh10_T4 hM)) (sh8_F0 (sh10_T4 hM)) rfl ?_
    refine ex_iload_n 3 (pc' := 26) dX8_spell_25 rfl rfl rfl ?_
    obtain ⟨hg4, hf⟩ := of_guard hf
    refine ex_iald (pc' := 27) dX8_spell_26 (sh8_T0 (sh10_T4 hM)) (inb_in hg4) rfl ?_
    refine ex_bipush (v := 40) (pc' := 29) dX8_spell_27 bp_40 rfl ?_
    refine ex_icmpne (tgt := 50) (pc' := 32) dX8_spell_29 (by decide) rfl (fun hc5 => ?_) (fun hc5 => ?_)
    · replace hf := if_t hc5 hf
      refine ex_iload_n 2 (pc' := 33) dX8_spell_32 rfl rfl rfl ?_
      refine ex_iconst (v := 1) (pc' := 34) dX8_spell_33 ic_1 rfl ?_
      refine ex_iadd (pc' := 35) dX8_spell_34 rfl ?_
      refine ex_iconst (v := 4) (pc' := 36) dX8_spell_35 ic_4 rfl ?_
      refine ex_mmin (pc' := 39) dX8_spell_36 cl_X8_32 ⟨Nat.le_of_ble_eq_true rfl, Nat.le_of_ble_eq_true rfl, Nat.le_of_ble_eq_true rfl, Nat.le_of_ble_eq_true rfl⟩ rfl ?_
      obtain ⟨x6, hx6, hf⟩ := of_let hf
      rw [← hx6]
      refine ex_istore_n (lv' := [(2, .int x6), (0, .ref (gB G + 72)), (1, .int v1), (3, .int v3)]) (pc' := 40) dX8_spell_39 rfl (Nat.le_of_ble_eq_true rfl) rfl rfl ?_
      refine ex_aload_n 1 (pc' := 41) dX8_spell_40 rfl rfl rfl ?_
      refine ex_getR (pc' := 44) dX8_spell_41 fl_X8_18 rfl (sh8_k (sh10_T4 hM)) (sh8_F3 (sh10_T4 hM)) rfl ?_
      refine ex_iload_n 0 (pc' := 45) dX8_spell_44 rfl rfl rfl ?_
      refine ex_iload_n 2 (pc' := 46) dX8_spell_45 rfl rfl rfl ?_
      obtain ⟨hg7, hf⟩ := of_guard hf
      refine ex_iast (pc' := 47) dX8_spell_46 (sh8_T3 (sh10_T4 hM)) (inb_in hg7) rfl ?_
      obtain ⟨I8, hI8, hf⟩ := of_let hf
      rw [← hI8]
      refine ex_goto (tgt := 158) dX8_spell_47 (by decide) ?_
      refine ex_iincc (lv' := [(3, .int (v3 + 1)), (2, .int x6), (0, .ref (gB G + 72)), (1, .int v1)]) 3 (pc' := 161) dX8_spell_158 rfl ic_1 (Nat.le_of_ble_eq_true rfl) rfl rfl ?_
      refine ex_goto (tgt := 13) dX8_spell_161 (by decide) ?_
      exact ex_sub [2, 3, 1, 0] rfl (hC _ _ _ _ (Option.some.inj hf).symm)
    · replace hf := if_f hc5 hf
      refine ex_iload_n 1 (pc' := 51) dX8_spell_50 rfl rfl rfl ?_
      refine ex_istore (lv' := [(4, .int v1), (0, .ref (gB G + 72)), (1, .int v1), (2, .int v2), (3, .int v3)]) (pc' := 53) dX8_spell_51 (Nat.le_of_ble_eq_true rfl) rfl rfl ?_
      refine ex_aload_n 1 (pc' := 54) dX8_spell_53 rfl rfl rfl ?_
      refine ex_getR (pc' := 57) dX8_spell_54 fl_X8_11 rfl (sh8_k (sh10_T4 hM)) (sh8_F0 (sh10_T4 hM)) rfl ?_
      refine ex_iload_n 4 (pc' := 58) dX8_spell_57 rfl rfl rfl ?_
      obtain ⟨hg9, hf⟩ := of_guard hf
      refine ex_iald (pc' := 59) dX8_spell_58 (sh8_T0 (sh10_T4 hM)) (inb_in hg9) rfl ?_
      refine ex_bipush (v := 41) (pc' := 61) dX8_spell_59 bp_41 rfl ?_
      refine ex_icmpne (tgt := 83) (pc' := 64) dX8_spell_61 (by decide) rfl (fun hc10 => ?_) (fun hc10 => ?_)
      · replace hf := if_t hc10 hf
        refine ex_aload_n 1 (pc' := 65) dX8_spell_64 rfl rfl rfl ?_
        refine ex_getR (pc' := 68) dX8_spell_65 fl_X8_18 rfl (sh8_k (sh10_T4 hM)) (sh8_F3 (sh10_T4 hM)) rfl ?_
        refine ex_iload_n 3 (pc' := 69) dX8_spell_68 rfl rfl rfl ?_
        obtain ⟨hg11, hf⟩ := of_guard hf
        refine ex_iald (pc' := 70) dX8_spell_69 (sh8_T3 (sh10_T4 hM)) (inb_in hg11) rfl ?_
        refine ex_istore (lv' := [(4, .int (I 75 (Int32.toNatClampNeg v2))), (0, .ref (gB G + 72)), (1, .int v1), (2, .int v2), (3, .int v3)]) (pc' := 72) dX8_spell_70 (Nat.le_of_ble_eq_true rfl) rfl rfl ?_
        refine ex_iload_n 3 (pc' := 73) dX8_spell_72 rfl rfl rfl ?_
        refine ex_iconst (v := 1) (pc' := 74) dX8_spell_73 ic_1 rfl ?_
        refine ex_isub (pc' := 75) dX8_spell_74 rfl ?_
        refine ex_iconst (v := 0) (pc' := 76) dX8_spell_75 ic_0 rfl ?_
        refine ex_mmax (pc' := 79) dX8_spell_76 cl_X8_38 ⟨Nat.le_of_ble_eq_true rfl, Nat.le_of_ble_eq_true rfl, Nat.le_of_ble_eq_true rfl, Nat.le_of_ble_eq_true rfl⟩ rfl ?_
        obtain ⟨x12, hx12, hf⟩ := of_let hf
        rw [← hx12]
        refine ex_istore_n (lv' := [(2, .int x12), (4, .int (I 75 (Int32.toNatClampNeg v2))), (0, .ref (gB G + 72)), (1, .int v1), (3, .int v3)]) (pc' := 80) dX8_spell_79 rfl (Nat.le_of_ble_eq_true rfl) rfl rfl ?_
        refine ex_goto (tgt := 108) dX8_spell_80 (by decide) ?_
        refine ex_sub [2, 3, 0, 4, 1] rfl (k_X8_spell_b13_j108 hM  hf hC hX hR)
      · replace hf := if_f hc10 hf
        refine ex_aload_n 1 (pc' := 84) dX8_spell_83 rfl rfl rfl ?_
        refine ex_getR (pc' := 87) dX8_spell_84 fl_X8_15 rfl (sh8_k (sh10_T4 hM)) (sh8_F2 (sh10_T4 hM)) rfl ?_
        refine ex_iload_n 2 (pc' := 88) dX8_spell_87 rfl rfl rfl ?_
        refine ex_aload_n 1 (pc' := 89) dX8_spell_88 rfl rfl rfl ?_
        refine ex_getR (pc' := 92) dX8_spell_89 fl_X8_11 rfl (sh8_k (sh10_T4 hM)) (sh8_F0 (sh10_T4 hM)) rfl ?_
        refine ex_iload_n 4 (pc' := 93) dX8_spell_92 rfl rfl rfl ?_
        obtain ⟨hg23, hf⟩ := of_guard hf
        refine ex_iald (pc' := 94) dX8_spell_93 (sh8_T0 (sh10_T4 hM)) (inb_in hg23) rfl ?_
        refine ex_bipush (v := 85) (pc' := 96) dX8_spell_94 bp_85 rfl ?_
        refine ex_icmpne (tgt := 103) (pc' := 99) dX8_spell_96 (by decide) rfl (fun hc24 => ?_) (fun hc24 => ?_)
        · replace hf := if_t hc24 hf
          refine ex_iconst (v := 0) (pc' := 100) dX8_spell_99 ic_0 rfl ?_
          refine ex_goto (tgt := 104) dX8_spell_100 (by decide) ?_
          refine ex_sub [1, 2, 3, 4, 0] rfl (k_X8_spell_b13_j104 hM  hf hC hX hR)
        · replace hf := if_f hc24 hf
          refine ex_iconst (v := 1) (pc' := 104) dX8_spell_103 ic_1 rfl ?_
          refine ex_sub [1, 2, 3, 4, 0] rfl (k_X8_spell_b13_j104 hM  hf hC hX hR)
  · replace hf := if_f hc3 hf
    exact ex_sub [1] rfl (hX _ _ (Option.some.inj hf).symm)
def f_X8_spell_l13 (N : Nat)  (v1 : Int32) (v2 : Int32) (v3 : Int32) (I : MI) : Option ((Int32 × MI) ⊕ (Int32 × MI)) := loopN (fun s => f_X8_spell_b13 N s.1 s.2.1 s.2.2.1 s.2.2.2) N (v1, v2, v3, I)
set_option maxRecDepth 100000 in
set_option maxHeartbeats 4000000 in
theorem k_X8_spell_l13 {G : GX} {Q : State → Prop} {X : MX} (hM : shX10 X)   {N0 : Nat} {L : ML} {out : ((Int32 × MI) ⊕ (Int32 × MI))} (hX : ∀ (w1 : Int32) (I' : MI), out = .inl (w1, I') → Ex G mX8_spell rmX8_spell Q (0, 0) X I' L 164 [(1, .int w1)] []) (hR : ∀ (z : Int32) (I' : MI), out = .inr (z, I') → Q = RetQ G (some (.int z)) X I' L (0, 0)) : ∀ (N : Nat) (v1 : Int32) (v2 : Int32) (v3 : Int32) (I : MI), loopN (fun s => f_X8_spell_b13 N0 s.1 s.2.1 s.2.2.1 s.2.2.2) N (v1, v2, v3, I) = some out → Ex G mX8_spell rmX8_spell Q (0, 0) X I L 13 [(0, .ref (gB G + 72)), (1, .int v1), (2, .int v2), (3, .int v3)] [] := by
  intro N
  induction N with
  | zero => intro v1 v2 v3 I hf; exact absurd (loopN_zero hf) id
  | succ n ih =>
    intro v1 v2 v3 I hf
    rcases loopN_succ hf with ⟨s, hb, hl⟩ | hb
    · obtain ⟨v1', v2', v3', I'⟩ := s
      refine k_X8_spell_b13 hM  hb (fun _ _ _ _ he => ?_) (fun _ _ he => by cases he) (fun _ _ he => by cases he)
      cases he
      exact ih v1' v2' v3' I' hl
    · exact k_X8_spell_b13 hM  hb (fun _ _ _ _ he => by cases he) (fun x0 x1 he => hX x0 x1 (Sum.inr.inj he)) (fun z0 z1 he => hR z0 z1 (Sum.inr.inj he))
def f_X8_spell (N : Nat)  (I : MI) : Option (Int32 × MI) := if inb 0 5 then letv (upI I 75 (Int32.toNatClampNeg 0) 0) fun I2 => bns2 (f_X8_spell_l13 N 0 0 0 I2) (fun x27 I28 => some (x27, I28)) (fun q30 => some q30) else none
set_option maxRecDepth 100000 in
set_option maxHeartbeats 4000000 in
theorem kb_X8_spell {G : GX} {Q : State → Prop} {X : MX} (hM : shX10 X)   {N : Nat} {I : MI} {L : ML} {out : Int32 × MI} (hf : f_X8_spell N I = some out) (hR : ∀ (z : Int32) (I' : MI), out = (z, I') → Q = RetQ G (some (.int z)) X I' L (0, 0)) : Ex G mX8_spell rmX8_spell Q (0, 0) X I L 0 [(0, .ref (gB G + 72))] [] := by
  unfold f_X8_spell at hf
  refine ex_iconst (v := 0) (pc' := 1) dX8_spell_0 ic_0 rfl ?_
  refine ex_istore_n (lv' := [(1, .int 0), (0, .ref (gB G + 72))]) (pc' := 2) dX8_spell_1 rfl (Nat.le_of_ble_eq_true rfl) rfl rfl ?_
  refine ex_iconst (v := 0) (pc' := 3) dX8_spell_2 ic_0 rfl ?_
  refine ex_istore_n (lv' := [(2, .int 0), (1, .int 0), (0, .ref (gB G + 72))]) (pc' := 4) dX8_spell_3 rfl (Nat.le_of_ble_eq_true rfl) rfl rfl ?_
  refine ex_aload_n 2 (pc' := 5) dX8_spell_4 rfl rfl rfl ?_
  refine ex_getR (pc' := 8) dX8_spell_5 fl_X8_18 rfl (sh8_k (sh10_T4 hM)) (sh8_F3 (sh10_T4 hM)) rfl ?_
  refine ex_iconst (v := 0) (pc' := 9) dX8_spell_8 ic_0 rfl ?_
  refine ex_iconst (v := 0) (pc' := 10) dX8_spell_9 ic_0 rfl ?_
  obtain ⟨hg1, hf⟩ := of_guard hf
  refine ex_iast (pc' := 11) dX8_spell_10 (sh8_T3 (sh10_T4 hM)) (inb_in hg1) rfl ?_
  obtain ⟨I2, hI2, hf⟩ := of_let hf
  rw [← hI2]
  refine ex_iconst (v := 0) (pc' := 12) dX8_spell_11 ic_0 rfl ?_
  refine ex_istore_n (lv' := [(3, .int 0), (2, .int 0), (1, .int 0), (0, .ref (gB G + 72))]) (pc' := 13) dX8_spell_12 rfl (Nat.le_of_ble_eq_true rfl) rfl rfl ?_
  refine ex_sub (lv' := [(0, .ref (gB G + 72)), (1, .int 0), (2, .int 0), (3, .int 0)]) [3, 2, 1, 0] rfl ?_
  rcases of_bns2 hf with ⟨x27, I28, hq29, hf⟩ | ⟨q30, hq29, hf⟩
  · refine k_X8_spell_l13 hM (fun x27' I28' he => ?_) (fun _ _ he => by cases he) _ _ _ _ _ hq29
    cases he
    refine ex_iload_n 0 (pc' := 165) dX8_spell_164 rfl rfl rfl ?_
    exact ex_iret dX8_spell_165 rfl (hR _ _ (Option.some.inj hf).symm)
  · refine k_X8_spell_l13 hM (fun _ _ he => by cases he) (fun z0 z1 he => ?_) _ _ _ _ _ hq29
    refine hR _ _ ?_
    rw [← Option.some.inj hf]
    cases he
    rfl
set_option maxRecDepth 100000 in
set_option maxHeartbeats 4000000 in
theorem k_X8_spell (G : GX) {X : MX} (hM : shX10 X)   {N : Nat} {I : MI} {L : ML} {z : Int32} {I' : MI} (hf : f_X8_spell N I = some (z, I')) : Con G mX8_spell yX8_spell rmX8_spell (fun B => [.ref (B + 72)]) X I L (some (.int z)) X I' L :=
  Con.of (by decide) rfl (fun h => by cases h) (fun B => Nat.le_of_ble_eq_true rfl) (fun G => kb_X8_spell hM  hf (fun _ _ he => by cases he; rfl))
-- X9_pushPairs ('RookWords$Word', 'pushPairs', '(III)V')
def rmX9_pushPairs : RM := ((1, 23, 0, 0), false, none)
def f_X9_pushPairs_b3 (N : Nat) (a0 : Nat) (v1 : Int32) (v2 : Int32) (v3 : Int32) (v4 : Int32) (I : MI) : Option ((Int32 × MI) ⊕ (MI)) := (if v4 < v3 then bnd1 (f_X9_push N a0 v1 1 I) fun I2 => bnd1 (f_X9_push N a0 v2 1 I2) fun I4 => some (.inl (v4 + 1, I4)) else some (.inr I))
set_option maxRecDepth 100000 in
set_option maxHeartbeats 4000000 in
theorem k_X9_pushPairs_b3 {G : GX} {Q : State → Prop} {X : MX} {a0 : Nat} {v1 : Int32} {v2 : Int32} {v3 : Int32} (h0 : shX9 X a0) {v4 : Int32} {N : Nat} {I : MI} {L : ML} {out : (Int32 × MI) ⊕ (MI)} (hf : f_X9_pushPairs_b3 N a0 v1 v2 v3 v4 I = some out) (hC : ∀ (v4' : Int32) (I' : MI), out = .inl (v4', I') → Ex G mX9_pushPairs rmX9_pushPairs Q (0, 0) X I' L 3 [(0, .ref (gB G + a0)), (1, .int v1), (2, .int v2), (3, .int v3), (4, .int v4')] []) (hX : ∀ (I' : MI), out = .inr I' → Ex G mX9_pushPairs rmX9_pushPairs Q (0, 0) X I' L 27 [] []) : Ex G mX9_pushPairs rmX9_pushPairs Q (0, 0) X I L 3 [(0, .ref (gB G + a0)), (1, .int v1), (2, .int v2), (3, .int v3), (4, .int v4)] [] := by
  unfold f_X9_pushPairs_b3 at hf
  refine ex_iload 4 (pc' := 5) dX9_pushPairs_3 rfl rfl ?_
  refine ex_iload_n 3 (pc' := 6) dX9_pushPairs_5 rfl rfl rfl ?_
  refine ex_icmpge (tgt := 27) (pc' := 9) dX9_pushPairs_6 (by decide) rfl (fun hc1 => ?_) (fun hc1 => ?_)
  · replace hf := if_t hc1 hf
    refine ex_aload_n 0 (pc' := 10) dX9_pushPairs_9 rfl rfl rfl ?_
    refine ex_iload_n 1 (pc' := 11) dX9_pushPairs_10 rfl rfl rfl ?_
    refine ex_iconst (v := 1) (pc' := 12) dX9_pushPairs_11 ic_1 rfl ?_
    obtain ⟨I2, hq3, hf⟩ := of_bnd1 hf
    refine ex_callV_v (rm' := rmX9_push) (st := []) (pc' := 15) [.int v1, .int 1] dX9_pushPairs_12 cl_X9_19 (k_X9_push G h0 hq3) rfl (sh9_k h0) ⟨_, _, rfl⟩ rfl rfl (ROOM_of rfl) (Nat.le_of_ble_eq_true rfl) rfl rfl ?_
    refine ex_aload_n 0 (pc' := 16) dX9_pushPairs_15 rfl rfl rfl ?_
    refine ex_iload_n 2 (pc' := 17) dX9_pushPairs_16 rfl rfl rfl ?_
    refine ex_iconst (v := 1) (pc' := 18) dX9_pushPairs_17 ic_1 rfl ?_
    obtain ⟨I4, hq5, hf⟩ := of_bnd1 hf
    refine ex_callV_v (rm' := rmX9_push) (st := []) (pc' := 21) [.int v2, .int 1] dX9_pushPairs_18 cl_X9_19 (k_X9_push G h0 hq5) rfl (sh9_k h0) ⟨_, _, rfl⟩ rfl rfl (ROOM_of rfl) (Nat.le_of_ble_eq_true rfl) rfl rfl ?_
    refine ex_iincc (lv' := [(4, .int (v4 + 1)), (0, .ref (gB G + a0)), (1, .int v1), (2, .int v2), (3, .int v3)]) 4 (pc' := 24) dX9_pushPairs_21 rfl ic_1 (Nat.le_of_ble_eq_true rfl) rfl rfl ?_
    refine ex_goto (tgt := 3) dX9_pushPairs_24 (by decide) ?_
    exact ex_sub [1, 2, 3, 4, 0] rfl (hC _ _ (Option.some.inj hf).symm)
  · replace hf := if_f hc1 hf
    exact ex_sub [] rfl (hX _ (Option.some.inj hf).symm)
def f_X9_pushPairs_l3 (N : Nat) (a0 : Nat) (v1 : Int32) (v2 : Int32) (v3 : Int32) (v4 : Int32) (I : MI) : Option (MI) := loopN (fun s => f_X9_pushPairs_b3 N a0 v1 v2 v3 s.1 s.2) N (v4, I)
set_option maxRecDepth 100000 in
set_option maxHeartbeats 4000000 in
theorem k_X9_pushPairs_l3 {G : GX} {Q : State → Prop} {X : MX} {a0 : Nat} {v1 : Int32} {v2 : Int32} {v3 : Int32} (h0 : shX9 X a0) {N0 : Nat} {L : ML} {out : (MI)} (hX : ∀ (I' : MI), out = I' → Ex G mX9_pushPairs rmX9_pushPairs Q (0, 0) X I' L 27 [] []) : ∀ (N : Nat) (v4 : Int32) (I : MI), loopN (fun s => f_X9_pushPairs_b3 N0 a0 v1 v2 v3 s.1 s.2) N (v4, I) = some out → Ex G mX9_pushPairs rmX9_pushPairs Q (0, 0) X I L 3 [(0, .ref (gB G + a0)), (1, .int v1), (2, .int v2), (3, .int v3), (4, .int v4)] [] := by
  intro N
  induction N with
  | zero => intro v4 I hf; exact absurd (loopN_zero hf) id
  | succ n ih =>
    intro v4 I hf
    rcases loopN_succ hf with ⟨s, hb, hl⟩ | hb
    · obtain ⟨v4', I'⟩ := s
      refine k_X9_pushPairs_b3 h0 hb (fun _ _ he => ?_) (fun _ he => by cases he)
      cases he
      exact ih v4' I' hl
    · exact k_X9_pushPairs_b3 h0 hb (fun _ _ he => by cases he) (fun x0 he => hX x0 (Sum.inr.inj he))
def f_X9_pushPairs (N : Nat) (a0 : Nat) (v1 : Int32) (v2 : Int32) (v3 : Int32) (I : MI) : Option (MI) := bnd1 (f_X9_pushPairs_l3 N a0 v1 v2 v3 0 I) fun I6 => some I6
set_option maxRecDepth 100000 in
set_option maxHeartbeats 4000000 in
theorem kb_X9_pushPairs {G : GX} {Q : State → Prop} {X : MX} {a0 : Nat} {v1 : Int32} {v2 : Int32} {v3 : Int32} (h0 : shX9 X a0) {N : Nat} {I : MI} {L : ML} {out : MI} (hf : f_X9_pushPairs N a0 v1 v2 v3 I = some out) (hR : ∀ (I' : MI), out = I' → Q = RetQ G none X I' L (0, 0)) : Ex G mX9_pushPairs rmX9_pushPairs Q (0, 0) X I L 0 [(0, .ref (gB G + a0)), (1, .int v1), (2, .int v2), (3, .int v3)] [] := by
  unfold f_X9_pushPairs at hf
  refine ex_iconst (v := 0) (pc' := 1) dX9_pushPairs_0 ic_0 rfl ?_
  refine ex_istore (lv' := [(4, .int 0), (0, .ref (gB G + a0)), (1, .int v1), (2, .int v2), (3, .int v3)]) (pc' := 3) dX9_pushPairs_1 (Nat.le_of_ble_eq_true rfl) rfl rfl ?_
  refine ex_sub (lv' := [(0, .ref (gB G + a0)), (1, .int v1), (2, .int v2), (3, .int v3), (4, .int 0)]) [1, 2, 3, 4, 0] rfl ?_
  obtain ⟨I6, hq7, hf⟩ := of_bnd1 hf
  refine k_X9_pushPairs_l3 h0 (fun I6' he => ?_) _ _ _ hq7
  cases he
  exact ex_vret dX9_pushPairs_27 rfl (hR _ (Option.some.inj hf).symm)
set_option maxRecDepth 100000 in
set_option maxHeartbeats 4000000 in
theorem k_X9_pushPairs (G : GX) {X : MX} {a0 : Nat} {v1 : Int32} {v2 : Int32} {v3 : Int32} (h0 : shX9 X a0) {N : Nat} {I : MI} {L : ML} {I' : MI} (hf : f_X9_pushPairs N a0 v1 v2 v3 I = some I') : Con G mX9_pushPairs yX9_pushPairs rmX9_pushPairs (fun B => [.ref (B + a0), .int v1, .int v2, .int v3]) X I L none X I' L :=
  Con.of (by decide) rfl (fun h => by cases h) (fun B => Nat.le_of_ble_eq_true rfl) (fun G => kb_X9_pushPairs h0 hf (fun _ he => by cases he; rfl))
-- X9_hasRoom ('RookWords$Word', 'hasRoom', '(I)Z')
def rmX9_hasRoom : RM := ((0, 0, 0, 0), false, (some FieldType.boolean))
def f_X9_hasRoom (a0 : Nat) (v1 : Int32) (I : MI) : Option (Int32) := (if (12 - (I a0 1)) < v1 then some 0 else some 1)
set_option maxRecDepth 100000 in
set_option maxHeartbeats 4000000 in
theorem kb_X9_hasRoom {G : GX} {Q : State → Prop} {X : MX} {a0 : Nat} {v1 : Int32} (h0 : shX9 X a0) {I : MI} {L : ML} {out : Int32} (hf : f_X9_hasRoom a0 v1 I = some out) (hR : ∀ (z : Int32), out = z → Q = RetQ G (some (.int z)) X I L (0, 0)) : Ex G mX9_hasRoom rmX9_hasRoom Q (0, 0) X I L 0 [(0, .ref (gB G + a0)), (1, .int v1)] [] := by
  unfold f_X9_hasRoom at hf
  refine ex_iload_n 1 (pc' := 1) dX9_hasRoom_0 rfl rfl rfl ?_
  refine ex_bipush (v := 12) (pc' := 3) dX9_hasRoom_1 bp_12 rfl ?_
  refine ex_aload_n 0 (pc' := 4) dX9_hasRoom_3 rfl rfl rfl ?_
  refine ex_getI (pc' := 7) dX9_hasRoom_4 fl_X9_15 rfl (sh9_k h0) rfl ?_
  refine ex_isub (pc' := 8) dX9_hasRoom_7 rfl ?_
  refine ex_icmpgt (tgt := 15) (pc' := 11) dX9_hasRoom_8 (by decide) rfl (fun hc1 => ?_) (fun hc1 => ?_)
  · replace hf := if_t hc1 hf
    refine ex_iconst (v := 0) (pc' := 16) dX9_hasRoom_15 ic_0 rfl ?_
    exact ex_zret dX9_hasRoom_16 rfl (Or.inl rfl) (hR _ (Option.some.inj hf).symm)
  · replace hf := if_f hc1 hf
    refine ex_iconst (v := 1) (pc' := 12) dX9_hasRoom_11 ic_1 rfl ?_
    refine ex_goto (tgt := 16) dX9_hasRoom_12 (by decide) ?_
    exact ex_zret dX9_hasRoom_16 rfl (Or.inr rfl) (hR _ (Option.some.inj hf).symm)
set_option maxRecDepth 100000 in
set_option maxHeartbeats 4000000 in
theorem k_X9_hasRoom (G : GX) {X : MX} {a0 : Nat} {v1 : Int32} (h0 : shX9 X a0) {I : MI} {L : ML} {z : Int32} (hf : f_X9_hasRoom a0 v1 I = some z) : Con G mX9_hasRoom yX9_hasRoom rmX9_hasRoom (fun B => [.ref (B + a0), .int v1]) X I L (some (.int z)) X I L :=
  Con.of (by decide) rfl (fun h => by cases h) (fun B => Nat.le_of_ble_eq_true rfl) (fun G => kb_X9_hasRoom h0 hf (fun _ he => by cases he; rfl))
theorem cl_X9_31 : CLV RX9 31 yX9_hasRoom mX9_hasRoom (some FieldType.boolean) 1 := ⟨⟨lwg_at 341 (by decide +kernel) rfl, lwg_at 313 (by decide +kernel) rfl, lwg_at 314 (by decide +kernel) rfl, lwg_at 53 (by decide +kernel) rfl⟩, lwg_at 315 (by decide +kernel) rfl, ⟨by decide +kernel, by decide +kernel, by decide +kernel⟩⟩
-- X9_pushGrowing ('RookWords$Word', 'pushGrowing', '(I)V')
def rmX9_pushGrowing : RM := ((1, 23, 0, 0), false, none)
def f_X9_pushGrowing_b2 (N : Nat) (a0 : Nat) (v1 : Int32) (v2 : Int32) (I : MI) : Option ((Int32 × MI) ⊕ (MI)) := (if v1 < v2 then some (.inr I) else bnd1 (f_X9_hasRoom a0 (v2 + 1) I) fun r2 => (if r2 = 0 then some (.inr I) else bnd1 (f_X9_push N a0 1 v2 I) fun I5 => bnd1 (f_X9_push N a0 0 1 I5) fun I7 => some (.inl (v2 + 1, I7))))
set_option maxRecDepth 100000 in
set_option maxHeartbeats 4000000 in
theorem k_X9_pushGrowing_b2 {G : GX} {Q : State → Prop} {X : MX} {a0 : Nat} {v1 : Int32} (h0 : shX9 X a0) {v2 : Int32} {N : Nat} {I : MI} {L : ML} {out : (Int32 × MI) ⊕ (MI)} (hf : f_X9_pushGrowing_b2 N a0 v1 v2 I = some out) (hC : ∀ (v2' : Int32) (I' : MI), out = .inl (v2', I') → Ex G mX9_pushGrowing rmX9_pushGrowing Q (0, 0) X I' L 2 [(0, .ref (gB G + a0)), (1, .int v1), (2, .int v2')] []) (hX : ∀ (I' : MI), out = .inr I' → Ex G mX9_pushGrowing rmX9_pushGrowing Q (0, 0) X I' L 35 [] []) : Ex G mX9_pushGrowing rmX9_pushGrowing Q (0, 0) X I L 2 [(0, .ref (gB G + a0)), (1, .int v1), (2, .int v2)] [] := by
  unfold f_X9_pushGrowing_b2 at hf
  refine ex_iload_n 2 (pc' := 3) dX9_pushGrowing_2 rfl rfl rfl ?_
  refine ex_iload_n 1 (pc' := 4) dX9_pushGrowing_3 rfl rfl rfl ?_
  refine ex_icmpgt (tgt := 35) (pc' := 7) dX9_pushGrowing_4 (by decide) rfl (fun hc1 => ?_) (fun hc1 => ?_)
  · replace hf := if_t hc1 hf
    exact ex_sub [] rfl (hX _ (Option.some.inj hf).symm)
  · replace hf := if_f hc1 hf
    refine ex_aload_n 0 (pc' := 8) dX9_pushGrowing_7 rfl rfl rfl ?_
    refine ex_iload_n 2 (pc' := 9) dX9_pushGrowing_8 rfl rfl rfl ?_
    refine ex_iconst (v := 1) (pc' := 10) dX9_pushGrowing_9 ic_1 rfl ?_
    refine ex_iadd (pc' := 11) dX9_pushGrowing_10 rfl ?_
    obtain ⟨r2, hq3, hf⟩ := of_bnd1 hf
    refine ex_callV_i (rm' := rmX9_hasRoom) (st := []) (pc' := 14) [.int (v2 + 1)] dX9_pushGrowing_11 cl_X9_31 (k_X9_hasRoom G h0 hq3) rfl (sh9_k h0) ⟨_, _, rfl⟩ rfl rfl (ROOM_of rfl) (Nat.le_of_ble_eq_true rfl) rfl rfl ?_
    refine ex_ifeq (tgt := 35) (pc' := 17) dX9_pushGrowing_14 (by decide) rfl (fun hc4 => ?_) (fun hc4 => ?_)
    · replace hf := if_t hc4 hf
      exact ex_sub [] rfl (hX _ (Option.some.inj hf).symm)
    · replace hf := if_f hc4 hf
      refine ex_aload_n 0 (pc' := 18) dX9_pushGrowing_17 rfl rfl rfl ?_
      refine ex_iconst (v := 1) (pc' := 19) dX9_pushGrowing_18 ic_1 rfl ?_
      refine ex_iload_n 2 (pc' := 20) dX9_pushGrowing_19 rfl rfl rfl ?_
      obtain ⟨I5, hq6, hf⟩ := of_bnd1 hf
      refine ex_callV_v (rm' := rmX9_push) (st := []) (pc' := 23) [.int 1, .int v2] dX9_pushGrowing_20 cl_X9_19 (k_X9_push G h0 hq6) rfl (sh9_k h0) ⟨_, _, rfl⟩ rfl rfl (ROOM_of rfl) (Nat.le_of_ble_eq_true rfl) rfl rfl ?_
      refine ex_aload_n 0 (pc' := 24) dX9_pushGrowing_23 rfl rfl rfl ?_
      refine ex_iconst (v := 0) (pc' := 25) dX9_pushGrowing_24 ic_0 rfl ?_
      refine ex_iconst (v := 1) (pc' := 26) dX9_pushGrowing_25 ic_1 rfl ?_
      obtain ⟨I7, hq8, hf⟩ := of_bnd1 hf
      refine ex_callV_v (rm' := rmX9_push) (st := []) (pc' := 29) [.int 0, .int 1] dX9_pushGrowing_26 cl_X9_19 (k_X9_push G h0 hq8) rfl (sh9_k h0) ⟨_, _, rfl⟩ rfl rfl (ROOM_of rfl) (Nat.le_of_ble_eq_true rfl) rfl rfl ?_
      refine ex_iincc (lv' := [(2, .int (v2 + 1)), (0, .ref (gB G + a0)), (1, .int v1)]) 2 (pc' := 32) dX9_pushGrowing_29 rfl ic_1 (Nat.le_of_ble_eq_true rfl) rfl rfl ?_
      refine ex_goto (tgt := 2) dX9_pushGrowing_32 (by decide) ?_
      exact ex_sub [1, 2, 0] rfl (hC _ _ (Option.some.inj hf).symm)
def f_X9_pushGrowing_l2 (N : Nat) (a0 : Nat) (v1 : Int32) (v2 : Int32) (I : MI) : Option (MI) := loopN (fun s => f_X9_pushGrowing_b2 N a0 v1 s.1 s.2) N (v2, I)
set_option maxRecDepth 100000 in
set_option maxHeartbeats 4000000 in
theorem k_X9_pushGrowing_l2 {G : GX} {Q : State → Prop} {X : MX} {a0 : Nat} {v1 : Int32} (h0 : shX9 X a0) {N0 : Nat} {L : ML} {out : (MI)} (hX : ∀ (I' : MI), out = I' → Ex G mX9_pushGrowing rmX9_pushGrowing Q (0, 0) X I' L 35 [] []) : ∀ (N : Nat) (v2 : Int32) (I : MI), loopN (fun s => f_X9_pushGrowing_b2 N0 a0 v1 s.1 s.2) N (v2, I) = some out → Ex G mX9_pushGrowing rmX9_pushGrowing Q (0, 0) X I L 2 [(0, .ref (gB G + a0)), (1, .int v1), (2, .int v2)] [] := by
  intro N
  induction N with
  | zero => intro v2 I hf; exact absurd (loopN_zero hf) id
  | succ n ih =>
    intro v2 I hf
    rcases loopN_succ hf with ⟨s, hb, hl⟩ | hb
    · obtain ⟨v2', I'⟩ := s
      refine k_X9_pushGrowing_b2 h0 hb (fun _ _ he => ?_) (fun _ he => by cases he)
      cases he
      exact ih v2' I' hl
    · exact k_X9_pushGrowing_b2 h0 hb (fun _ _ he => by cases he) (fun x0 he => hX x0 (Sum.inr.inj he))
def f_X9_pushGrowing (N : Nat) (a0 : Nat) (v1 : Int32) (I : MI) : Option (MI) := bnd1 (f_X9_pushGrowing_l2 N a0 v1 1 I) fun I9 => some I9
set_option maxRecDepth 100000 in
set_option maxHeartbeats 4000000 in
theorem kb_X9_pushGrowing {G : GX} {Q : State → Prop} {X : MX} {a0 : Nat} {v1 : Int32} (h0 : shX9 X a0) {N : Nat} {I : MI} {L : ML} {out : MI} (hf : f_X9_pushGrowing N a0 v1 I = some out) (hR : ∀ (I' : MI), out = I' → Q = RetQ G none X I' L (0, 0)) : Ex G mX9_pushGrowing rmX9_pushGrowing Q (0, 0) X I L 0 [(0, .ref (gB G + a0)), (1, .int v1)] [] := by
  unfold f_X9_pushGrowing at hf
  refine ex_iconst (v := 1) (pc' := 1) dX9_pushGrowing_0 ic_1 rfl ?_
  refine ex_istore_n (lv' := [(2, .int 1), (0, .ref (gB G + a0)), (1, .int v1)]) (pc' := 2) dX9_pushGrowing_1 rfl (Nat.le_of_ble_eq_true rfl) rfl rfl ?_
  refine ex_sub (lv' := [(0, .ref (gB G + a0)), (1, .int v1), (2, .int 1)]) [1, 2, 0] rfl ?_
  obtain ⟨I9, hq10, hf⟩ := of_bnd1 hf
  refine k_X9_pushGrowing_l2 h0 (fun I9' he => ?_) _ _ _ hq10
  cases he
  exact ex_vret dX9_pushGrowing_35 rfl (hR _ (Option.some.inj hf).symm)
set_option maxRecDepth 100000 in
set_option maxHeartbeats 4000000 in
theorem k_X9_pushGrowing (G : GX) {X : MX} {a0 : Nat} {v1 : Int32} (h0 : shX9 X a0) {N : Nat} {I : MI} {L : ML} {I' : MI} (hf : f_X9_pushGrowing N a0 v1 I = some I') : Con G mX9_pushGrowing yX9_pushGrowing rmX9_pushGrowing (fun B => [.ref (B + a0), .int v1]) X I L none X I' L :=
  Con.of (by decide) rfl (fun h => by cases h) (fun B => Nat.le_of_ble_eq_true rfl) (fun G => kb_X9_pushGrowing h0 hf (fun _ he => by cases he; rfl))
theorem cl_X9_23 : CLV RX9 23 yX9_pushPairs mX9_pushPairs none 3 := ⟨⟨lwg_at 333 (by decide +kernel) rfl, lwg_at 335 (by decide +kernel) rfl, lwg_at 0 (by decide +kernel) rfl, lwg_at 53 (by decide +kernel) rfl⟩, lwg_at 336 (by decide +kernel) rfl, ⟨by decide +kernel, by decide +kernel, by decide +kernel⟩⟩
theorem cl_X9_27 : CLV RX9 27 yX9_pushGrowing mX9_pushGrowing none 1 := ⟨⟨lwg_at 337 (by decide +kernel) rfl, lwg_at 339 (by decide +kernel) rfl, lwg_at 1 (by decide +kernel) rfl, lwg_at 53 (by decide +kernel) rfl⟩, lwg_at 340 (by decide +kernel) rfl, ⟨by decide +kernel, by decide +kernel, by decide +kernel⟩⟩
-- X9_fillByKind ('RookWords$Word', 'fillByKind', '(II)V')
def rmX9_fillByKind : RM := ((2, 47, 0, 0), false, none)
def f_X9_fillByKind (N : Nat) (a0 : Nat) (v1 : Int32) (v2 : Int32) (I : MI) : Option (MI) := (if v1 = 0 then bnd1 (f_X9_push N a0 0 v2 I) fun I2 => bnd1 (f_X9_push N a0 1 v2 I2) fun I4 => some I4 else (if v1 = 1 then bnd1 (f_X9_pushPairs N a0 0 1 v2 I) fun I7 => some I7 else (if v1 = 2 then bnd1 (f_X9_pushPairs N a0 1 0 v2 I) fun I10 => some I10 else (if v1 = 3 then bnd1 (f_X9_push N a0 1 v2 I) fun I13 => bnd1 (f_X9_push N a0 0 v2 I13) fun I15 => some I15 else (if v1 = 4 then bnd1 (f_X9_push N a0 0 1 I) fun I18 => bnd1 (f_X9_push N a0 1 v2 I18) fun I20 => bnd1 (f_X9_push N a0 0 1 I20) fun I22 => some I22 else bnd1 (f_X9_pushGrowing N a0 v2 I) fun I24 => some I24)))))
set_option maxRecDepth 100000 in
set_option maxHeartbeats 4000000 in
theorem kb_X9_fillByKind {G : GX} {Q : State → Prop} {X : MX} {a0 : Nat} {v1 : Int32} {v2 : Int32} (h0 : shX9 X a0) {N : Nat} {I : MI} {L : ML} {out : MI} (hf : f_X9_fillByKind N a0 v1 v2 I = some out) (hR : ∀ (I' : MI), out = I' → Q = RetQ G none X I' L (0, 0)) : Ex G mX9_fillByKind rmX9_fillByKind Q (0, 0) X I L 0 [(0, .ref (gB G + a0)), (1, .int v1), (2, .int v2)] [] := by
  unfold f_X9_fillByKind at hf
  refine ex_iload_n 1 (pc' := 1) dX9_fillByKind_0 rfl rfl rfl ?_
  by_cases hc1 : v1 = 0
  · replace hf := if_t hc1 hf
    refine ex_tableIn (off := 35) (tgt := 36) dX9_fillByKind_1 (by rw [hc1]; decide) (by rw [hc1]; decide) (by rw [hc1]; decide) (by decide) ?_
    refine ex_aload_n 0 (pc' := 37) dX9_fillByKind_36 rfl rfl rfl ?_
    refine ex_iconst (v := 0) (pc' := 38) dX9_fillByKind_37 ic_0 rfl ?_
    refine ex_iload_n 2 (pc' := 39) dX9_fillByKind_38 rfl rfl rfl ?_
    obtain ⟨I2, hq3, hf⟩ := of_bnd1 hf
    refine ex_callV_v (rm' := rmX9_push) (st := []) (pc' := 42) [.int 0, .int v2] dX9_fillByKind_39 cl_X9_19 (k_X9_push G h0 hq3) rfl (sh9_k h0) ⟨_, _, rfl⟩ rfl rfl (ROOM_of rfl) (Nat.le_of_ble_eq_true rfl) rfl rfl ?_
    refine ex_aload_n 0 (pc' := 43) dX9_fillByKind_42 rfl rfl rfl ?_
    refine ex_iconst (v := 1) (pc' := 44) dX9_fillByKind_43 ic_1 rfl ?_
    refine ex_iload_n 2 (pc' := 45) dX9_fillByKind_44 rfl rfl rfl ?_
    obtain ⟨I4, hq5, hf⟩ := of_bnd1 hf
    refine ex_callV_v (rm' := rmX9_push) (st := []) (pc' := 48) [.int 1, .int v2] dX9_fillByKind_45 cl_X9_19 (k_X9_push G h0 hq5) rfl (sh9_k h0) ⟨_, _, rfl⟩ rfl rfl (ROOM_of rfl) (Nat.le_of_ble_eq_true rfl) rfl rfl ?_
    refine ex_goto (tgt := 112) dX9_fillByKind_48 (by decide) ?_
    exact ex_vret dX9_fillByKind_112 rfl (hR _ (Option.some.inj hf).symm)
  replace hf := if_f hc1 hf
  by_cases hc6 : v1 = 1
  · replace hf := if_t hc6 hf
    refine ex_tableIn (off := 50) (tgt := 51) dX9_fillByKind_1 (by rw [hc6]; decide) (by rw [hc6]; decide) (by rw [hc6]; decide) (by decide) ?_
    refine ex_aload_n 0 (pc' := 52) dX9_fillByKind_51 rfl rfl rfl ?_
    refine ex_iconst (v := 0) (pc' := 53) dX9_fillByKind_52 ic_0 rfl ?_
    refine ex_iconst (v := 1) (pc' := 54) dX9_fillByKind_53 ic_1 rfl ?_
    refine ex_iload_n 2 (pc' := 55) dX9_fillByKind_54 rfl rfl rfl ?_
    obtain ⟨I7, hq8, hf⟩ := of_bnd1 hf
    refine ex_callV_v (rm' := rmX9_pushPairs) (st := []) (pc' := 58) [.int 0, .int 1, .int v2] dX9_fillByKind_55 cl_X9_23 (k_X9_pushPairs G h0 hq8) rfl (sh9_k h0) ⟨_, _, rfl⟩ rfl rfl (ROOM_of rfl) (Nat.le_of_ble_eq_true rfl) rfl rfl ?_
    refine ex_goto (tgt := 112) dX9_fillByKind_58 (by decide) ?_
    exact ex_vret dX9_fillByKind_112 rfl (hR _ (Option.some.inj hf).symm)
  replace hf := if_f hc6 hf
  by_cases hc9 : v1 = 2
  · replace hf := if_t hc9 hf
    refine ex_tableIn (off := 60) (tgt := 61) dX9_fillByKind_1 (by rw [hc9]; decide) (by rw [hc9]; decide) (by rw [hc9]; decide) (by decide) ?_
    refine ex_aload_n 0 (pc' := 62) dX9_fillByKind_61 rfl rfl rfl ?_
    refine ex_iconst (v := 1) (pc' := 63) dX9_fillByKind_62 ic_1 rfl ?_
    refine ex_iconst (v := 0) (pc' := 64) dX9_fillByKind_63 ic_0 rfl ?_
    refine ex_iload_n 2 (pc' := 65) dX9_fillByKind_64 rfl rfl rfl ?_
    obtain ⟨I10, hq11, hf⟩ := of_bnd1 hf
    refine ex_callV_v (rm' := rmX9_pushPairs) (st := []) (pc' := 68) [.int 1, .int 0, .int v2] dX9_fillByKind_65 cl_X9_23 (k_X9_pushPairs G h0 hq11) rfl (sh9_k h0) ⟨_, _, rfl⟩ rfl rfl (ROOM_of rfl) (Nat.le_of_ble_eq_true rfl) rfl rfl ?_
    refine ex_goto (tgt := 112) dX9_fillByKind_68 (by decide) ?_
    exact ex_vret dX9_fillByKind_112 rfl (hR _ (Option.some.inj hf).symm)
  replace hf := if_f hc9 hf
  by_cases hc12 : v1 = 3
  · replace hf := if_t hc12 hf
    refine ex_tableIn (off := 70) (tgt := 71) dX9_fillByKind_1 (by rw [hc12]; decide) (by rw [hc12]; decide) (by rw [hc12]; decide) (by decide) ?_
    refine ex_aload_n 0 (pc' := 72) dX9_fillByKind_71 rfl rfl rfl ?_
    refine ex_iconst (v := 1) (pc' := 73) dX9_fillByKind_72 ic_1 rfl ?_
    refine ex_iload_n 2 (pc' := 74) dX9_fillByKind_73 rfl rfl rfl ?_
    obtain ⟨I13, hq14, hf⟩ := of_bnd1 hf
    refine ex_callV_v (rm' := rmX9_push) (st := []) (pc' := 77) [.int 1, .int v2] dX9_fillByKind_74 cl_X9_19 (k_X9_push G h0 hq14) rfl (sh9_k h0) ⟨_, _, rfl⟩ rfl rfl (ROOM_of rfl) (Nat.le_of_ble_eq_true rfl) rfl rfl ?_
    refine ex_aload_n 0 (pc' := 78) dX9_fillByKind_77 rfl rfl rfl ?_
    refine ex_iconst (v := 0) (pc' := 79) dX9_fillByKind_78 ic_0 rfl ?_
    refine ex_iload_n 2 (pc' := 80) dX9_fillByKind_79 rfl rfl rfl ?_
    obtain ⟨I15, hq16, hf⟩ := of_bnd1 hf
    refine ex_callV_v (rm' := rmX9_push) (st := []) (pc' := 83) [.int 0, .int v2] dX9_fillByKind_80 cl_X9_19 (k_X9_push G h0 hq16) rfl (sh9_k h0) ⟨_, _, rfl⟩ rfl rfl (ROOM_of rfl) (Nat.le_of_ble_eq_true rfl) rfl rfl ?_
    refine ex_goto (tgt := 112) dX9_fillByKind_83 (by decide) ?_
    exact ex_vret dX9_fillByKind_112 rfl (hR _ (Option.some.inj hf).symm)
  replace hf := if_f hc12 hf
  by_cases hc17 : v1 = 4
  · replace hf := if_t hc17 hf
    refine ex_tableIn (off := 85) (tgt := 86) dX9_fillByKind_1 (by rw [hc17]; decide) (by rw [hc17]; decide) (by rw [hc17]; decide) (by decide) ?_
    refine ex_aload_n 0 (pc' := 87) dX9_fillByKind_86 rfl rfl rfl ?_
    refine ex_iconst (v := 0) (pc' := 88) dX9_fillByKind_87 ic_0 rfl ?_
    refine ex_iconst (v := 1) (pc' := 89) dX9_fillByKind_88 ic_1 rfl ?_
    obtain ⟨I18, hq19, hf⟩ := of_bnd1 hf
    refine ex_callV_v (rm' := rmX9_push) (st := []) (pc' := 92) [.int 0, .int 1] dX9_fillByKind_89 cl_X9_19 (k_X9_push G h0 hq19) rfl (sh9_k h0) ⟨_, _, rfl⟩ rfl rfl (ROOM_of rfl) (Nat.le_of_ble_eq_true rfl) rfl rfl ?_
    refine ex_aload_n 0 (pc' := 93) dX9_fillByKind_92 rfl rfl rfl ?_
    refine ex_iconst (v := 1) (pc' := 94) dX9_fillByKind_93 ic_1 rfl ?_
    refine ex_iload_n 2 (pc' := 95) dX9_fillByKind_94 rfl rfl rfl ?_
    obtain ⟨I20, hq21, hf⟩ := of_bnd1 hf
    refine ex_callV_v (rm' := rmX9_push) (st := []) (pc' := 98) [.int 1, .int v2] dX9_fillByKind_95 cl_X9_19 (k_X9_push G h0 hq21) rfl (sh9_k h0) ⟨_, _, rfl⟩ rfl rfl (ROOM_of rfl) (Nat.le_of_ble_eq_true rfl) rfl rfl ?_
    refine ex_aload_n 0 (pc' := 99) dX9_fillByKind_98 rfl rfl rfl ?_
    refine ex_iconst (v := 0) (pc' := 100) dX9_fillByKind_99 ic_0 rfl ?_
    refine ex_iconst (v := 1) (pc' := 101) dX9_fillByKind_100 ic_1 rfl ?_
    obtain ⟨I22, hq23, hf⟩ := of_bnd1 hf
    refine ex_callV_v (rm' := rmX9_push) (st := []) (pc' := 104) [.int 0, .int 1] dX9_fillByKind_101 cl_X9_19 (k_X9_push G h0 hq23) rfl (sh9_k h0) ⟨_, _, rfl⟩ rfl rfl (ROOM_of rfl) (Nat.le_of_ble_eq_true rfl) rfl rfl ?_
    refine ex_goto (tgt := 112) dX9_fillByKind_104 (by decide) ?_
    exact ex_vret dX9_fillByKind_112 rfl (hR _ (Option.some.inj hf).symm)
  replace hf := if_f hc17 hf
  have hc1t := lv_neT (a := 0) hc1 (by decide)
  have hc6t := lv_neT (a := 1) hc6 (by decide)
  have hc9t := lv_neT (a := 2) hc9 (by decide)
  have hc12t := lv_neT (a := 3) hc12 (by decide)
  have hc17t := lv_neT (a := 4) hc17 (by decide)
  refine ex_tableOut (tgt := 107) dX9_fillByKind_1 (by omega) (by decide) ?_
  refine ex_aload_n 0 (pc' := 108) dX9_fillByKind_107 rfl rfl rfl ?_
  refine ex_iload_n 2 (pc' := 109) dX9_fillByKind_108 rfl rfl rfl ?_
  obtain ⟨I24, hq25, hf⟩ := of_bnd1 hf
  refine ex_callV_v (rm' := rmX9_pushGrowing) (st := []) (pc' := 112) [.int v2] dX9_fillByKind_109 cl_X9_27 (k_X9_pushGrowing G h0 hq25) rfl (sh9_k h0) ⟨_, _, rfl⟩ rfl rfl (ROOM_of rfl) (Nat.le_of_ble_eq_true rfl) rfl rfl ?_
  exact ex_vret dX9_fillByKind_112 rfl (hR _ (Option.some.inj hf).symm)
set_option maxRecDepth 100000 in
set_option maxHeartbeats 4000000 in
theorem k_X9_fillByKind (G : GX) {X : MX} {a0 : Nat} {v1 : Int32} {v2 : Int32} (h0 : shX9 X a0) {N : Nat} {I : MI} {L : ML} {I' : MI} (hf : f_X9_fillByKind N a0 v1 v2 I = some I') : Con G mX9_fillByKind yX9_fillByKind rmX9_fillByKind (fun B => [.ref (B + a0), .int v1, .int v2]) X I L none X I' L :=
  Con.of (by decide) rfl (fun h => by cases h) (fun B => Nat.le_of_ble_eq_true rfl) (fun G => kb_X9_fillByKind h0 hf (fun _ he => by cases he; rfl))
theorem cl_X9_39 : CLS RX9 39 yJ7_fill_d0a16 mJ7_fill_d0a16 none 2 := ⟨⟨lwg_at 378 (by decide +kernel) rfl, lwg_at 379 (by decide +kernel) rfl, lwg_at 55 (by decide +kernel) rfl⟩, lwg_at 380 (by decide +kernel) rfl, ⟨by decide +kernel, by decide +kernel, by decide +kernel⟩⟩
-- X9_fillOrders ('RookWords$Word', 'fillOrders', '([J)V')
def rmX9_fillOrders : RM := ((1, 24, 0, 0), false, none)
def f_X9_fillOrders_b40 (N : Nat) (a0 : Nat) (a1 : Nat) (n1 : Nat) (v2 : Int32) (v3 : Int32) (v4 : Int32) (L : ML) : Option ((Int32 × ML) ⊕ (ML)) := (if v4 < 1 then some (.inr L) else if inb v4 n1 then if inb (v4 - 1) n1 then if inb v4 n1 then letv (upL L a1 (Int32.toNatClampNeg v4) ((L a1 (Int32.toNatClampNeg v4)) + ((Int32.toInt64 ((v2 - v4) + 1)) * (L a1 (Int32.toNatClampNeg (v4 - 1)))))) fun L12 => some (.inl (v4 + (-1), L12)) else none else none else none)
set_option maxRecDepth 100000 in
set_option maxHeartbeats 4000000 in
theorem k_X9_fillOrders_b40 {G : GX} {Q : State → Prop} {X : MX} {a0 : Nat} {a1 : Nat} {n1 : Nat} {v2 : Int32} {v3 : Int32} (h0 : shX9 X a0) (h1 : X.1 a1 = (3, n1)) {v4 : Int32} {N : Nat} {I : MI} {L : ML} {out : (Int32 × ML) ⊕ (ML)} (hf : f_X9_fillOrders_b40 N a0 a1 n1 v2 v3 v4 L = some out) (hC : ∀ (v4' : Int32) (L' : ML), out = .inl (v4', L') → Ex G mX9_fillOrders rmX9_fillOrders Q (0, 0) X I L' 40 [(0, .ref (gB G + a0)), (1, .ref (gB G + a1)), (2, .int v2), (3, .int v3), (4, .int v4')] []) (hX : ∀ (L' : ML), out = .inr L' → Ex G mX9_fillOrders rmX9_fillOrders Q (0, 0) X I L' 73 [(0, .ref (gB G + a0)), (1, .ref (gB G + a1)), (2, .int v2), (3, .int v3)] []) : Ex G mX9_fillOrders rmX9_fillOrders Q (0, 0) X I L 40 [(0, .ref (gB G + a0)), (1, .ref (gB G + a1)), (2, .int v2), (3, .int v3), (4, .int v4)] [] := by
  unfold f_X9_fillOrders_b40 at hf
  refine ex_iload 4 (pc' := 42) dX9_fillOrders_40 rfl rfl ?_
  refine ex_iconst (v := 1) (pc' := 43) dX9_fillOrders_42 ic_1 rfl ?_
  refine ex_icmplt (tgt := 73) (pc' := 46) dX9_fillOrders_43 (by decide) rfl (fun hc8 => ?_) (fun hc8 => ?_)
  · replace hf := if_t hc8 hf
    exact ex_sub [0, 1, 2, 3] rfl (hX _ (Option.some.inj hf).symm)
  · replace hf := if_f hc8 hf
    refine ex_aload_n 1 (pc' := 47) dX9_fillOrders_46 rfl rfl rfl ?_
    refine ex_iload 4 (pc' := 49) dX9_fillOrders_47 rfl rfl ?_
    refine ex_dup2 (pc' := 50) dX9_fillOrders_49 rfl rfl rfl ?_
    obtain ⟨hg9, hf⟩ := of_guard hf
    refine ex_lald (pc' := 51) dX9_fillOrders_50 h1 (inb_in hg9) rfl ?_
    refine ex_iload_n 2 (pc' := 52) dX9_fillOrders_51 rfl rfl rfl ?_
    refine ex_iload 4 (pc' := 54) dX9_fillOrders_52 rfl rfl ?_
    refine ex_isub (pc' := 55) dX9_fillOrders_54 rfl ?_
    refine ex_iconst (v := 1) (pc' := 56) dX9_fillOrders_55 ic_1 rfl ?_
    refine ex_iadd (pc' := 57) dX9_fillOrders_56 rfl ?_
    refine ex_i2l (pc' := 58) dX9_fillOrders_57 rfl ?_
    refine ex_aload_n 1 (pc' := 59) dX9_fillOrders_58 rfl rfl rfl ?_
    refine ex_iload 4 (pc' := 61) dX9_fillOrders_59 rfl rfl ?_
    refine ex_iconst (v := 1) (pc' := 62) dX9_fillOrders_61 ic_1 rfl ?_
    refine ex_isub (pc' := 63) dX9_fillOrders_62 rfl ?_
    obtain ⟨hg10, hf⟩ := of_guard hf
    refine ex_lald (pc' := 64) dX9_fillOrders_63 h1 (inb_in hg10) rfl ?_
    refine ex_lmul (pc' := 65) dX9_fillOrders_64 rfl ?_
    refine ex_ladd (pc' := 66) dX9_fillOrders_65 rfl ?_
    obtain ⟨hg11, hf⟩ := of_guard hf
    refine ex_last (pc' := 67) dX9_fillOrders_66 h1 (inb_in hg11) rfl ?_
    obtain ⟨L12, hL12, hf⟩ := of_let hf
    rw [← hL12]
    refine ex_iincc (lv' := [(4, .int (v4 + (-1))), (0, .ref (gB G + a0)), (1, .ref (gB G + a1)), (2, .int v2), (3, .int v3)]) 4 (pc' := 70) dX9_fillOrders_67 rfl ic_m1 (Nat.le_of_ble_eq_true rfl) rfl rfl ?_
    refine ex_goto (tgt := 40) dX9_fillOrders_70 (by decide) ?_
    exact ex_sub [1, 2, 3, 4, 0] rfl (hC _ _ (Option.some.inj hf).symm)
def f_X9_fillOrders_l40 (N : Nat) (a0 : Nat) (a1 : Nat) (n1 : Nat) (v2 : Int32) (v3 : Int32) (v4 : Int32) (L : ML) : Option (ML) := loopN (fun s => f_X9_fillOrders_b40 N a0 a1 n1 v2 v3 s.1 s.2) N (v4, L)
set_option maxRecDepth 100000 in
set_option maxHeartbeats 4000000 in
theorem k_X9_fillOrders_l40 {G : GX} {Q : State → Prop} {X : MX} {a0 : Nat} {a1 : Nat} {n1 : Nat} {v2 : Int32} {v3 : Int32} (h0 : shX9 X a0) (h1 : X.1 a1 = (3, n1)) {N0 : Nat} {I : MI} {out : (ML)} (hX : ∀ (L' : ML), out = L' → Ex G mX9_fillOrders rmX9_fillOrders Q (0, 0) X I L' 73 [(0, .ref (gB G + a0)), (1, .ref (gB G + a1)), (2, .int v2), (3, .int v3)] []) : ∀ (N : Nat) (v4 : Int32) (L : ML), loopN (fun s => f_X9_fillOrders_b40 N0 a0 a1 n1 v2 v3 s.1 s.2) N (v4, L) = some out → Ex G mX9_fillOrders rmX9_fillOrders Q (0, 0) X I L 40 [(0, .ref (gB G + a0)), (1, .ref (gB G + a1)), (2, .int v2), (3, .int v3), (4, .int v4)] [] := by
  intro N
  induction N with
  | zero => intro v4 L hf; exact absurd (loopN_zero hf) id
  | succ n ih =>
    intro v4 L hf
    rcases loopN_succ hf with ⟨s, hb, hl⟩ | hb
    · obtain ⟨v4', L'⟩ := s
      refine k_X9_fillOrders_b40 h0 h1 hb (fun _ _ he => ?_) (fun _ he => by cases he)
      cases he
      exact ih v4' L' hl
    · exact k_X9_fillOrders_b40 h0 h1 hb (fun _ _ he => by cases he) (fun x0 he => hX x0 (Sum.inr.inj he))
def f_X9_fillOrders_b13 (N : Nat) (a0 : Nat) (a1 : Nat) (n1 : Nat) (v2 : Int32) (v3 : Int32) (I : MI) (L : ML) : Option ((Int32 × Int32 × ML) ⊕ (ML)) := (if v3 < (I a0 1) then if inb v3 12 then (if (I (a0 + 1) (Int32.toNatClampNeg v3)) = 1 then some (.inl (v2 + 1, v3 + 1, L)) else bnd1 (f_X9_fillOrders_l40 N a0 a1 n1 v2 v3 v2 L) fun L13 => some (.inl (v2, v3 + 1, L13))) else none else some (.inr L))
set_option maxRecDepth 100000 in
set_option maxHeartbeats 4000000 in
theorem k_X9_fillOrders_b13 {G : GX} {Q : State → Prop} {X : MX} {a0 : Nat} {a1 : Nat} {n1 : Nat} (h0 : shX9 X a0) (h1 : X.1 a1 = (3, n1)) {v2 : Int32} {v3 : Int32} {N : Nat} {I : MI} {L : ML} {out : (Int32 × Int32 × ML) ⊕ (ML)} (hf : f_X9_fillOrders_b13 N a0 a1 n1 v2 v3 I L = some out) (hC : ∀ (v2' : Int32) (v3' : Int32) (L' : ML), out = .inl (v2', v3', L') → Ex G mX9_fillOrders rmX9_fillOrders Q (0, 0) X I L' 13 [(0, .ref (gB G + a0)), (1, .ref (gB G + a1)), (2, .int v2'), (3, .int v3')] []) (hX : ∀ (L' : ML), out = .inr L' → Ex G mX9_fillOrders rmX9_fillOrders Q (0, 0) X I L' 79 [] []) : Ex G mX9_fillOrders rmX9_fillOrders Q (0, 0) X I L 13 [(0, .ref (gB G + a0)), (1, .ref (gB G + a1)), (2, .int v2), (3, .int v3)] [] := by
  unfold f_X9_fillOrders_b13 at hf
  refine ex_iload_n 3 (pc' := 14) dX9_fillOrders_13 rfl rfl rfl ?_
  refine ex_aload_n 0 (pc' := 15) dX9_fillOrders_14 rfl rfl rfl ?_
  refine ex_getI (pc' := 18) dX9_fillOrders_15 fl_X9_15 rfl (sh9_k h0) rfl ?_
  refine ex_icmpge (tgt := 79) (pc' := 21) dX9_fillOrders_18 (by decide) rfl (fun hc5 => ?_) (fun hc5 => ?_)
  · replace hf := if_t hc5 hf
    refine ex_aload_n 0 (pc' := 22) dX9_fillOrders_21 rfl rfl rfl ?_
    refine ex_getR (pc' := 25) dX9_fillOrders_22 fl_X9_9 rfl (sh9_k h0) (sh9_F0 h0) rfl ?_
    refine ex_iload_n 3 (pc' := 26) dX9_fillOrders_25 rfl rfl rfl ?_
    obtain ⟨hg6, hf⟩ := of_guard hf
    refine ex_iald (pc' := 27) dX9_fillOrders_26 (sh9_T0 h0) (inb_in hg6) rfl ?_
    refine ex_iconst (v := 1) (pc' := 28) dX9_fillOrders_27 ic_1 rfl ?_
    refine ex_icmpne (tgt := 37) (pc' := 31) dX9_fillOrders_28 (by decide) rfl (fun hc7 => ?_) (fun hc7 => ?_)
    · replace hf := if_t hc7 hf
      refine ex_iincc (lv' := [(2, .int (v2 + 1)), (0, .ref (gB G + a0)), (1, .ref (gB G + a1)), (3, .int v3)]) 2 (pc' := 34) dX9_fillOrders_31 rfl ic_1 (Nat.le_of_ble_eq_true rfl) rfl rfl ?_
      refine ex_goto (tgt := 73) dX9_fillOrders_34 (by decide) ?_
      refine ex_iincc (lv' := [(3, .int (v3 + 1)), (2, .int (v2 + 1)), (0, .ref (gB G + a0)), (1, .ref (gB G + a1))]) 3 (pc' := 76) dX9_fillOrders_73 rfl ic_1 (Nat.le_of_ble_eq_true rfl) rfl rfl ?_
      refine ex_goto (tgt := 13) dX9_fillOrders_76 (by decide) ?_
      exact ex_sub [2, 3, 1, 0] rfl (hC _ _ _ (Option.some.inj hf).symm)
    · replace hf := if_f hc7 hf
      refine ex_iload_n 2 (pc' := 38) dX9_fillOrders_37 rfl rfl rfl ?_
      refine ex_istore (lv' := [(4, .int v2), (0, .ref (gB G + a0)), (1, .ref (gB G + a1)), (2, .int v2), (3, .int v3)]) (pc' := 40) dX9_fillOrders_38 (Nat.le_of_ble_eq_true rfl) rfl rfl ?_
      refine ex_sub (lv' := [(0, .ref (gB G + a0)), (1, .ref (gB G + a1)), (2, .int v2), (3, .int v3), (4, .int v2)]) [1, 2, 3, 4, 0] rfl ?_
      obtain ⟨L13, hq14, hf⟩ := of_bnd1 hf
      refine k_X9_fillOrders_l40 h0 h1 (fun L13' he => ?_) _ _ _ hq14
      cases he
      refine ex_iincc (lv' := [(3, .int (v3 + 1)), (0, .ref (gB G + a0)), (1, .ref (gB G + a1)), (2, .int v2)]) 3 (pc' := 76) dX9_fillOrders_73 rfl ic_1 (Nat.le_of_ble_eq_true rfl) rfl rfl ?_
      refine ex_goto (tgt := 13) dX9_fillOrders_76 (by decide) ?_
      exact ex_sub [1, 2, 3, 0] rfl (hC _ _ _ (Option.some.inj hf).symm)
  · replace hf := if_f hc5 hf
    exact ex_sub [] rfl (hX _ (Option.some.inj hf).symm)
def f_X9_fillOrders_l13 (N : Nat) (a0 : Nat) (a1 : Nat) (n1 : Nat) (v2 : Int32) (v3 : Int32) (I : MI) (L : ML) : Option (ML) := loopN (fun s => f_X9_fillOrders_b13 N a0 a1 n1 s.1 s.2.1 I s.2.2) N (v2, v3, L)
set_option maxRecDepth 100000 in
set_option maxHeartbeats 4000000 in
theorem k_X9_fillOrders_l13 {G : GX} {Q : State → Prop} {X : MX} {a0 : Nat} {a1 : Nat} {n1 : Nat} (h0 : shX9 X a0) (h1 : X.1 a1 = (3, n1)) {N0 : Nat} {I : MI} {out : (ML)} (hX : ∀ (L' : ML), out = L' → Ex G mX9_fillOrders rmX9_fillOrders Q (0, 0) X I L' 79 [] []) : ∀ (N : Nat) (v2 : Int32) (v3 : Int32) (L : ML), loopN (fun s => f_X9_fillOrders_b13 N0 a0 a1 n1 s.1 s.2.1 I s.2.2) N (v2, v3, L) = some out → Ex G mX9_fillOrders rmX9_fillOrders Q (0, 0) X I L 13 [(0, .ref (gB G + a0)), (1, .ref (gB G + a1)), (2, .int v2), (3, .int v3)] [] := by
  intro N
  induction N with
  | zero => intro v2 v3 L hf; exact absurd (loopN_zero hf) id
  | succ n ih =>
    intro v2 v3 L hf
    rcases loopN_succ hf with ⟨s, hb, hl⟩ | hb
    · obtain ⟨v2', v3', L'⟩ := s
      refine k_X9_fillOrders_b13 h0 h1 hb (fun _ _ _ he => ?_) (fun _ he => by cases he)
      cases he
      exact ih v2' v3' L' hl
    · exact k_X9_fillOrders_b13 h0 h1 hb (fun _ _ _ he => by cases he) (fun x0 he => hX x0 (Sum.inr.inj he))
def f_X9_fillOrders (N : Nat) (a0 : Nat) (a1 : Nat) (n1 : Nat) (I : MI) (L : ML) : Option (ML) := bnd1 (f_J7_fill_d0a16 N a1 n1 0 L) fun L1 => if inb 0 n1 then letv (upL L1 a1 (Int32.toNatClampNeg 0) 1) fun L4 => bnd1 (f_X9_fillOrders_l13 N a0 a1 n1 0 0 I L4) fun L15 => some L15 else none
set_option maxRecDepth 100000 in
set_option maxHeartbeats 4000000 in
theorem kb_X9_fillOrders {G : GX} {Q : State → Prop} {X : MX} {a0 : Nat} {a1 : Nat} {n1 : Nat} (h0 : shX9 X a0) (h1 : X.1 a1 = (3, n1)) {N : Nat} {I : MI} {L : ML} {out : ML} (hf : f_X9_fillOrders N a0 a1 n1 I L = some out) (hR : ∀ (L' : ML), out = L' → Q = RetQ G none X I L' (0, 0)) : Ex G mX9_fillOrders rmX9_fillOrders Q (0, 0) X I L 0 [(0, .ref (gB G + a0)), (1, .ref (gB G + a1))] [] := by
  unfold f_X9_fillOrders at hf
  refine ex_aload_n 1 (pc' := 1) dX9_fillOrders_0 rfl rfl rfl ?_
  refine ex_lconst (v := 0) (pc' := 2) dX9_fillOrders_1 lc_0 rfl ?_
  obtain ⟨L1, hq2, hf⟩ := of_bnd1 hf
  refine ex_callS_v (rm' := rmJ7_fill_d0a16) (st := []) (pc' := 5) [.ref (gB G + a1), .long 0] dX9_fillOrders_2 cl_X9_39 (k_J7_fill_d0a16 G h1 hq2) rfl rfl rfl (ROOM_of rfl) (Nat.le_of_ble_eq_true rfl) rfl rfl ?_
  refine ex_aload_n 1 (pc' := 6) dX9_fillOrders_5 rfl rfl rfl ?_
  refine ex_iconst (v := 0) (pc' := 7) dX9_fillOrders_6 ic_0 rfl ?_
  refine ex_lconst (v := 1) (pc' := 8) dX9_fillOrders_7 lc_1 rfl ?_
  obtain ⟨hg3, hf⟩ := of_guard hf
  refine ex_last (pc' := 9) dX9_fillOrders_8 h1 (inb_in hg3) rfl ?_
  obtain ⟨L4, hL4, hf⟩ := of_let hf
  rw [← hL4]
  refine ex_iconst (v := 0) (pc' := 10) dX9_fillOrders_9 ic_0 rfl ?_
  refine ex_istore_n (lv' := [(2, .int 0), (0, .ref (gB G + a0)), (1, .ref (gB G + a1))]) (pc' := 11) dX9_fillOrders_10 rfl (Nat.le_of_ble_eq_true rfl) rfl rfl ?_
  refine ex_iconst (v := 0) (pc' := 12) dX9_fillOrders_11 ic_0 rfl ?_
  refine ex_istore_n (lv' := [(3, .int 0), (2, .int 0), (0, .ref (gB G + a0)), (1, .ref (gB G + a1))]) (pc' := 13) dX9_fillOrders_12 rfl (Nat.le_of_ble_eq_true rfl) rfl rfl ?_
  refine ex_sub (lv' := [(0, .ref (gB G + a0)), (1, .ref (gB G + a1)), (2, .int 0), (3, .int 0)]) [2, 3, 1, 0] rfl ?_
  obtain ⟨L15, hq16, hf⟩ := of_bnd1 hf
  refine k_X9_fillOrders_l13 h0 h1 (fun L15' he => ?_) _ _ _ _ hq16
  cases he
  exact ex_vret dX9_fillOrders_79 rfl (hR _ (Option.some.inj hf).symm)
set_option maxRecDepth 100000 in
set_option maxHeartbeats 4000000 in
theorem k_X9_fillOrders (G : GX) {X : MX} {a0 : Nat} {a1 : Nat} {n1 : Nat} (h0 : shX9 X a0) (h1 : X.1 a1 = (3, n1)) {N : Nat} {I : MI} {L : ML} {L' : ML} (hf : f_X9_fillOrders N a0 a1 n1 I L = some L') : Con G mX9_fillOrders yX9_fillOrders rmX9_fillOrders (fun B => [.ref (B + a0), .ref (B + a1)]) X I L none X I L' :=
  Con.of (by decide) rfl (fun h => by cases h) (fun B => Nat.le_of_ble_eq_true rfl) (fun G => kb_X9_fillOrders h0 h1 hf (fun _ he => by cases he; rfl))
-- X9_turnAbout ('RookWords$Word', 'turnAbout', '()V')
def rmX9_turnAbout : RM := ((0, 0, 0, 0), false, none)
def f_X9_turnAbout_b9 (N : Nat) (a0 : Nat) (v1 : Int32) (v2 : Int32) (I : MI) : Option ((Int32 × Int32 × MI) ⊕ (MI)) := (if v2 < v1 then some (.inr I) else if inb v1 12 then letv (I (a0 + 1) (Int32.toNatClampNeg v1)) fun x3 => if inb v2 12 then if inb v1 12 then letv (upI I (a0 + 1) (Int32.toNatClampNeg v1) (1 - (I (a0 + 1) (Int32.toNatClampNeg v2)))) fun I6 => if inb v2 12 then letv (upI I6 (a0 + 1) (Int32.toNatClampNeg v2) (1 - x3)) fun I8 => some (.inl (v1 + 1, v2 + (-1), I8)) else none else none else none else none)
set_option maxRecDepth 100000 in
set_option maxHeartbeats 4000000 in
theorem k_X9_turnAbout_b9 {G : GX} {Q : State → Prop} {X : MX} {a0 : Nat} (h0 : shX9 X a0) {v1 : Int32} {v2 : Int32} {N : Nat} {I : MI} {L : ML} {out : (Int32 × Int32 × MI) ⊕ (MI)} (hf : f_X9_turnAbout_b9 N a0 v1 v2 I = some out) (hC : ∀ (v1' : Int32) (v2' : Int32) (I' : MI), out = .inl (v1', v2', I') → Ex G mX9_turnAbout rmX9_turnAbout Q (0, 0) X I' L 9 [(0, .ref (gB G + a0)), (1, .int v1'), (2, .int v2')] []) (hX : ∀ (I' : MI), out = .inr I' → Ex G mX9_turnAbout rmX9_turnAbout Q (0, 0) X I' L 53 [] []) : Ex G mX9_turnAbout rmX9_turnAbout Q (0, 0) X I L 9 [(0, .ref (gB G + a0)), (1, .int v1), (2, .int v2)] [] := by
  unfold f_X9_turnAbout_b9 at hf
  refine ex_iload_n 1 (pc' := 10) dX9_turnAbout_9 rfl rfl rfl ?_
  refine ex_iload_n 2 (pc' := 11) dX9_turnAbout_10 rfl rfl rfl ?_
  refine ex_icmpgt (tgt := 53) (pc' := 14) dX9_turnAbout_11 (by decide) rfl (fun hc1 => ?_) (fun hc1 => ?_)
  · replace hf := if_t hc1 hf
    exact ex_sub [] rfl (hX _ (Option.some.inj hf).symm)
  · replace hf := if_f hc1 hf
    refine ex_aload_n 0 (pc' := 15) dX9_turnAbout_14 rfl rfl rfl ?_
    refine ex_getR (pc' := 18) dX9_turnAbout_15 fl_X9_9 rfl (sh9_k h0) (sh9_F0 h0) rfl ?_
    refine ex_iload_n 1 (pc' := 19) dX9_turnAbout_18 rfl rfl rfl ?_
    obtain ⟨hg2, hf⟩ := of_guard hf
    refine ex_iald (pc' := 20) dX9_turnAbout_19 (sh9_T0 h0) (inb_in hg2) rfl ?_
    obtain ⟨x3, hx3, hf⟩ := of_let hf
    rw [← hx3]
    refine ex_istore_n (lv' := [(3, .int x3), (0, .ref (gB G + a0)), (1, .int v1), (2, .int v2)]) (pc' := 21) dX9_turnAbout_20 rfl (Nat.le_of_ble_eq_true rfl) rfl rfl ?_
    refine ex_aload_n 1 (pc' := 22) dX9_turnAbout_21 rfl rfl rfl ?_
    refine ex_getR (pc' := 25) dX9_turnAbout_22 fl_X9_9 rfl (sh9_k h0) (sh9_F0 h0) rfl ?_
    refine ex_iload_n 2 (pc' := 26) dX9_turnAbout_25 rfl rfl rfl ?_
    refine ex_iconst (v := 1) (pc' := 27) dX9_turnAbout_26 ic_1 rfl ?_
    refine ex_aload_n 1 (pc' := 28) dX9_turnAbout_27 rfl rfl rfl ?_
    refine ex_getR (pc' := 31) dX9_turnAbout_28 fl_X9_9 rfl (sh9_k h0) (sh9_F0 h0) rfl ?_
    refine ex_iload_n 3 (pc' := 32) dX9_turnAbout_31 rfl rfl rfl ?_
    obtain ⟨hg4, hf⟩ := of_guard hf
    refine ex_iald (pc' := 33) dX9_turnAbout_32 (sh9_T0 h0) (inb_in hg4) rfl ?_
    refine ex_isub (pc' := 34) dX9_turnAbout_33 rfl ?_
    obtain ⟨hg5, hf⟩ := of_guard hf
    refine ex_iast (pc' := 35) dX9_turnAbout_34 (sh9_T0 h0) (inb_in hg5) rfl ?_
    obtain ⟨I6, hI6, hf⟩ := of_let hf
    rw [← hI6]
    refine ex_aload_n 1 (pc' := 36) dX9_turnAbout_35 rfl rfl rfl ?_
    refine ex_getR (pc' := 39) dX9_turnAbout_36 fl_X9_9 rfl (sh9_k h0) (sh9_F0 h0) rfl ?_
    refine ex_iload_n 3 (pc' := 40) dX9_turnAbout_39 rfl rfl rfl ?_
    refine ex_iconst (v := 1) (pc' := 41) dX9_turnAbout_40 ic_1 rfl ?_
    refine ex_iload_n 0 (pc' := 42) dX9_turnAbout_41 rfl rfl rfl ?_
    refine ex_isub (pc' := 43) dX9_turnAbout_42 rfl ?_
    obtain ⟨hg7, hf⟩ := of_guard hf
    refine ex_iast (pc' := 44) dX9_turnAbout_43 (sh9_T0 h0) (inb_in hg7) rfl ?_
    obtain ⟨I8, hI8, hf⟩ := of_let hf
    rw [← hI8]
    refine ex_iincc (lv' := [(1, .int (v1 + 1)), (3, .int x3), (0, .ref (gB G + a0)), (2, .int v2)]) 2 (pc' := 47) dX9_turnAbout_44 rfl ic_1 (Nat.le_of_ble_eq_true rfl) rfl rfl ?_
    refine ex_iincc (lv' := [(2, .int (v2 + (-1))), (1, .int (v1 + 1)), (3, .int x3), (0, .ref (gB G + a0))]) 3 (pc' := 50) dX9_turnAbout_47 rfl ic_m1 (Nat.le_of_ble_eq_true rfl) rfl rfl ?_
    refine ex_goto (tgt := 9) dX9_turnAbout_50 (by decide) ?_
    exact ex_sub [3, 1, 0] rfl (hC _ _ _ (Option.some.inj hf).symm)
def f_X9_turnAbout_l9 (N : Nat) (a0 : Nat) (v1 : Int32) (v2 : Int32) (I : MI) : Option (MI) := loopN (fun s => f_X9_turnAbout_b9 N a0 s.1 s.2.1 s.2.2) N (v1, v2, I)
set_option maxRecDepth 100000 in
set_option maxHeartbeats 4000000 in
theorem k_X9_turnAbout_l9 {G : GX} {Q : State → Prop} {X : MX} {a0 : Nat} (h0 : shX9 X a0) {N0 : Nat} {L : ML} {out : (MI)} (hX : ∀ (I' : MI), out = I' → Ex G mX9_turnAbout rmX9_turnAbout Q (0, 0) X I' L 53 [] []) : ∀ (N : Nat) (v1 : Int32) (v2 : Int32) (I : MI), loopN (fun s => f_X9_turnAbout_b9 N0 a0 s.1 s.2.1 s.2.2) N (v1, v2, I) = some out → Ex G mX9_turnAbout rmX9_turnAbout Q (0, 0) X I L 9 [(0, .ref (gB G + a0)), (1, .int v1), (2, .int v2)] [] := by
  intro N
  induction N with
  | zero => intro v1 v2 I hf; exact absurd (loopN_zero hf) id
  | succ n ih =>
    intro v1 v2 I hf
    rcases loopN_succ hf with ⟨s, hb, hl⟩ | hb
    · obtain ⟨v1', v2', I'⟩ := s
      refine k_X9_turnAbout_b9 h0 hb (fun _ _ _ he => ?_) (fun _ he => by cases he)
      cases he
      exact ih v1' v2' I' hl
    · exact k_X9_turnAbout_b9 h0 hb (fun _ _ _ he => by cases he) (fun x0 he => hX x0 (Sum.inr.inj he))
def f_X9_turnAbout (N : Nat) (a0 : Nat) (I : MI) : Option (MI) := bnd1 (f_X9_turnAbout_l9 N a0 0 ((I a0 1) - 1) I) fun I9 => some I9
set_option maxRecDepth 100000 in
set_option maxHeartbeats 4000000 in
theorem kb_X9_turnAbout {G : GX} {Q : State → Prop} {X : MX} {a0 : Nat} (h0 : shX9 X a0) {N : Nat} {I : MI} {L : ML} {out : MI} (hf : f_X9_turnAbout N a0 I = some out) (hR : ∀ (I' : MI), out = I' → Q = RetQ G none X I' L (0, 0)) : Ex G mX9_turnAbout rmX9_turnAbout Q (0, 0) X I L 0 [(0, .ref (gB G + a0))] [] := by
  unfold f_X9_turnAbout at hf
  refine ex_iconst (v := 0) (pc' := 1) dX9_turnAbout_0 ic_0 rfl ?_
  refine ex_istore_n (lv' := [(1, .int 0), (0, .ref (gB G + a0))]) (pc' := 2) dX9_turnAbout_1 rfl (Nat.le_of_ble_eq_true rfl) rfl rfl ?_
  refine ex_aload_n 1 (pc' := 3) dX9_turnAbout_2 rfl rfl rfl ?_
  refine ex_getI (pc' := 6) dX9_turnAbout_3 fl_X9_15 rfl (sh9_k h0) rfl ?_
  refine ex_iconst (v := 1) (pc' := 7) dX9_turnAbout_6 ic_1 rfl ?_
  refine ex_isub (pc' := 8) dX9_turnAbout_7 rfl ?_
  refine ex_istore_n (lv' := [(2, .int ((I a0 1) - 1)), (1, .int 0), (0, .ref (gB G + a0))]) (pc' := 9) dX9_turnAbout_8 rfl (Nat.le_of_ble_eq_true rfl) rfl rfl ?_
  refine ex_sub (lv' := [(0, .ref (gB G + a0)), (1, .int 0), (2, .int ((I a0 1) - 1))]) [2, 1, 0] rfl ?_
  obtain ⟨I9, hq10, hf⟩ := of_bnd1 hf
  refine k_X9_turnAbout_l9 h0 (fun I9' he => ?_) _ _ _ _ hq10
  cases he
  exact ex_vret dX9_turnAbout_53 rfl (hR _ (Option.some.inj hf).symm)
set_option maxRecDepth 100000 in
set_option maxHeartbeats 4000000 in
theorem k_X9_turnAbout (G : GX) {X : MX} {a0 : Nat} (h0 : shX9 X a0) {N : Nat} {I : MI} {L : ML} {I' : MI} (hf : f_X9_turnAbout N a0 I = some I') : Con G mX9_turnAbout yX9_turnAbout rmX9_turnAbout (fun B => [.ref (B + a0)]) X I L none X I' L :=
  Con.of (by decide) rfl (fun h => by cases h) (fun B => Nat.le_of_ble_eq_true rfl) (fun G => kb_X9_turnAbout h0 hf (fun _ he => by cases he; rfl))
-- X10_isPiece ('RookWords', 'isPiece', '(I)Z')
def rmX10_isPiece : RM := ((0, 0, 0, 0), false, (some FieldType.boolean))
def f_X10_isPiece (v0 : Int32) : Option (Int32) := (if v0 < 0 then some 0 else (if v0 < 6 then some 1 else some 0))
set_option maxRecDepth 100000 in
set_option maxHeartbeats 4000000 in
theorem kb_X10_isPiece {G : GX} {Q : State → Prop} {X : MX} {v0 : Int32}  {I : MI} {L : ML} {out : Int32} (hf : f_X10_isPiece v0 = some out) (hR : ∀ (z : Int32), out = z → Q = RetQ G (some (.int z)) X I L (0, 0)) : Ex G mX10_isPiece rmX10_isPiece Q (0, 0) X I L 0 [(0, .int v0)] [] := by
  unfold f_X10_isPiece at hf
  refine ex_iload_n 0 (pc' := 1) dX10_isPiece_0 rfl rfl rfl ?_
  refine ex_iflt (tgt := 14) (pc' := 4) dX10_isPiece_1 (by decide) rfl (fun hc1 => ?_) (fun hc1 => ?_)
  · replace hf := if_t hc1 hf
    refine ex_iconst (v := 0) (pc' := 15) dX10_isPiece_14 ic_0 rfl ?_
    exact ex_zret dX10_isPiece_15 rfl (Or.inl rfl) (hR _ (Option.some.inj hf).symm)
  · replace hf := if_f hc1 hf
    refine ex_iload_n 0 (pc' := 5) dX10_isPiece_4 rfl rfl rfl ?_
    refine ex_bipush (v := 6) (pc' := 7) dX10_isPiece_5 bp_6 rfl ?_
    refine ex_icmpge (tgt := 14) (pc' := 10) dX10_isPiece_7 (by decide) rfl (fun hc2 => ?_) (fun hc2 => ?_)
    · replace hf := if_t hc2 hf
      refine ex_iconst (v := 1) (pc' := 11) dX10_isPiece_10 ic_1 rfl ?_
      refine ex_goto (tgt := 15) dX10_isPiece_11 (by decide) ?_
      exact ex_zret dX10_isPiece_15 rfl (Or.inr rfl) (hR _ (Option.some.inj hf).symm)
    · replace hf := if_f hc2 hf
      refine ex_iconst (v := 0) (pc' := 15) dX10_isPiece_14 ic_0 rfl ?_
      exact ex_zret dX10_isPiece_15 rfl (Or.inl rfl) (hR _ (Option.some.inj hf).symm)
set_option maxRecDepth 100000 in
set_option maxHeartbeats 4000000 in
theorem k_X10_isPiece (G : GX) {X : MX} {v0 : Int32}  {I : MI} {L : ML} {z : Int32} (hf : f_X10_isPiece v0 = some z) : Con G mX10_isPiece yX10_isPiece rmX10_isPiece (fun B => [.int v0]) X I L (some (.int z)) X I L :=
  Con.of (by decide) rfl (fun h => by cases h) (fun B => Nat.le_of_ble_eq_true rfl) (fun G => kb_X10_isPiece  hf (fun _ he => by cases he; rfl))
theorem cl_X10_66 : CLS RX10 66 yX10_isPiece mX10_isPiece (some FieldType.boolean) 1 := ⟨⟨lwg_at 309 (by decide +kernel) rfl, lwg_at 310 (by decide +kernel) rfl, lwg_at 50 (by decide +kernel) rfl⟩, lwg_at 311 (by decide +kernel) rfl, ⟨by decide +kernel, by decide +kernel, by decide +kernel⟩⟩
theorem co_X10_101 : Cond.constantLong RX10 101 (-9223372036854775808) ∈ lwg := lwg_at 366 (by decide +kernel) rfl
theorem bp_20 : (Int8.ofInt 20).toInt32 = 20 := by decide
theorem fl_X10_12 : FLD RX10 12 10 0 true := ⟨RX10, TX10, 10, rfl, inX10, by decide, lwg_at 274 (by decide +kernel) rfl, nmX10, tyX10_ok, rfl, rfl⟩
theorem fl_X10_70 : FLD RX10 70 5 0 true := ⟨RX5, TX5, 7, rfl, inX5, by decide, lwg_at 141 (by decide +kernel) rfl, nmX5, tyX5_ok, rfl, rfl⟩
theorem fl_X10_83 : FLD RX10 83 9 1 false := ⟨RX9, TX9, 2, rfl, inX9, by decide, lwg_at 112 (by decide +kernel) rfl, nmX9, tyX9_ok, rfl, rfl⟩
theorem fl_X10_90 : FLD RX10 90 9 0 true := ⟨RX9, TX9, 2, rfl, inX9, by decide, lwg_at 106 (by decide +kernel) rfl, nmX9, tyX9_ok, rfl, rfl⟩
theorem cl_X10_103 : Cond.methodLink RX10 103 Lib.Math.max.name ∈ lwg ∧ Cond.static Lib.Math.max.name ∈ lwg ∧ Cond.initialized "java/lang/Math" ∈ lwg ∧ Cond.code Lib.Math.max.name Lib.Math.max.code 2 (some .int) ∈ lwg := ⟨lwg_at 367 (by decide +kernel) rfl, lwg_at 368 (by decide +kernel) rfl, lwg_at 62 (by decide +kernel) rfl, lwg_at 369 (by decide +kernel) rfl⟩
-- X10_acted ('RookWords', 'acted', '(III)J')
def rmX10_acted : RM := ((1, 21, 0, 0), false, (some FieldType.long))
def f_X10_acted_b56 (N : Nat) (v3 : Int32) (a4 : Nat) (v5 : Int64) (v7 : Int32) (v8 : Int32) (I : MI) : Option ((Int64 × Int32 × Int32) ⊕ (Int64 × Int32)) := (if v8 < 0 then some (.inr (v5, v7)) else if inb v8 12 then (if (I (a4 + 1) (Int32.toNatClampNeg v8)) = 0 then some (.inl (v5, v7 + 1, v8 + (-1))) else letv (if (v7 - 1) < 0 then 0 else (v7 - 1)) fun x13 => some (.inl (v5 * (Int32.toInt64 v7), x13, v8 + (-1)))) else none)
set_option maxRecDepth 100000 in
set_option maxHeartbeats 4000000 in
theorem k_X10_acted_b56 {G : GX} {Q : State → Prop} {X : MX} (hM : shX10 X) {v3 : Int32} {a4 : Nat} (h4 : shX9 X a4) {v5 : Int64} {v7 : Int32} {v8 : Int32} {N : Nat} {I : MI} {L : ML} {out : (Int64 × Int32 × Int32) ⊕ (Int64 × Int32)} (hf : f_X10_acted_b56 N v3 a4 v5 v7 v8 I = some out) (hC : ∀ (v5' : Int64) (v7' : Int32) (v8' : Int32), out = .inl (v5', v7', v8') → Ex G mX10_acted rmX10_acted Q (0, 0) X I L 56 [(3, .int v3), (4, .ref (gB G + a4)), (5, .long v5'), (7, .int v7'), (8, .int v8')] []) (hX : ∀ (w5 : Int64) (w7 : Int32), out = .inr (w5, w7) → Ex G mX10_acted rmX10_acted Q (0, 0) X I L 102 [(3, .int v3), (5, .long w5), (7, .int w7)] []) : Ex G mX10_acted rmX10_acted Q (0, 0) X I L 56 [(3, .int v3), (4, .ref (gB G + a4)), (5, .long v5), (7, .int v7), (8, .int v8)] [] := by
  unfold f_X10_acted_b56 at hf
  refine ex_iload 4 (pc' := 58) dX10_acted_56 rfl rfl ?_
  refine ex_iflt (tgt := 102) (pc' := 61) dX10_acted_58 (by decide) rfl (fun hc10 => ?_) (fun hc10 => ?_)
  · replace hf := if_t hc10 hf
    exact ex_sub [0, 2, 3] rfl (hX _ _ (Option.some.inj hf).symm)
  · replace hf := if_f hc10 hf
    refine ex_aload 1 (pc' := 63) dX10_acted_61 rfl rfl ?_
    refine ex_getR (pc' := 66) dX10_acted_63 fl_X10_90 rfl (sh9_k h4) (sh9_F0 h4) rfl ?_
    refine ex_iload 4 (pc' := 68) dX10_acted_66 rfl rfl ?_
    obtain ⟨hg11, hf⟩ := of_guard hf
    refine ex_iald (pc' := 69) dX10_acted_68 (sh9_T0 h4) (inb_in hg11) rfl ?_
    refine ex_ifne (tgt := 78) (pc' := 72) dX10_acted_69 (by decide) rfl (fun hc12 => ?_) (fun hc12 => ?_)
    · replace hf := if_t hc12 hf
      refine ex_iincc (lv' := [(7, .int (v7 + 1)), (3, .int v3), (4, .ref (gB G + a4)), (5, .long v5), (8, .int v8)]) 3 (pc' := 75) dX10_acted_72 rfl ic_1 (Nat.le_of_ble_eq_true rfl) rfl rfl ?_
      refine ex_goto (tgt := 96) dX10_acted_75 (by decide) ?_
      refine ex_iincc (lv' := [(8, .int (v8 + (-1))), (7, .int (v7 + 1)), (3, .int v3), (4, .ref (gB G + a4)), (5, .long v5)]) 4 (pc' := 99) dX10_acted_96 rfl ic_m1 (Nat.le_of_ble_eq_true rfl) rfl rfl ?_
      refine ex_goto (tgt := 56) dX10_acted_99 (by decide) ?_
      exact ex_sub [2, 3, 4, 1, 0] rfl (hC _ _ _ (Option.some.inj hf).symm)
    · replace hf := if_f hc12 hf
      refine ex_lload 2 (pc' := 80) dX10_acted_78 rfl rfl ?_
      refine ex_iload 3 (pc' := 82) dX10_acted_80 rfl rfl ?_
      refine ex_i2l (pc' := 83) dX10_acted_82 rfl ?_
      refine ex_lmul (pc' := 84) dX10_acted_83 rfl ?_
      refine ex_lstore (lv' := [(5, .long (v5 * (Int32.toInt64 v7))), (3, .int v3), (4, .ref (gB G + a4)), (7, .int v7), (8, .int v8)]) (pc' := 86) dX10_acted_84 (Nat.le_of_ble_eq_true rfl) rfl rfl ?_
      refine ex_iload 3 (pc' := 88) dX10_acted_86 rfl rfl ?_
      refine ex_iconst (v := 1) (pc' := 89) dX10_acted_88 ic_1 rfl ?_
      refine ex_isub (pc' := 90) dX10_acted_89 rfl ?_
      refine ex_iconst (v := 0) (pc' := 91) dX10_acted_90 ic_0 rfl ?_
      refine ex_mmax (pc' := 94) dX10_acted_91 cl_X10_103 ⟨Nat.le_of_ble_eq_true rfl, Nat.le_of_ble_eq_true rfl, Nat.le_of_ble_eq_true rfl, Nat.le_of_ble_eq_true rfl⟩ rfl ?_
      obtain ⟨x13, hx13, hf⟩ := of_let hf
      rw [← hx13]
      refine ex_istore (lv' := [(7, .int x13), (5, .long (v5 * (Int32.toInt64 v7))), (3, .int v3), (4, .ref (gB G + a4)), (8, .int v8)]) (pc' := 96) dX10_acted_94 (Nat.le_of_ble_eq_true rfl) rfl rfl ?_
      refine ex_iincc (lv' := [(8, .int (v8 + (-1))), (7, .int x13), (5, .long (v5 * (Int32.toInt64 v7))), (3, .int v3), (4, .ref (gB G + a4))]) 4 (pc' := 99) dX10_acted_96 rfl ic_m1 (Nat.le_of_ble_eq_true rfl) rfl rfl ?_
      refine ex_goto (tgt := 56) dX10_acted_99 (by decide) ?_
      exact ex_sub [3, 4, 2, 1, 0] rfl (hC _ _ _ (Option.some.inj hf).symm)
def f_X10_acted_l56 (N : Nat) (v3 : Int32) (a4 : Nat) (v5 : Int64) (v7 : Int32) (v8 : Int32) (I : MI) : Option (Int64 × Int32) := loopN (fun s => f_X10_acted_b56 N v3 a4 s.1 s.2.1 s.2.2 I) N (v5, v7, v8)
set_option maxRecDepth 100000 in
set_option maxHeartbeats 4000000 in
theorem k_X10_acted_l56 {G : GX} {Q : State → Prop} {X : MX} (hM : shX10 X) {v3 : Int32} {a4 : Nat} (h4 : shX9 X a4) {N0 : Nat} {I : MI} {L : ML} {out : (Int64 × Int32)} (hX : ∀ (w5 : Int64) (w7 : Int32), out = (w5, w7) → Ex G mX10_acted rmX10_acted Q (0, 0) X I L 102 [(3, .int v3), (5, .long w5), (7, .int w7)] []) : ∀ (N : Nat) (v5 : Int64) (v7 : Int32) (v8 : Int32), loopN (fun s => f_X10_acted_b56 N0 v3 a4 s.1 s.2.1 s.2.2 I) N (v5, v7, v8) = some out → Ex G mX10_acted rmX10_acted Q (0, 0) X I L 56 [(3, .int v3), (4, .ref (gB G + a4)), (5, .long v5), (7, .int v7), (8, .int v8)] [] := by
  intro N
  induction N with
  | zero => intro v5 v7 v8 hf; exact absurd (loopN_zero hf) id
  | succ n ih =>
    intro v5 v7 v8 hf
    rcases loopN_succ hf with ⟨s, hb, hl⟩ | hb
    · obtain ⟨v5', v7', v8'⟩ := s
      refine k_X10_acted_b56 hM h4 hb (fun _ _ _ he => ?_) (fun _ _ he => by cases he)
      cases he
      exact ih v5' v7' v8' hl
    · exact k_X10_acted_b56 hM h4 hb (fun _ _ _ he => by cases he) (fun x0 x1 he => hX x0 x1 (Sum.inr.inj he))
def f_X10_acted (N : Nat) (v1 : Int32) (v2 : Int32) (v3 : Int32) (I : MI) : Option (Int64) := bnd1 (f_X10_isPiece v1) fun r1 => (if r1 = 0 then some (-9223372036854775808) else (if v2 < 0 then some (-9223372036854775808) else (if 20 < v2 then some (-9223372036854775808) else (if v3 < 0 then some (-9223372036854775808) else (if 1 < v3 then some (-9223372036854775808) else if inb v1 6 then letv ((I (10 + 4 * (Int32.toNatClampNeg v1)) 1) - 1) fun x9 => bnd2 (f_X10_acted_l56 N v3 (10 + 4 * (Int32.toNatClampNeg v1)) 1 v2 x9 I) fun x14 x15 => (if v3 = 0 then some x14 else some (Int32.toInt64 x15)) else none)))))
set_option maxRecDepth 100000 in
set_option maxHeartbeats 4000000 in
theorem kb_X10_acted {G : GX} {Q : State → Prop} {X : MX} (hM : shX10 X) {v1 : Int32} {v2 : Int32} {v3 : Int32}  {N : Nat} {I : MI} {L : ML} {out : Int64} (hf : f_X10_acted N v1 v2 v3 I = some out) (hR : ∀ (z : Int64), out = z → Q = RetQ G (some (.long z)) X I L (0, 0)) : Ex G mX10_acted rmX10_acted Q (0, 0) X I L 0 [(0, .ref (gB G + 0)), (1, .int v1), (2, .int v2), (3, .int v3)] [] := by
  unfold f_X10_acted at hf
  refine ex_iload_n 1 (pc' := 1) dX10_acted_0 rfl rfl rfl ?_
  obtain ⟨r1, hq2, hf⟩ := of_bnd1 hf
  refine ex_callS_i (rm' := rmX10_isPiece) (st := []) (pc' := 4) [.int v1] dX10_acted_1 cl_X10_66 (k_X10_isPiece G hq2) rfl rfl rfl (ROOM_of rfl) (Nat.le_of_ble_eq_true rfl) rfl rfl ?_
  refine ex_ifeq (tgt := 26) (pc' := 7) dX10_acted_4 (by decide) rfl (fun hc3 => ?_) (fun hc3 => ?_)
  · replace hf := if_t hc3 hf
    refine ex_ldc2 (v := (-9223372036854775808)) (pc' := 29) dX10_acted_26 co_X10_101 rfl ?_
    exact ex_lret dX10_acted_29 rfl (hR _ (Option.some.inj hf).symm)
  · replace hf := if_f hc3 hf
    refine ex_iload_n 2 (pc' := 8) dX10_acted_7 rfl rfl rfl ?_
    refine ex_iflt (tgt := 26) (pc' := 11) dX10_acted_8 (by decide) rfl (fun hc4 => ?_) (fun hc4 => ?_)
    · replace hf := if_t hc4 hf
      refine ex_ldc2 (v := (-9223372036854775808)) (pc' := 29) dX10_acted_26 co_X10_101 rfl ?_
      exact ex_lret dX10_acted_29 rfl (hR _ (Option.some.inj hf).symm)
    · replace hf := if_f hc4 hf
      refine ex_iload_n 2 (pc' := 12) dX10_acted_11 rfl rfl rfl ?_
      refine ex_bipush (v := 20) (pc' := 14) dX10_acted_12 bp_20 rfl ?_
      refine ex_icmpgt (tgt := 26) (pc' := 17) dX10_acted_14 (by decide) rfl (fun hc5 => ?_) (fun hc5 => ?_)
      · replace hf := if_t hc5 hf
        refine ex_ldc2 (v := (-9223372036854775808)) (pc' := 29) dX10_acted_26 co_X10_101 rfl ?_
        exact ex_lret dX10_acted_29 rfl (hR _ (Option.some.inj hf).symm)
      · replace hf := if_f hc5 hf
        refine ex_iload_n 3 (pc' := 18) dX10_acted_17 rfl rfl rfl ?_
        refine ex_iflt (tgt := 26) (pc' := 21) dX10_acted_18 (by decide) rfl (fun hc6 => ?_) (fun hc6 => ?_)
        · replace hf := if_t hc6 hf
          refine ex_ldc2 (v := (-9223372036854775808)) (pc' := 29) dX10_acted_26 co_X10_101 rfl ?_
          exact ex_lret dX10_acted_29 rfl (hR _ (Option.some.inj hf).symm)
        · replace hf := if_f hc6 hf
          refine ex_iload_n 3 (pc' := 22) dX10_acted_21 rfl rfl rfl ?_
          refine ex_iconst (v := 1) (pc' := 23) dX10_acted_22 ic_1 rfl ?_
          refine ex_icmple (tgt := 30) (pc' := 26) dX10_acted_23 (by decide) rfl (fun hc7 => ?_) (fun hc7 => ?_)
          · replace hf := if_t hc7 hf
            refine ex_ldc2 (v := (-9223372036854775808)) (pc' := 29) dX10_acted_26 co_X10_101 rfl ?_
            exact ex_lret dX10_acted_29 rfl (hR _ (Option.some.inj hf).symm)
          · replace hf := if_f hc7 hf
            refine ex_aload_n 0 (pc' := 31) dX10_acted_30 rfl rfl rfl ?_
            refine ex_getR (pc' := 34) dX10_acted_31 fl_X10_12 rfl (sh10_k hM) (sh10_F0 hM) rfl ?_
            refine ex_getR (pc' := 37) dX10_acted_34 fl_X10_70 rfl (sh5_k (sh10_T0 hM)) (sh5_F0 (sh10_T0 hM)) rfl ?_
            refine ex_iload_n 1 (pc' := 38) dX10_acted_37 rfl rfl rfl ?_
            obtain ⟨hg8, hf⟩ := of_guard hf
            refine ex_aaldS (pc' := 39) dX10_acted_38 (sh5_T0 (sh10_T0 hM)) (by decide) (by decide) (inb_in hg8) (sh5_E0 (sh10_T0 hM) _ (inb_lt hg8)) rfl ?_
            refine ex_astore (lv' := [(4, .ref (gB G + (10 + 4 * (Int32.toNatClampNeg v1)))), (0, .ref (gB G + 0)), (1, .int v1), (2, .int v2), (3, .int v3)]) (pc' := 41) dX10_acted_39 (Nat.le_of_ble_eq_true rfl) rfl rfl ?_
            refine ex_lconst (v := 1) (pc' := 42) dX10_acted_41 lc_1 rfl ?_
            refine ex_lstore (lv' := [(5, .long 1), (4, .ref (gB G + (10 + 4 * (Int32.toNatClampNeg v1)))), (0, .ref (gB G + 0)), (1, .int v1), (2, .int v2), (3, .int v3)]) (pc' := 44) dX10_acted_42 (Nat.le_of_ble_eq_true rfl) rfl rfl ?_
            refine ex_iload_n 4 (pc' := 45) dX10_acted_44 rfl rfl rfl ?_
            refine ex_istore (lv' := [(7, .int v2), (5, .long 1), (4, .ref (gB G + (10 + 4 * (Int32.toNatClampNeg v1)))), (0, .ref (gB G + 0)), (1, .int v1), (2, .int v2), (3, .int v3)]) (pc' := 47) dX10_acted_45 (Nat.le_of_ble_eq_true rfl) rfl rfl ?_
            refine ex_aload 2 (pc' := 49) dX10_acted_47 rfl rfl ?_
            refine ex_getI (pc' := 52) dX10_acted_49 fl_X10_83 rfl (sh9_k (sh5_O0 (sh10_T0 hM) _ (inb_lt hg8))) rfl ?_
            refine ex_iconst (v := 1) (pc' := 53) dX10_acted_52 ic_1 rfl ?_
            refine ex_isub (pc' := 54) dX10_acted_53 rfl ?_
            obtain ⟨x9, hx9, hf⟩ := of_let hf
            rw [← hx9]
            refine ex_istore (lv' := [(8, .int x9), (7, .int v2), (5, .long 1), (4, .ref (gB G + (10 + 4 * (Int32.toNatClampNeg v1)))), (0, .ref (gB G + 0)), (1, .int v1), (2, .int v2), (3, .int v3)]) (pc' := 56) dX10_acted_54 (Nat.le_of_ble_eq_true rfl) rfl rfl ?_
            refine ex_sub (lv' := [(3, .int v3), (4, .ref (gB G + (10 + 4 * (Int32.toNatClampNeg v1)))), (5, .long 1), (7, .int v2), (8, .int x9)]) [7, 3, 2, 1, 0] rfl ?_
            obtain ⟨x14, x15, hq16, hf⟩ := of_bnd2 hf
            refine k_X10_acted_l56 hM (sh5_O0 (sh10_T0 hM) _ (inb_lt hg8)) (fun x14' x15' he => ?_) _ _ _ _ hq16
            cases he
            refine ex_iload_n 0 (pc' := 103) dX10_acted_102 rfl rfl rfl ?_
            refine ex_ifne (tgt := 111) (pc' := 106) dX10_acted_103 (by decide) rfl (fun hc17 => ?_) (fun hc17 => ?_)
            · replace hf := if_t hc17 hf
              refine ex_lload 1 (pc' := 108) dX10_acted_106 rfl rfl ?_
              refine ex_goto (tgt := 114) dX10_acted_108 (by decide) ?_
              exact ex_lret dX10_acted_114 rfl (hR _ (Option.some.inj hf).symm)
            · replace hf := if_f hc17 hf
              refine ex_iload 2 (pc' := 113) dX10_acted_111 rfl rfl ?_
              refine ex_i2l (pc' := 114) dX10_acted_113 rfl ?_
              exact ex_lret dX10_acted_114 rfl (hR _ (Option.some.inj hf).symm)
set_option maxRecDepth 100000 in
set_option maxHeartbeats 4000000 in
theorem k_X10_acted (G : GX) {X : MX} (hM : shX10 X) {v1 : Int32} {v2 : Int32} {v3 : Int32}  {N : Nat} {I : MI} {L : ML} {z : Int64} (hf : f_X10_acted N v1 v2 v3 I = some z) : Con G mX10_acted yX10_acted rmX10_acted (fun B => [.ref (B + 0), .int v1, .int v2, .int v3]) X I L (some (.long z)) X I L :=
  Con.of (by decide) rfl (fun h => by cases h) (fun B => Nat.le_of_ble_eq_true rfl) (fun G => kb_X10_acted hM  hf (fun _ he => by cases he; rfl))
theorem bp_m99 : (Int8.ofInt (-99)).toInt32 = (-99) := by decide
theorem bp_m2 : (Int8.ofInt (-2)).toInt32 = (-2) := by decide
theorem bp_99 : (Int8.ofInt 99).toInt32 = 99 := by decide
theorem fl_X10_62 : FLD RX10 62 10 9 true := ⟨RX10, TX10, 10, rfl, inX10, by decide, lwg_at 283 (by decide +kernel) rfl, nmX10, tyX10_ok, rfl, rfl⟩
theorem cl_X10_109 : CLV RX10 109 yX9_fillOrders mX9_fillOrders none 1 := ⟨⟨lwg_at 374 (by decide +kernel) rfl, lwg_at 375 (by decide +kernel) rfl, lwg_at 376 (by decide +kernel) rfl, lwg_at 53 (by decide +kernel) rfl⟩, lwg_at 377 (by decide +kernel) rfl, ⟨by decide +kernel, by decide +kernel, by decide +kernel⟩⟩
theorem fl_X10_113 : FLD RX10 113 5 1 true := ⟨RX5, TX5, 7, rfl, inX5, by decide, lwg_at 143 (by decide +kernel) rfl, nmX5, tyX5_ok, rfl, rfl⟩
theorem cl_X10_97 : CLV RX10 97 yX9_ups mX9_ups (some FieldType.int) 0 := ⟨⟨lwg_at 358 (by decide +kernel) rfl, lwg_at 359 (by decide +kernel) rfl, lwg_at 360 (by decide +kernel) rfl, lwg_at 53 (by decide +kernel) rfl⟩, lwg_at 361 (by decide +kernel) rfl, ⟨by decide +kernel, by decide +kernel, by decide +kernel⟩⟩
theorem cl_X10_125 : CLV RX10 125 yX9_downs mX9_downs (some FieldType.int) 0 := ⟨⟨lwg_at 398 (by decide +kernel) rfl, lwg_at 399 (by decide +kernel) rfl, lwg_at 400 (by decide +kernel) rfl, lwg_at 53 (by decide +kernel) rfl⟩, lwg_at 401 (by decide +kernel) rfl, ⟨by decide +kernel, by decide +kernel, by decide +kernel⟩⟩
theorem cl_X10_128 : CLV RX10 128 yX6_take mX6_take (some FieldType.boolean) 4 := ⟨⟨lwg_at 403 (by decide +kernel) rfl, lwg_at 404 (by decide +kernel) rfl, lwg_at 405 (by decide +kernel) rfl, lwg_at 52 (by decide +kernel) rfl⟩, lwg_at 406 (by decide +kernel) rfl, ⟨by decide +kernel, by decide +kernel, by decide +kernel⟩⟩
theorem bp_m6 : (Int8.ofInt (-6)).toInt32 = (-6) := by decide
theorem cl_X10_117 : CLV RX10 117 yX6_notZero mX6_notZero (some FieldType.int) 0 := ⟨⟨lwg_at 385 (by decide +kernel) rfl, lwg_at 386 (by decide +kernel) rfl, lwg_at 387 (by decide +kernel) rfl, lwg_at 52 (by decide +kernel) rfl⟩, lwg_at 388 (by decide +kernel) rfl, ⟨by decide +kernel, by decide +kernel, by decide +kernel⟩⟩
-- X10_add ('RookWords', 'add', '(II)I')
def rmX10_add : RM := ((3, 73, 0, 0), false, (some FieldType.int))
def f_X10_add (N : Nat) (v1 : Int32) (v2 : Int32) (I : MI) (L : ML) : Option (Int32 × ML) := bnd1 (f_X10_isPiece v1) fun r1 => (if r1 = 0 then some ((-1), L) else (if v2 < (-99) then some ((-2), L) else (if 99 < v2 then some ((-2), L) else if inb v1 6 then bnd1 (f_X9_fillOrders N (10 + 4 * (Int32.toNatClampNeg v1)) 98 13 I L) fun L7 => bnd1 (f_X9_ups N (10 + 4 * (Int32.toNatClampNeg v1)) I) fun r9 => bnd1 (f_X9_downs N (10 + 4 * (Int32.toNatClampNeg v1)) I) fun r11 => bnd2 (f_X6_take N 3 98 13 r9 r11 v2 L7) fun r13 L14 => (if r13 = 0 then some ((-6), L14) else bnd1 (f_X6_notZero N 3 L14) fun r17 => some (r17, L14)) else none)))
set_option maxRecDepth 100000 in
set_option maxHeartbeats 4000000 in
theorem kb_X10_add {G : GX} {Q : State → Prop} {X : MX} (hM : shX10 X) {v1 : Int32} {v2 : Int32}  {N : Nat} {I : MI} {L : ML} {out : Int32 × ML} (hf : f_X10_add N v1 v2 I L = some out) (hR : ∀ (z : Int32) (L' : ML), out = (z, L') → Q = RetQ G (some (.int z)) X I L' (0, 0)) : Ex G mX10_add rmX10_add Q (0, 0) X I L 0 [(0, .ref (gB G + 0)), (1, .int v1), (2, .int v2)] [] := by
  unfold f_X10_add at hf
  refine ex_iload_n 1 (pc' := 1) dX10_add_0 rfl rfl rfl ?_
  obtain ⟨r1, hq2, hf⟩ := of_bnd1 hf
  refine ex_callS_i (rm' := rmX10_isPiece) (st := []) (pc' := 4) [.int v1] dX10_add_1 cl_X10_66 (k_X10_isPiece G hq2) rfl rfl rfl (ROOM_of rfl) (Nat.le_of_ble_eq_true rfl) rfl rfl ?_
  refine ex_ifne (tgt := 9) (pc' := 7) dX10_add_4 (by decide) rfl (fun hc3 => ?_) (fun hc3 => ?_)
  · replace hf := if_t hc3 hf
    refine ex_iconst (v := (-1)) (pc' := 8) dX10_add_7 ic_m1 rfl ?_
    exact ex_iret dX10_add_8 rfl (hR _ _ (Option.some.inj hf).symm)
  · replace hf := if_f hc3 hf
    refine ex_iload_n 2 (pc' := 10) dX10_add_9 rfl rfl rfl ?_
    refine ex_bipush (v := (-99)) (pc' := 12) dX10_add_10 bp_m99 rfl ?_
    refine ex_icmplt (tgt := 21) (pc' := 15) dX10_add_12 (by decide) rfl (fun hc4 => ?_) (fun hc4 => ?_)
    · replace hf := if_t hc4 hf
      refine ex_bipush (v := (-2)) (pc' := 23) dX10_add_21 bp_m2 rfl ?_
      exact ex_iret dX10_add_23 rfl (hR _ _ (Option.some.inj hf).symm)
    · replace hf := if_f hc4 hf
      refine ex_iload_n 2 (pc' := 16) dX10_add_15 rfl rfl rfl ?_
      refine ex_bipush (v := 99) (pc' := 18) dX10_add_16 bp_99 rfl ?_
      refine ex_icmple (tgt := 24) (pc' := 21) dX10_add_18 (by decide) rfl (fun hc5 => ?_) (fun hc5 => ?_)
      · replace hf := if_t hc5 hf
        refine ex_bipush (v := (-2)) (pc' := 23) dX10_add_21 bp_m2 rfl ?_
        exact ex_iret dX10_add_23 rfl (hR _ _ (Option.some.inj hf).symm)
      · replace hf := if_f hc5 hf
        refine ex_aload_n 0 (pc' := 25) dX10_add_24 rfl rfl rfl ?_
        refine ex_getR (pc' := 28) dX10_add_25 fl_X10_12 rfl (sh10_k hM) (sh10_F0 hM) rfl ?_
        refine ex_getR (pc' := 31) dX10_add_28 fl_X10_70 rfl (sh5_k (sh10_T0 hM)) (sh5_F0 (sh10_T0 hM)) rfl ?_
        refine ex_iload_n 1 (pc' := 32) dX10_add_31 rfl rfl rfl ?_
        obtain ⟨hg6, hf⟩ := of_guard hf
        refine ex_aaldS (pc' := 33) dX10_add_32 (sh5_T0 (sh10_T0 hM)) (by decide) (by decide) (inb_in hg6) (sh5_E0 (sh10_T0 hM) _ (inb_lt hg6)) rfl ?_
        refine ex_astore_n (lv' := [(3, .ref (gB G + (10 + 4 * (Int32.toNatClampNeg v1)))), (0, .ref (gB G + 0)), (1, .int v1), (2, .int v2)]) (pc' := 34) dX10_add_33 rfl (Nat.le_of_ble_eq_true rfl) rfl rfl ?_
        refine ex_aload_n 0 (pc' := 35) dX10_add_34 rfl rfl rfl ?_
        refine ex_aload_n 1 (pc' := 36) dX10_add_35 rfl rfl rfl ?_
        refine ex_getR (pc' := 39) dX10_add_36 fl_X10_62 rfl (sh10_k hM) (sh10_F9 hM) rfl ?_
        obtain ⟨L7, hq8, hf⟩ := of_bnd1 hf
        refine ex_callV_v (rm' := rmX9_fillOrders) (st := []) (pc' := 42) [.ref (gB G + 98)] dX10_add_39 cl_X10_109 (k_X9_fillOrders G (sh5_O0 (sh10_T0 hM) _ (inb_lt hg6)) (sh10_T9 hM) hq8) rfl (sh9_k (sh5_O0 (sh10_T0 hM) _ (inb_lt hg6))) ⟨_, _, rfl⟩ rfl rfl (ROOM_of rfl) (Nat.le_of_ble_eq_true rfl) rfl rfl ?_
        refine ex_aload_n 1 (pc' := 43) dX10_add_42 rfl rfl rfl ?_
        refine ex_getR (pc' := 46) dX10_add_43 fl_X10_12 rfl (sh10_k hM) (sh10_F0 hM) rfl ?_
        refine ex_getR (pc' := 49) dX10_add_46 fl_X10_113 rfl (sh5_k (sh10_T0 hM)) (sh5_F1 (sh10_T0 hM)) rfl ?_
        refine ex_aload_n 1 (pc' := 50) dX10_add_49 rfl rfl rfl ?_
        refine ex_getR (pc' := 53) dX10_add_50 fl_X10_62 rfl (sh10_k hM) (sh10_F9 hM) rfl ?_
        refine ex_aload_n 0 (pc' := 54) dX10_add_53 rfl rfl rfl ?_
        obtain ⟨r9, hq10, hf⟩ := of_bnd1 hf
        refine ex_callV_i (rm' := rmX9_ups) (st := [.ref (gB G + 98), .ref (gB G + 3)]) (pc' := 57) [] dX10_add_54 cl_X10_97 (k_X9_ups G (sh5_O0 (sh10_T0 hM) _ (inb_lt hg6)) hq10) rfl (sh9_k (sh5_O0 (sh10_T0 hM) _ (inb_lt hg6))) ⟨_, _, rfl⟩ rfl rfl (ROOM_of rfl) (Nat.le_of_ble_eq_true rfl) rfl rfl ?_
        refine ex_aload_n 0 (pc' := 58) dX10_add_57 rfl rfl rfl ?_
        obtain ⟨r11, hq12, hf⟩ := of_bnd1 hf
        refine ex_callV_i (rm' := rmX9_downs) (st := [.int r9, .ref (gB G + 98), .ref (gB G + 3)]) (pc' := 61) [] dX10_add_58 cl_X10_125 (k_X9_downs G (sh5_O0 (sh10_T0 hM) _ (inb_lt hg6)) hq12) rfl (sh9_k (sh5_O0 (sh10_T0 hM) _ (inb_lt hg6))) ⟨_, _, rfl⟩ rfl rfl (ROOM_of rfl) (Nat.le_of_ble_eq_true rfl) rfl rfl ?_
        refine ex_iload_n 3 (pc' := 62) dX10_add_61 rfl rfl rfl ?_
        obtain ⟨r13, L14, hq15, hf⟩ := of_bnd2 hf
        refine ex_callV_i (rm' := rmX6_take) (st := []) (pc' := 65) [.ref (gB G + 98), .int r9, .int r11, .int v2] dX10_add_62 cl_X10_128 (k_X6_take G (sh5_T1 (sh10_T0 hM)) (sh10_T9 hM) hq15) rfl (sh6_k (sh5_T1 (sh10_T0 hM))) ⟨_, _, rfl⟩ rfl rfl (ROOM_of rfl) (Nat.le_of_ble_eq_true rfl) rfl rfl ?_
        refine ex_ifne (tgt := 71) (pc' := 68) dX10_add_65 (by decide) rfl (fun hc16 => ?_) (fun hc16 => ?_)
        · replace hf := if_t hc16 hf
          refine ex_bipush (v := (-6)) (pc' := 70) dX10_add_68 bp_m6 rfl ?_
          exact ex_iret dX10_add_70 rfl (hR _ _ (Option.some.inj hf).symm)
        · replace hf := if_f hc16 hf
          refine ex_aload_n 1 (pc' := 72) dX10_add_71 rfl rfl rfl ?_
          refine ex_getR (pc' := 75) dX10_add_72 fl_X10_12 rfl (sh10_k hM) (sh10_F0 hM) rfl ?_
          refine ex_getR (pc' := 78) dX10_add_75 fl_X10_113 rfl (sh5_k (sh10_T0 hM)) (sh5_F1 (sh10_T0 hM)) rfl ?_
          obtain ⟨r17, hq18, hf⟩ := of_bnd1 hf
          refine ex_callV_i (rm' := rmX6_notZero) (st := []) (pc' := 81) [] dX10_add_78 cl_X10_117 (k_X6_notZero G (sh5_T1 (sh10_T0 hM)) hq18) rfl (sh6_k (sh5_T1 (sh10_T0 hM))) ⟨_, _, rfl⟩ rfl rfl (ROOM_of rfl) (Nat.le_of_ble_eq_true rfl) rfl rfl ?_
          exact ex_iret dX10_add_81 rfl (hR _ _ (Option.some.inj hf).symm)
set_option maxRecDepth 100000 in
set_option maxHeartbeats 4000000 in
theorem k_X10_add (G : GX) {X : MX} (hM : shX10 X) {v1 : Int32} {v2 : Int32}  {N : Nat} {I : MI} {L : ML} {z : Int32} {L' : ML} (hf : f_X10_add N v1 v2 I L = some (z, L')) : Con G mX10_add yX10_add rmX10_add (fun B => [.ref (B + 0), .int v1, .int v2]) X I L (some (.int z)) X I L' :=
  Con.of (by decide) rfl (fun h => by cases h) (fun B => Nat.le_of_ble_eq_true rfl) (fun G => kb_X10_add hM  hf (fun _ _ he => by cases he; rfl))
-- X10_areHeights ('RookWords', 'areHeights', '(II)Z')
def rmX10_areHeights : RM := ((0, 0, 0, 0), false, (some FieldType.boolean))
def f_X10_areHeights_b15 (N : Nat)  (v2 : Int32) (v3 : Int32) (v4 : Int32) : Option ((Int32 × Int32 × Int32) ⊕ ((Int32) ⊕ (Int32))) := (if v4 < 0 then some (.inr (.inl v2)) else (if v3 < (jrem v2 10) then some (.inr (.inr 0)) else some (.inl (v2 / 10, jrem v2 10, v4 + (-1)))))
set_option maxRecDepth 100000 in
set_option maxHeartbeats 4000000 in
theorem k_X10_areHeights_b15 {G : GX} {Q : State → Prop} {X : MX}   {v2 : Int32} {v3 : Int32} {v4 : Int32} {N : Nat} {I : MI} {L : ML} {out : (Int32 × Int32 × Int32) ⊕ ((Int32) ⊕ (Int32))} (hf : f_X10_areHeights_b15 N v2 v3 v4 = some out) (hC : ∀ (v2' : Int32) (v3' : Int32) (v4' : Int32), out = .inl (v2', v3', v4') → Ex G mX10_areHeights rmX10_areHeights Q (0, 0) X I L 15 [(2, .int v2'), (3, .int v3'), (4, .int v4')] []) (hX : ∀ (w2 : Int32), out = .inr (.inl w2) → Ex G mX10_areHeights rmX10_areHeights Q (0, 0) X I L 48 [(2, .int w2)] []) (hR : ∀ (z : Int32), out = .inr (.inr z) → Q = RetQ G (some (.int z)) X I L (0, 0)) : Ex G mX10_areHeights rmX10_areHeights Q (0, 0) X I L 15 [(2, .int v2), (3, .int v3), (4, .int v4)] [] := by
  unfold f_X10_areHeights_b15 at hf
  refine ex_iload 2 (pc' := 17) dX10_areHeights_15 rfl rfl ?_
  refine ex_iflt (tgt := 48) (pc' := 20) dX10_areHeights_17 (by decide) rfl (fun hc2 => ?_) (fun hc2 => ?_)
  · replace hf := if_t hc2 hf
    exact ex_sub [0] rfl (hX _ (Option.some.inj hf).symm)
  · replace hf := if_f hc2 hf
    refine ex_iload_n 0 (pc' := 21) dX10_areHeights_20 rfl rfl rfl ?_
    refine ex_bipush (v := 10) (pc' := 23) dX10_areHeights_21 bp_10 rfl ?_
    refine ex_irem (pc' := 24) dX10_areHeights_23 (by decide) rfl ?_
    refine ex_istore (lv' := [(5, .int (jrem v2 10)), (2, .int v2), (3, .int v3), (4, .int v4)]) (pc' := 26) dX10_areHeights_24 (Nat.le_of_ble_eq_true rfl) rfl rfl ?_
    refine ex_iload 0 (pc' := 28) dX10_areHeights_26 rfl rfl ?_
    refine ex_iload_n 2 (pc' := 29) dX10_areHeights_28 rfl rfl rfl ?_
    refine ex_icmple (tgt := 34) (pc' := 32) dX10_areHeights_29 (by decide) rfl (fun hc3 => ?_) (fun hc3 => ?_)
    · replace hf := if_t hc3 hf
      refine ex_iconst (v := 0) (pc' := 33) dX10_areHeights_32 ic_0 rfl ?_
      exact ex_zret dX10_areHeights_33 rfl (Or.inl rfl) (hR _ (Option.some.inj hf).symm)
    · replace hf := if_f hc3 hf
      refine ex_iload 0 (pc' := 36) dX10_areHeights_34 rfl rfl ?_
      refine ex_istore_n (lv' := [(3, .int (jrem v2 10)), (5, .int (jrem v2 10)), (2, .int v2), (4, .int v4)]) (pc' := 37) dX10_areHeights_36 rfl (Nat.le_of_ble_eq_true rfl) rfl rfl ?_
      refine ex_iload_n 2 (pc' := 38) dX10_areHeights_37 rfl rfl rfl ?_
      refine ex_bipush (v := 10) (pc' := 40) dX10_areHeights_38 bp_10 rfl ?_
      refine ex_idiv (pc' := 41) dX10_areHeights_40 (by decide) rfl ?_
      refine ex_istore_n (lv' := [(2, .int (v2 / 10)), (3, .int (jrem v2 10)), (5, .int (jrem v2 10)), (4, .int v4)]) (pc' := 42) dX10_areHeights_41 rfl (Nat.le_of_ble_eq_true rfl) rfl rfl ?_
      refine ex_iincc (lv' := [(4, .int (v4 + (-1))), (2, .int (v2 / 10)), (3, .int (jrem v2 10)), (5, .int (jrem v2 10))]) 3 (pc' := 45) dX10_areHeights_42 rfl ic_m1 (Nat.le_of_ble_eq_true rfl) rfl rfl ?_
      refine ex_goto (tgt := 15) dX10_areHeights_45 (by decide) ?_
      exact ex_sub [1, 2, 0] rfl (hC _ _ _ (Option.some.inj hf).symm)
def f_X10_areHeights_l15 (N : Nat)  (v2 : Int32) (v3 : Int32) (v4 : Int32) : Option ((Int32) ⊕ (Int32)) := loopN (fun s => f_X10_areHeights_b15 N s.1 s.2.1 s.2.2) N (v2, v3, v4)
set_option maxRecDepth 100000 in
set_option maxHeartbeats 4000000 in
theorem k_X10_areHeights_l15 {G : GX} {Q : State → Prop} {X : MX}   {N0 : Nat} {I : MI} {L : ML} {out : ((Int32) ⊕ (Int32))} (hX : ∀ (w2 : Int32), out = .inl w2 → Ex G mX10_areHeights rmX10_areHeights Q (0, 0) X I L 48 [(2, .int w2)] []) (hR : ∀ (z : Int32), out = .inr z → Q = RetQ G (some (.int z)) X I L (0, 0)) : ∀ (N : Nat) (v2 : Int32) (v3 : Int32) (v4 : Int32), loopN (fun s => f_X10_areHeights_b15 N0 s.1 s.2.1 s.2.2) N (v2, v3, v4) = some out → Ex G mX10_areHeights rmX10_areHeights Q (0, 0) X I L 15 [(2, .int v2), (3, .int v3), (4, .int v4)] [] := by
  intro N
  induction N with
  | zero => intro v2 v3 v4 hf; exact absurd (loopN_zero hf) id
  | succ n ih =>
    intro v2 v3 v4 hf
    rcases loopN_succ hf with ⟨s, hb, hl⟩ | hb
    · obtain ⟨v2', v3', v4'⟩ := s
      refine k_X10_areHeights_b15  hb (fun _ _ _ he => ?_) (fun _ he => by cases he) (fun _ he => by cases he)
      cases he
      exact ih v2' v3' v4' hl
    · exact k_X10_areHeights_b15  hb (fun _ _ _ he => by cases he) (fun x0 he => hX x0 (Sum.inr.inj he)) (fun z0 he => hR z0 (Sum.inr.inj he))
def f_X10_areHeights (N : Nat) (v0 : Int32) (v1 : Int32) : Option (Int32) := (if v1 < 0 then some 0 else bns1 (f_X10_areHeights_l15 N v1 v0 (v0 - 1)) (fun x4 => (if x4 = 0 then some 1 else some 0)) (fun q7 => some q7))
set_option maxRecDepth 100000 in
set_option maxHeartbeats 4000000 in
theorem kb_X10_areHeights {G : GX} {Q : State → Prop} {X : MX} {v0 : Int32} {v1 : Int32}  {N : Nat} {I : MI} {L : ML} {out : Int32} (hf : f_X10_areHeights N v0 v1 = some out) (hR : ∀ (z : Int32), out = z → Q = RetQ G (some (.int z)) X I L (0, 0)) : Ex G mX10_areHeights rmX10_areHeights Q (0, 0) X I L 0 [(0, .int v0), (1, .int v1)] [] := by
  unfold f_X10_areHeights at hf
  refine ex_iload_n 1 (pc' := 1) dX10_areHeights_0 rfl rfl rfl ?_
  refine ex_ifge (tgt := 6) (pc' := 4) dX10_areHeights_1 (by decide) rfl (fun hc1 => ?_) (fun hc1 => ?_)
  · replace hf := if_t hc1 hf
    refine ex_iconst (v := 0) (pc' := 5) dX10_areHeights_4 ic_0 rfl ?_
    exact ex_zret dX10_areHeights_5 rfl (Or.inl rfl) (hR _ (Option.some.inj hf).symm)
  · replace hf := if_f hc1 hf
    refine ex_iload_n 1 (pc' := 7) dX10_areHeights_6 rfl rfl rfl ?_
    refine ex_istore_n (lv' := [(2, .int v1), (0, .int v0), (1, .int v1)]) (pc' := 8) dX10_areHeights_7 rfl (Nat.le_of_ble_eq_true rfl) rfl rfl ?_
    refine ex_iload_n 1 (pc' := 9) dX10_areHeights_8 rfl rfl rfl ?_
    refine ex_istore_n (lv' := [(3, .int v0), (2, .int v1), (0, .int v0), (1, .int v1)]) (pc' := 10) dX10_areHeights_9 rfl (Nat.le_of_ble_eq_true rfl) rfl rfl ?_
    refine ex_iload_n 2 (pc' := 11) dX10_areHeights_10 rfl rfl rfl ?_
    refine ex_iconst (v := 1) (pc' := 12) dX10_areHeights_11 ic_1 rfl ?_
    refine ex_isub (pc' := 13) dX10_areHeights_12 rfl ?_
    refine ex_istore (lv' := [(4, .int (v0 - 1)), (3, .int v0), (2, .int v1), (0, .int v0), (1, .int v1)]) (pc' := 15) dX10_areHeights_13 (Nat.le_of_ble_eq_true rfl) rfl rfl ?_
    refine ex_sub (lv' := [(2, .int v1), (3, .int v0), (4, .int (v0 - 1))]) [2, 1, 0] rfl ?_
    rcases of_bns1 hf with ⟨x4, hq5, hf⟩ | ⟨q7, hq5, hf⟩
    · refine k_X10_areHeights_l15 (fun x4' he => ?_) (fun _ he => by cases he) _ _ _ _ hq5
      cases he
      refine ex_iload_n 0 (pc' := 49) dX10_areHeights_48 rfl rfl rfl ?_
      refine ex_ifne (tgt := 56) (pc' := 52) dX10_areHeights_49 (by decide) rfl (fun hc6 => ?_) (fun hc6 => ?_)
      · replace hf := if_t hc6 hf
        refine ex_iconst (v := 1) (pc' := 53) dX10_areHeights_52 ic_1 rfl ?_
        refine ex_goto (tgt := 57) dX10_areHeights_53 (by decide) ?_
        exact ex_zret dX10_areHeights_57 rfl (Or.inr rfl) (hR _ (Option.some.inj hf).symm)
      · replace hf := if_f hc6 hf
        refine ex_iconst (v := 0) (pc' := 57) dX10_areHeights_56 ic_0 rfl ?_
        exact ex_zret dX10_areHeights_57 rfl (Or.inl rfl) (hR _ (Option.some.inj hf).symm)
    · refine k_X10_areHeights_l15 (fun _ he => by cases he) (fun z0 he => ?_) _ _ _ _ hq5
      refine hR _ ?_
      rw [← Option.some.inj hf]
      cases he
      rfl
set_option maxRecDepth 100000 in
set_option maxHeartbeats 4000000 in
theorem k_X10_areHeights (G : GX) {X : MX} {v0 : Int32} {v1 : Int32}  {N : Nat} {I : MI} {L : ML} {z : Int32} (hf : f_X10_areHeights N v0 v1 = some z) : Con G mX10_areHeights yX10_areHeights rmX10_areHeights (fun B => [.int v0, .int v1]) X I L (some (.int z)) X I L :=
  Con.of (by decide) rfl (fun h => by cases h) (fun B => Nat.le_of_ble_eq_true rfl) (fun G => kb_X10_areHeights  hf (fun _ he => by cases he; rfl))
theorem bp_m3 : (Int8.ofInt (-3)).toInt32 = (-3) := by decide
theorem fl_X10_143 : FLD RX10 143 5 2 true := ⟨RX5, TX5, 7, rfl, inX5, by decide, lwg_at 146 (by decide +kernel) rfl, nmX5, tyX5_ok, rfl, rfl⟩
theorem cl_X10_173 : CLV RX10 173 yX0_becomeWord mX0_becomeWord none 1 := ⟨⟨lwg_at 501 (by decide +kernel) rfl, lwg_at 502 (by decide +kernel) rfl, lwg_at 503 (by decide +kernel) rfl, lwg_at 54 (by decide +kernel) rfl⟩, lwg_at 504 (by decide +kernel) rfl, ⟨by decide +kernel, by decide +kernel, by decide +kernel⟩⟩
theorem fl_X10_24 : FLD RX10 24 10 3 true := ⟨RX10, TX10, 10, rfl, inX10, by decide, lwg_at 277 (by decide +kernel) rfl, nmX10, tyX10_ok, rfl, rfl⟩
theorem cl_X10_156 : CLV RX10 156 yX1_forget mX1_forget none 0 := ⟨⟨lwg_at 462 (by decide +kernel) rfl, lwg_at 463 (by decide +kernel) rfl, lwg_at 464 (by decide +kernel) rfl, lwg_at 56 (by decide +kernel) rfl⟩, lwg_at 465 (by decide +kernel) rfl, ⟨by decide +kernel, by decide +kernel, by decide +kernel⟩⟩
theorem cl_X10_170 : CLV RX10 170 yX0_cells mX0_cells (some FieldType.int) 0 := ⟨⟨lwg_at 487 (by decide +kernel) rfl, lwg_at 488 (by decide +kernel) rfl, lwg_at 489 (by decide +kernel) rfl, lwg_at 54 (by decide +kernel) rfl⟩, lwg_at 490 (by decide +kernel) rfl, ⟨by decide +kernel, by decide +kernel, by decide +kernel⟩⟩
-- X10_board ('RookWords', 'board', '(II)I')
def rmX10_board : RM := ((3, 69, 0, 0), false, (some FieldType.int))
def f_X10_board (N : Nat) (v1 : Int32) (v2 : Int32) (I : MI) : Option (Int32 × MI) := bnd1 (f_X10_isPiece v1) fun r1 => (if r1 = 0 then some ((-1), I) else bnd1 (f_X10_isPiece v2) fun r4 => (if r4 = 0 then some ((-1), I) else if inb v2 6 then bnd1 (f_X9_ups N (10 + 4 * (Int32.toNatClampNeg v2)) I) fun r8 => (if 6 < r8 then some ((-3), I) else bnd1 (f_X9_downs N (10 + 4 * (Int32.toNatClampNeg v2)) I) fun r11 => (if 6 < r11 then some ((-3), I) else if inb v1 6 then bnd1 (f_X0_becomeWord N (12 + 4 * (Int32.toNatClampNeg v1)) (10 + 4 * (Int32.toNatClampNeg v2)) I) fun I15 => bnd1 (f_X1_forget I15) fun I17 => bnd1 (f_X0_cells N (12 + 4 * (Int32.toNatClampNeg v1)) I17) fun r19 => some (r19, I17) else none)) else none))
set_option maxRecDepth 100000 in
set_option maxHeartbeats 4000000 in
theorem kb_X10_board {G : GX} {Q : State → Prop} {X : MX} (hM : shX10 X) {v1 : Int32} {v2 : Int32}  {N : Nat} {I : MI} {L : ML} {out : Int32 × MI} (hf : f_X10_board N v1 v2 I = some out) (hR : ∀ (z : Int32) (I' : MI), out = (z, I') → Q = RetQ G (some (.int z)) X I' L (0, 0)) : Ex G mX10_board rmX10_board Q (0, 0) X I L 0 [(0, .ref (gB G + 0)), (1, .int v1), (2, .int v2)] [] := by
  unfold f_X10_board at hf
  refine ex_iload_n 1 (pc' := 1) dX10_board_0 rfl rfl rfl ?_
  obtain ⟨r1, hq2, hf⟩ := of_bnd1 hf
  refine ex_callS_i (rm' := rmX10_isPiece) (st := []) (pc' := 4) [.int v1] dX10_board_1 cl_X10_66 (k_X10_isPiece G hq2) rfl rfl rfl (ROOM_of rfl) (Nat.le_of_ble_eq_true rfl) rfl rfl ?_
  refine ex_ifeq (tgt := 14) (pc' := 7) dX10_board_4 (by decide) rfl (fun hc3 => ?_) (fun hc3 => ?_)
  · replace hf := if_t hc3 hf
    refine ex_iconst (v := (-1)) (pc' := 15) dX10_board_14 ic_m1 rfl ?_
    exact ex_iret dX10_board_15 rfl (hR _ _ (Option.some.inj hf).symm)
  · replace hf := if_f hc3 hf
    refine ex_iload_n 2 (pc' := 8) dX10_board_7 rfl rfl rfl ?_
    obtain ⟨r4, hq5, hf⟩ := of_bnd1 hf
    refine ex_callS_i (rm' := rmX10_isPiece) (st := []) (pc' := 11) [.int v2] dX10_board_8 cl_X10_66 (k_X10_isPiece G hq5) rfl rfl rfl (ROOM_of rfl) (Nat.le_of_ble_eq_true rfl) rfl rfl ?_
    refine ex_ifne (tgt := 16) (pc' := 14) dX10_board_11 (by decide) rfl (fun hc6 => ?_) (fun hc6 => ?_)
    · replace hf := if_t hc6 hf
      refine ex_iconst (v := (-1)) (pc' := 15) dX10_board_14 ic_m1 rfl ?_
      exact ex_iret dX10_board_15 rfl (hR _ _ (Option.some.inj hf).symm)
    · replace hf := if_f hc6 hf
      refine ex_aload_n 0 (pc' := 17) dX10_board_16 rfl rfl rfl ?_
      refine ex_getR (pc' := 20) dX10_board_17 fl_X10_12 rfl (sh10_k hM) (sh10_F0 hM) rfl ?_
      refine ex_getR (pc' := 23) dX10_board_20 fl_X10_70 rfl (sh5_k (sh10_T0 hM)) (sh5_F0 (sh10_T0 hM)) rfl ?_
      refine ex_iload_n 2 (pc' := 24) dX10_board_23 rfl rfl rfl ?_
      obtain ⟨hg7, hf⟩ := of_guard hf
      refine ex_aaldS (pc' := 25) dX10_board_24 (sh5_T0 (sh10_T0 hM)) (by decide) (by decide) (inb_in hg7) (sh5_E0 (sh10_T0 hM) _ (inb_lt hg7)) rfl ?_
      refine ex_astore_n (lv' := [(3, .ref (gB G + (10 + 4 * (Int32.toNatClampNeg v2)))), (0, .ref (gB G + 0)), (1, .int v1), (2, .int v2)]) (pc' := 26) dX10_board_25 rfl (Nat.le_of_ble_eq_true rfl) rfl rfl ?_
      refine ex_aload_n 0 (pc' := 27) dX10_board_26 rfl rfl rfl ?_
      obtain ⟨r8, hq9, hf⟩ := of_bnd1 hf
      refine ex_callV_i (rm' := rmX9_ups) (st := []) (pc' := 30) [] dX10_board_27 cl_X10_97 (k_X9_ups G (sh5_O0 (sh10_T0 hM) _ (inb_lt hg7)) hq9) rfl (sh9_k (sh5_O0 (sh10_T0 hM) _ (inb_lt hg7))) ⟨_, _, rfl⟩ rfl rfl (ROOM_of rfl) (Nat.le_of_ble_eq_true rfl) rfl rfl ?_
      refine ex_bipush (v := 6) (pc' := 32) dX10_board_30 bp_6 rfl ?_
      refine ex_icmpgt (tgt := 44) (pc' := 35) dX10_board_32 (by decide) rfl (fun hc10 => ?_) (fun hc10 => ?_)
      · replace hf := if_t hc10 hf
        refine ex_bipush (v := (-3)) (pc' := 46) dX10_board_44 bp_m3 rfl ?_
        exact ex_iret dX10_board_46 rfl (hR _ _ (Option.some.inj hf).symm)
      · replace hf := if_f hc10 hf
        refine ex_aload_n 0 (pc' := 36) dX10_board_35 rfl rfl rfl ?_
        obtain ⟨r11, hq12, hf⟩ := of_bnd1 hf
        refine ex_callV_i (rm' := rmX9_downs) (st := []) (pc' := 39) [] dX10_board_36 cl_X10_125 (k_X9_downs G (sh5_O0 (sh10_T0 hM) _ (inb_lt hg7)) hq12) rfl (sh9_k (sh5_O0 (sh10_T0 hM) _ (inb_lt hg7))) ⟨_, _, rfl⟩ rfl rfl (ROOM_of rfl) (Nat.le_of_ble_eq_true rfl) rfl rfl ?_
        refine ex_bipush (v := 6) (pc' := 41) dX10_board_39 bp_6 rfl ?_
        refine ex_icmple (tgt := 47) (pc' := 44) dX10_board_41 (by decide) rfl (fun hc13 => ?_) (fun hc13 => ?_)
        · replace hf := if_t hc13 hf
          refine ex_bipush (v := (-3)) (pc' := 46) dX10_board_44 bp_m3 rfl ?_
          exact ex_iret dX10_board_46 rfl (hR _ _ (Option.some.inj hf).symm)
        · replace hf := if_f hc13 hf
          refine ex_aload_n 1 (pc' := 48) dX10_board_47 rfl rfl rfl ?_
          refine ex_getR (pc' := 51) dX10_board_48 fl_X10_12 rfl (sh10_k hM) (sh10_F0 hM) rfl ?_
          refine ex_getR (pc' := 54) dX10_board_51 fl_X10_143 rfl (sh5_k (sh10_T0 hM)) (sh5_F2 (sh10_T0 hM)) rfl ?_
          refine ex_iload_n 2 (pc' := 55) dX10_board_54 rfl rfl rfl ?_
          obtain ⟨hg14, hf⟩ := of_guard hf
          refine ex_aaldS (pc' := 56) dX10_board_55 (sh5_T2 (sh10_T0 hM)) (by decide) (by decide) (inb_in hg14) (sh5_E2 (sh10_T0 hM) _ (inb_lt hg14)) rfl ?_
          refine ex_astore (lv' := [(4, .ref (gB G + (12 + 4 * (Int32.toNatClampNeg v1)))), (3, .ref (gB G + (10 + 4 * (Int32.toNatClampNeg v2)))), (0, .ref (gB G + 0)), (1, .int v1), (2, .int v2)]) (pc' := 58) dX10_board_56 (Nat.le_of_ble_eq_true rfl) rfl rfl ?_
          refine ex_aload 0 (pc' := 60) dX10_board_58 rfl rfl ?_
          refine ex_aload_n 1 (pc' := 61) dX10_board_60 rfl rfl rfl ?_
          obtain ⟨I15, hq16, hf⟩ := of_bnd1 hf
          refine ex_callV_v (rm' := rmX0_becomeWord) (st := []) (pc' := 64) [.ref (gB G + (10 + 4 * (Int32.toNatClampNeg v2)))] dX10_board_61 cl_X10_173 (k_X0_becomeWord G (sh5_O2 (sh10_T0 hM) _ (inb_lt hg14)) (sh5_O0 (sh10_T0 hM) _ (inb_lt hg7)) hq16) rfl (sh0_k (sh5_O2 (sh10_T0 hM) _ (inb_lt hg14))) ⟨_, _, rfl⟩ rfl rfl (ROOM_of rfl) (Nat.le_of_ble_eq_true rfl) rfl rfl ?_
          refine ex_aload_n 2 (pc' := 65) dX10_board_64 rfl rfl rfl ?_
          refine ex_getR (pc' := 68) dX10_board_65 fl_X10_24 rfl (sh10_k hM) (sh10_F3 hM) rfl ?_
          obtain ⟨I17, hq18, hf⟩ := of_bnd1 hf
          refine ex_callV_v (rm' := rmX1_forget) (st := []) (pc' := 71) [] dX10_board_68 cl_X10_156 (k_X1_forget G hM hq18) rfl (sh1_k (sh10_T3 hM)) ⟨_, _, rfl⟩ rfl rfl (ROOM_of rfl) (Nat.le_of_ble_eq_true rfl) rfl rfl ?_
          refine ex_aload 0 (pc' := 73) dX10_board_71 rfl rfl ?_
          obtain ⟨r19, hq20, hf⟩ := of_bnd1 hf
          refine ex_callV_i (rm' := rmX0_cells) (st := []) (pc' := 76) [] dX10_board_73 cl_X10_170 (k_X0_cells G (sh5_O2 (sh10_T0 hM) _ (inb_lt hg14)) hq20) rfl (sh0_k (sh5_O2 (sh10_T0 hM) _ (inb_lt hg14))) ⟨_, _, rfl⟩ rfl rfl (ROOM_of rfl) (Nat.le_of_ble_eq_true rfl) rfl rfl ?_
          exact ex_iret dX10_board_76 rfl (hR _ _ (Option.some.inj hf).symm)
set_option maxRecDepth 100000 in
set_option maxHeartbeats 4000000 in
theorem k_X10_board (G : GX) {X : MX} (hM : shX10 X) {v1 : Int32} {v2 : Int32}  {N : Nat} {I : MI} {L : ML} {z : Int32} {I' : MI} (hf : f_X10_board N v1 v2 I = some (z, I')) : Con G mX10_board yX10_board rmX10_board (fun B => [.ref (B + 0), .int v1, .int v2]) X I L (some (.int z)) X I' L :=
  Con.of (by decide) rfl (fun h => by cases h) (fun B => Nat.le_of_ble_eq_true rfl) (fun G => kb_X10_board hM  hf (fun _ _ he => by cases he; rfl))
theorem cl_X10_195 : CLV RX10 195 yX0_isSteps mX0_isSteps (some FieldType.boolean) 0 := ⟨⟨lwg_at 560 (by decide +kernel) rfl, lwg_at 561 (by decide +kernel) rfl, lwg_at 562 (by decide +kernel) rfl, lwg_at 54 (by decide +kernel) rfl⟩, lwg_at 563 (by decide +kernel) rfl, ⟨by decide +kernel, by decide +kernel, by decide +kernel⟩⟩
theorem fl_X10_147 : FLD RX10 147 0 0 false := ⟨RX0, TX0, 2, rfl, inX0, by decide, lwg_at 128 (by decide +kernel) rfl, nmX0, tyX0_ok, rfl, rfl⟩
theorem cl_X10_222 : CLV RX10 222 yX0_height mX0_height (some FieldType.int) 1 := ⟨⟨lwg_at 676 (by decide +kernel) rfl, lwg_at 565 (by decide +kernel) rfl, lwg_at 566 (by decide +kernel) rfl, lwg_at 54 (by decide +kernel) rfl⟩, lwg_at 567 (by decide +kernel) rfl, ⟨by decide +kernel, by decide +kernel, by decide +kernel⟩⟩
-- X10_bySteps ('RookWords', 'bySteps', '(II)J')
def rmX10_bySteps : RM := ((3, 64, 0, 0), false, (some FieldType.long))
def f_X10_bySteps_b52 (N : Nat) (v2 : Int32) (a3 : Nat) (v4 : Int64) (v6 : Int32) (I : MI) : Option ((Int64 × Int32) ⊕ (Int64)) := (if v6 < (I a3 0) then bnd1 (f_X0_height a3 v6 I) fun r12 => letv (v4 * (Int32.toInt64 ((v2 + r12) - v6))) fun x14 => some (.inl (x14, v6 + 1)) else some (.inr v4))
set_option maxRecDepth 100000 in
set_option maxHeartbeats 4000000 in
theorem k_X10_bySteps_b52 {G : GX} {Q : State → Prop} {X : MX} (hM : shX10 X) {v2 : Int32} {a3 : Nat} (h3 : shX0 X a3) {v4 : Int64} {v6 : Int32} {N : Nat} {I : MI} {L : ML} {out : (Int64 × Int32) ⊕ (Int64)} (hf : f_X10_bySteps_b52 N v2 a3 v4 v6 I = some out) (hC : ∀ (v4' : Int64) (v6' : Int32), out = .inl (v4', v6') → Ex G mX10_bySteps rmX10_bySteps Q (0, 0) X I L 52 [(2, .int v2), (3, .ref (gB G + a3)), (4, .long v4'), (6, .int v6')] []) (hX : ∀ (w4 : Int64), out = .inr w4 → Ex G mX10_bySteps rmX10_bySteps Q (0, 0) X I L 84 [(4, .long w4)] []) : Ex G mX10_bySteps rmX10_bySteps Q (0, 0) X I L 52 [(2, .int v2), (3, .ref (gB G + a3)), (4, .long v4), (6, .int v6)] [] := by
  unfold f_X10_bySteps_b52 at hf
  refine ex_iload 3 (pc' := 54) dX10_bySteps_52 rfl rfl ?_
  refine ex_aload_n 1 (pc' := 55) dX10_bySteps_54 rfl rfl rfl ?_
  refine ex_getI (pc' := 58) dX10_bySteps_55 fl_X10_147 rfl (sh0_k h3) rfl ?_
  refine ex_icmpge (tgt := 84) (pc' := 61) dX10_bySteps_58 (by decide) rfl (fun hc11 => ?_) (fun hc11 => ?_)
  · replace hf := if_t hc11 hf
    refine ex_lload 2 (pc' := 63) dX10_bySteps_61 rfl rfl ?_
    refine ex_iload_n 0 (pc' := 64) dX10_bySteps_63 rfl rfl rfl ?_
    refine ex_aload_n 1 (pc' := 65) dX10_bySteps_64 rfl rfl rfl ?_
    refine ex_iload 3 (pc' := 67) dX10_bySteps_65 rfl rfl ?_
    obtain ⟨r12, hq13, hf⟩ := of_bnd1 hf
    refine ex_callV_i (rm' := rmX0_height) (st := [.int v2, .long v4]) (pc' := 70) [.int v6] dX10_bySteps_67 cl_X10_222 (k_X0_height G h3 hq13) rfl (sh0_k h3) ⟨_, _, rfl⟩ rfl rfl (ROOM_of rfl) (Nat.le_of_ble_eq_true rfl) rfl rfl ?_
    refine ex_iadd (pc' := 71) dX10_bySteps_70 rfl ?_
    refine ex_iload 3 (pc' := 73) dX10_bySteps_71 rfl rfl ?_
    refine ex_isub (pc' := 74) dX10_bySteps_73 rfl ?_
    refine ex_i2l (pc' := 75) dX10_bySteps_74 rfl ?_
    refine ex_lmul (pc' := 76) dX10_bySteps_75 rfl ?_
    obtain ⟨x14, hx14, hf⟩ := of_let hf
    rw [← hx14]
    refine ex_lstore (lv' := [(4, .long x14), (2, .int v2), (3, .ref (gB G + a3)), (6, .int v6)]) (pc' := 78) dX10_bySteps_76 (Nat.le_of_ble_eq_true rfl) rfl rfl ?_
    refine ex_iincc (lv' := [(6, .int (v6 + 1)), (4, .long x14), (2, .int v2), (3, .ref (gB G + a3))]) 3 (pc' := 81) dX10_bySteps_78 rfl ic_1 (Nat.le_of_ble_eq_true rfl) rfl rfl ?_
    refine ex_goto (tgt := 52) dX10_bySteps_81 (by decide) ?_
    exact ex_sub [2, 3, 1, 0] rfl (hC _ _ (Option.some.inj hf).symm)
  · replace hf := if_f hc11 hf
    exact ex_sub [2] rfl (hX _ (Option.some.inj hf).symm)
def f_X10_bySteps_l52 (N : Nat) (v2 : Int32) (a3 : Nat) (v4 : Int64) (v6 : Int32) (I : MI) : Option (Int64) := loopN (fun s => f_X10_bySteps_b52 N v2 a3 s.1 s.2 I) N (v4, v6)
set_option maxRecDepth 100000 in
set_option maxHeartbeats 4000000 in
theorem k_X10_bySteps_l52 {G : GX} {Q : State → Prop} {X : MX} (hM : shX10 X) {v2 : Int32} {a3 : Nat} (h3 : shX0 X a3) {N0 : Nat} {I : MI} {L : ML} {out : (Int64)} (hX : ∀ (w4 : Int64), out = w4 → Ex G mX10_bySteps rmX10_bySteps Q (0, 0) X I L 84 [(4, .long w4)] []) : ∀ (N : Nat) (v4 : Int64) (v6 : Int32), loopN (fun s => f_X10_bySteps_b52 N0 v2 a3 s.1 s.2 I) N (v4, v6) = some out → Ex G mX10_bySteps rmX10_bySteps Q (0, 0) X I L 52 [(2, .int v2), (3, .ref (gB G + a3)), (4, .long v4), (6, .int v6)] [] := by
  intro N
  induction N with
  | zero => intro v4 v6 hf; exact absurd (loopN_zero hf) id
  | succ n ih =>
    intro v4 v6 hf
    rcases loopN_succ hf with ⟨s, hb, hl⟩ | hb
    · obtain ⟨v4', v6'⟩ := s
      refine k_X10_bySteps_b52 hM h3 hb (fun _ _ he => ?_) (fun _ he => by cases he)
      cases he
      exact ih v4' v6' hl
    · exact k_X10_bySteps_b52 hM h3 hb (fun _ _ he => by cases he) (fun x0 he => hX x0 (Sum.inr.inj he))
def f_X10_bySteps (N : Nat) (v1 : Int32) (v2 : Int32) (I : MI) : Option (Int64) := bnd1 (f_X10_isPiece v1) fun r1 => (if r1 = 0 then some (-9223372036854775808) else (if v2 < 0 then some (-9223372036854775808) else (if 20 < v2 then some (-9223372036854775808) else if inb v1 6 then bnd1 (f_X0_isSteps N (12 + 4 * (Int32.toNatClampNeg v1)) I) fun r7 => (if r7 = 0 then some (-9223372036854775808) else if inb v1 6 then bnd1 (f_X10_bySteps_l52 N v2 (12 + 4 * (Int32.toNatClampNeg v1)) 1 0 I) fun x15 => some x15 else none) else none)))
set_option maxRecDepth 100000 in
set_option maxHeartbeats 4000000 in
theorem kb_X10_bySteps {G : GX} {Q : State → Prop} {X : MX} (hM : shX10 X) {v1 : Int32} {v2 : Int32}  {N : Nat} {I : MI} {L : ML} {out : Int64} (hf : f_X10_bySteps N v1 v2 I = some out) (hR : ∀ (z : Int64), out = z → Q = RetQ G (some (.long z)) X I L (0, 0)) : Ex G mX10_bySteps rmX10_bySteps Q (0, 0) X I L 0 [(0, .ref (gB G + 0)), (1, .int v1), (2, .int v2)] [] := by
  unfold f_X10_bySteps at hf
  refine ex_iload_n 1 (pc' := 1) dX10_bySteps_0 rfl rfl rfl ?_
  obtain ⟨r1, hq2, hf⟩ := of_bnd1 hf
  refine ex_callS_i (rm' := rmX10_isPiece) (st := []) (pc' := 4) [.int v1] dX10_bySteps_1 cl_X10_66 (k_X10_isPiece G hq2) rfl rfl rfl (ROOM_of rfl) (Nat.le_of_ble_eq_true rfl) rfl rfl ?_
  refine ex_ifeq (tgt := 32) (pc' := 7) dX10_bySteps_4 (by decide) rfl (fun hc3 => ?_) (fun hc3 => ?_)
  · replace hf := if_t hc3 hf
    refine ex_ldc2 (v := (-9223372036854775808)) (pc' := 35) dX10_bySteps_32 co_X10_101 rfl ?_
    exact ex_lret dX10_bySteps_35 rfl (hR _ (Option.some.inj hf).symm)
  · replace hf := if_f hc3 hf
    refine ex_iload_n 2 (pc' := 8) dX10_bySteps_7 rfl rfl rfl ?_
    refine ex_iflt (tgt := 32) (pc' := 11) dX10_bySteps_8 (by decide) rfl (fun hc4 => ?_) (fun hc4 => ?_)
    · replace hf := if_t hc4 hf
      refine ex_ldc2 (v := (-9223372036854775808)) (pc' := 35) dX10_bySteps_32 co_X10_101 rfl ?_
      exact ex_lret dX10_bySteps_35 rfl (hR _ (Option.some.inj hf).symm)
    · replace hf := if_f hc4 hf
      refine ex_iload_n 2 (pc' := 12) dX10_bySteps_11 rfl rfl rfl ?_
      refine ex_bipush (v := 20) (pc' := 14) dX10_bySteps_12 bp_20 rfl ?_
      refine ex_icmpgt (tgt := 32) (pc' := 17) dX10_bySteps_14 (by decide) rfl (fun hc5 => ?_) (fun hc5 => ?_)
      · replace hf := if_t hc5 hf
        refine ex_ldc2 (v := (-9223372036854775808)) (pc' := 35) dX10_bySteps_32 co_X10_101 rfl ?_
        exact ex_lret dX10_bySteps_35 rfl (hR _ (Option.some.inj hf).symm)
      · replace hf := if_f hc5 hf
        refine ex_aload_n 0 (pc' := 18) dX10_bySteps_17 rfl rfl rfl ?_
        refine ex_getR (pc' := 21) dX10_bySteps_18 fl_X10_12 rfl (sh10_k hM) (sh10_F0 hM) rfl ?_
        refine ex_getR (pc' := 24) dX10_bySteps_21 fl_X10_143 rfl (sh5_k (sh10_T0 hM)) (sh5_F2 (sh10_T0 hM)) rfl ?_
        refine ex_iload_n 1 (pc' := 25) dX10_bySteps_24 rfl rfl rfl ?_
        obtain ⟨hg6, hf⟩ := of_guard hf
        refine ex_aaldS (pc' := 26) dX10_bySteps_25 (sh5_T2 (sh10_T0 hM)) (by decide) (by decide) (inb_in hg6) (sh5_E2 (sh10_T0 hM) _ (inb_lt hg6)) rfl ?_
        obtain ⟨r7, hq8, hf⟩ := of_bnd1 hf
        refine ex_callV_i (rm' := rmX0_isSteps) (st := []) (pc' := 29) [] dX10_bySteps_26 cl_X10_195 (k_X0_isSteps G (sh5_O2 (sh10_T0 hM) _ (inb_lt hg6)) hq8) rfl (sh0_k (sh5_O2 (sh10_T0 hM) _ (inb_lt hg6))) ⟨_, _, rfl⟩ rfl rfl (ROOM_of rfl) (Nat.le_of_ble_eq_true rfl) rfl rfl ?_
        refine ex_ifne (tgt := 36) (pc' := 32) dX10_bySteps_29 (by decide) rfl (fun hc9 => ?_) (fun hc9 => ?_)
        · replace hf := if_t hc9 hf
          refine ex_ldc2 (v := (-9223372036854775808)) (pc' := 35) dX10_bySteps_32 co_X10_101 rfl ?_
          exact ex_lret dX10_bySteps_35 rfl (hR _ (Option.some.inj hf).symm)
        · replace hf := if_f hc9 hf
          refine ex_aload_n 0 (pc' := 37) dX10_bySteps_36 rfl rfl rfl ?_
          refine ex_getR (pc' := 40) dX10_bySteps_37 fl_X10_12 rfl (sh10_k hM) (sh10_F0 hM) rfl ?_
          refine ex_getR (pc' := 43) dX10_bySteps_40 fl_X10_143 rfl (sh5_k (sh10_T0 hM)) (sh5_F2 (sh10_T0 hM)) rfl ?_
          refine ex_iload_n 1 (pc' := 44) dX10_bySteps_43 rfl rfl rfl ?_
          obtain ⟨hg10, hf⟩ := of_guard hf
          refine ex_aaldS (pc' := 45) dX10_bySteps_44 (sh5_T2 (sh10_T0 hM)) (by decide) (by decide) (inb_in hg10) (sh5_E2 (sh10_T0 hM) _ (inb_lt hg10)) rfl ?_
          refine ex_astore_n (lv' := [(3, .ref (gB G + (12 + 4 * (Int32.toNatClampNeg v1)))), (0, .ref (gB G + 0)), (1, .int v1), (2, .int v2)]) (pc' := 46) dX10_bySteps_45 rfl (Nat.le_of_ble_eq_true rfl) rfl rfl ?_
          refine ex_lconst (v := 1) (pc' := 47) dX10_bySteps_46 lc_1 rfl ?_
          refine ex_lstore (lv' := [(4, .long 1), (3, .ref (gB G + (12 + 4 * (Int32.toNatClampNeg v1)))), (0, .ref (gB G + 0)), (1, .int v1), (2, .int v2)]) (pc' := 49) dX10_bySteps_47 (Nat.le_of_ble_eq_true rfl) rfl rfl ?_
          refine ex_iconst (v := 0) (pc' := 50) dX10_bySteps_49 ic_0 rfl ?_
          refine ex_istore (lv' := [(6, .int 0), (4, .long 1), (3, .ref (gB G + (12 + 4 * (Int32.toNatClampNeg v1)))), (0, .ref (gB G + 0)), (1, .int v1), (2, .int v2)]) (pc' := 52) dX10_bySteps_50 (Nat.le_of_ble_eq_true rfl) rfl rfl ?_
          refine ex_sub (lv' := [(2, .int v2), (3, .ref (gB G + (12 + 4 * (Int32.toNatClampNeg v1)))), (4, .long 1), (6, .int 0)]) [5, 2, 1, 0] rfl ?_
          obtain ⟨x15, hq16, hf⟩ := of_bnd1 hf
          refine k_X10_bySteps_l52 hM (sh5_O2 (sh10_T0 hM) _ (inb_lt hg10)) (fun x15' he => ?_) _ _ _ hq16
          cases he
          refine ex_lload 0 (pc' := 86) dX10_bySteps_84 rfl rfl ?_
          exact ex_lret dX10_bySteps_86 rfl (hR _ (Option.some.inj hf).symm)
set_option maxRecDepth 100000 in
set_option maxHeartbeats 4000000 in
theorem k_X10_bySteps (G : GX) {X : MX} (hM : shX10 X) {v1 : Int32} {v2 : Int32}  {N : Nat} {I : MI} {L : ML} {z : Int64} (hf : f_X10_bySteps N v1 v2 I = some z) : Con G mX10_bySteps yX10_bySteps rmX10_bySteps (fun B => [.ref (B + 0), .int v1, .int v2]) X I L (some (.long z)) X I L :=
  Con.of (by decide) rfl (fun h => by cases h) (fun B => Nat.le_of_ble_eq_true rfl) (fun G => kb_X10_bySteps hM  hf (fun _ he => by cases he; rfl))
theorem cl_X10_159 : CLV RX10 159 yX0_isPlace mX0_isPlace (some FieldType.boolean) 2 := ⟨⟨lwg_at 470 (by decide +kernel) rfl, lwg_at 471 (by decide +kernel) rfl, lwg_at 472 (by decide +kernel) rfl, lwg_at 54 (by decide +kernel) rfl⟩, lwg_at 473 (by decide +kernel) rfl, ⟨by decide +kernel, by decide +kernel, by decide +kernel⟩⟩
theorem cl_X10_163 : CLV RX10 163 yX0_toggle mX0_toggle none 2 := ⟨⟨lwg_at 474 (by decide +kernel) rfl, lwg_at 475 (by decide +kernel) rfl, lwg_at 476 (by decide +kernel) rfl, lwg_at 54 (by decide +kernel) rfl⟩, lwg_at 477 (by decide +kernel) rfl, ⟨by decide +kernel, by decide +kernel, by decide +kernel⟩⟩
theorem cl_X10_166 : CLV RX10 166 yX1_keep mX1_keep none 4 := ⟨⟨lwg_at 478 (by decide +kernel) rfl, lwg_at 479 (by decide +kernel) rfl, lwg_at 480 (by decide +kernel) rfl, lwg_at 56 (by decide +kernel) rfl⟩, lwg_at 481 (by decide +kernel) rfl, ⟨by decide +kernel, by decide +kernel, by decide +kernel⟩⟩
-- X10_cell ('RookWords', 'cell', '(III)I')
def rmX10_cell : RM := ((3, 70, 0, 0), false, (some FieldType.int))
def f_X10_cell (N : Nat) (v1 : Int32) (v2 : Int32) (v3 : Int32) (I : MI) : Option (Int32 × MI) := bnd1 (f_X10_isPiece v1) fun r1 => (if r1 = 0 then some ((-1), I) else if inb v1 6 then bnd1 (f_X0_isPlace (12 + 4 * (Int32.toNatClampNeg v1)) v2 v3 I) fun r5 => (if r5 = 0 then some ((-1), I) else if inb v1 6 then bnd1 (f_X0_toggle (12 + 4 * (Int32.toNatClampNeg v1)) v2 v3 I) fun I9 => bnd1 (f_X1_keep v1 v2 v3 0 I9) fun I11 => bnd1 (f_X0_cells N (12 + 4 * (Int32.toNatClampNeg v1)) I11) fun r13 => some (r13, I11) else none) else none)
set_option maxRecDepth 100000 in
set_option maxHeartbeats 4000000 in
theorem kb_X10_cell {G : GX} {Q : State → Prop} {X : MX} (hM : shX10 X) {v1 : Int32} {v2 : Int32} {v3 : Int32}  {N : Nat} {I : MI} {L : ML} {out : Int32 × MI} (hf : f_X10_cell N v1 v2 v3 I = some out) (hR : ∀ (z : Int32) (I' : MI), out = (z, I') → Q = RetQ G (some (.int z)) X I' L (0, 0)) : Ex G mX10_cell rmX10_cell Q (0, 0) X I L 0 [(0, .ref (gB G + 0)), (1, .int v1), (2, .int v2), (3, .int v3)] [] := by
  unfold f_X10_cell at hf
  refine ex_iload_n 1 (pc' := 1) dX10_cell_0 rfl rfl rfl ?_
  obtain ⟨r1, hq2, hf⟩ := of_bnd1 hf
  refine ex_callS_i (rm' := rmX10_isPiece) (st := []) (pc' := 4) [.int v1] dX10_cell_1 cl_X10_66 (k_X10_isPiece G hq2) rfl rfl rfl (ROOM_of rfl) (Nat.le_of_ble_eq_true rfl) rfl rfl ?_
  refine ex_ifeq (tgt := 24) (pc' := 7) dX10_cell_4 (by decide) rfl (fun hc3 => ?_) (fun hc3 => ?_)
  · replace hf := if_t hc3 hf
    refine ex_iconst (v := (-1)) (pc' := 25) dX10_cell_24 ic_m1 rfl ?_
    exact ex_iret dX10_cell_25 rfl (hR _ _ (Option.some.inj hf).symm)
  · replace hf := if_f hc3 hf
    refine ex_aload_n 0 (pc' := 8) dX10_cell_7 rfl rfl rfl ?_
    refine ex_getR (pc' := 11) dX10_cell_8 fl_X10_12 rfl (sh10_k hM) (sh10_F0 hM) rfl ?_
    refine ex_getR (pc' := 14) dX10_cell_11 fl_X10_143 rfl (sh5_k (sh10_T0 hM)) (sh5_F2 (sh10_T0 hM)) rfl ?_
    refine ex_iload_n 1 (pc' := 15) dX10_cell_14 rfl rfl rfl ?_
    obtain ⟨hg4, hf⟩ := of_guard hf
    refine ex_aaldS (pc' := 16) dX10_cell_15 (sh5_T2 (sh10_T0 hM)) (by decide) (by decide) (inb_in hg4) (sh5_E2 (sh10_T0 hM) _ (inb_lt hg4)) rfl ?_
    refine ex_iload_n 2 (pc' := 17) dX10_cell_16 rfl rfl rfl ?_
    refine ex_iload_n 3 (pc' := 18) dX10_cell_17 rfl rfl rfl ?_
    obtain ⟨r5, hq6, hf⟩ := of_bnd1 hf
    refine ex_callV_i (rm' := rmX0_isPlace) (st := []) (pc' := 21) [.int v2, .int v3] dX10_cell_18 cl_X10_159 (k_X0_isPlace G (sh5_O2 (sh10_T0 hM) _ (inb_lt hg4)) hq6) rfl (sh0_k (sh5_O2 (sh10_T0 hM) _ (inb_lt hg4))) ⟨_, _, rfl⟩ rfl rfl (ROOM_of rfl) (Nat.le_of_ble_eq_true rfl) rfl rfl ?_
    refine ex_ifne (tgt := 26) (pc' := 24) dX10_cell_21 (by decide) rfl (fun hc7 => ?_) (fun hc7 => ?_)
    · replace hf := if_t hc7 hf
      refine ex_iconst (v := (-1)) (pc' := 25) dX10_cell_24 ic_m1 rfl ?_
      exact ex_iret dX10_cell_25 rfl (hR _ _ (Option.some.inj hf).symm)
    · replace hf := if_f hc7 hf
      refine ex_aload_n 0 (pc' := 27) dX10_cell_26 rfl rfl rfl ?_
      refine ex_getR (pc' := 30) dX10_cell_27 fl_X10_12 rfl (sh10_k hM) (sh10_F0 hM) rfl ?_
      refine ex_getR (pc' := 33) dX10_cell_30 fl_X10_143 rfl (sh5_k (sh10_T0 hM)) (sh5_F2 (sh10_T0 hM)) rfl ?_
      refine ex_iload_n 1 (pc' := 34) dX10_cell_33 rfl rfl rfl ?_
      obtain ⟨hg8, hf⟩ := of_guard hf
      refine ex_aaldS (pc' := 35) dX10_cell_34 (sh5_T2 (sh10_T0 hM)) (by decide) (by decide) (inb_in hg8) (sh5_E2 (sh10_T0 hM) _ (inb_lt hg8)) rfl ?_
      refine ex_astore (lv' := [(4, .ref (gB G + (12 + 4 * (Int32.toNatClampNeg v1)))), (0, .ref (gB G + 0)), (1, .int v1), (2, .int v2), (3, .int v3)]) (pc' := 37) dX10_cell_35 (Nat.le_of_ble_eq_true rfl) rfl rfl ?_
      refine ex_aload 0 (pc' := 39) dX10_cell_37 rfl rfl ?_
      refine ex_iload_n 3 (pc' := 40) dX10_cell_39 rfl rfl rfl ?_
      refine ex_iload_n 4 (pc' := 41) dX10_cell_40 rfl rfl rfl ?_
      obtain ⟨I9, hq10, hf⟩ := of_bnd1 hf
      refine ex_callV_v (rm' := rmX0_toggle) (st := []) (pc' := 44) [.int v2, .int v3] dX10_cell_41 cl_X10_163 (k_X0_toggle G (sh5_O2 (sh10_T0 hM) _ (inb_lt hg8)) hq10) rfl (sh0_k (sh5_O2 (sh10_T0 hM) _ (inb_lt hg8))) ⟨_, _, rfl⟩ rfl rfl (ROOM_of rfl) (Nat.le_of_ble_eq_true rfl) rfl rfl ?_
      refine ex_aload_n 1 (pc' := 45) dX10_cell_44 rfl rfl rfl ?_
      refine ex_getR (pc' := 48) dX10_cell_45 fl_X10_24 rfl (sh10_k hM) (sh10_F3 hM) rfl ?_
      refine ex_iload_n 2 (pc' := 49) dX10_cell_48 rfl rfl rfl ?_
      refine ex_iload_n 3 (pc' := 50) dX10_cell_49 rfl rfl rfl ?_
      refine ex_iload_n 4 (pc' := 51) dX10_cell_50 rfl rfl rfl ?_
      refine ex_iconst (v := 0) (pc' := 52) dX10_cell_51 ic_0 rfl ?_
      obtain ⟨I11, hq12, hf⟩ := of_bnd1 hf
      refine ex_callV_v (rm' := rmX1_keep) (st := []) (pc' := 55) [.int v1, .int v2, .int v3, .int 0] dX10_cell_52 cl_X10_166 (k_X1_keep G hM hq12) rfl (sh1_k (sh10_T3 hM)) ⟨_, _, rfl⟩ rfl rfl (ROOM_of rfl) (Nat.le_of_ble_eq_true rfl) rfl rfl ?_
      refine ex_aload 0 (pc' := 57) dX10_cell_55 rfl rfl ?_
      obtain ⟨r13, hq14, hf⟩ := of_bnd1 hf
      refine ex_callV_i (rm' := rmX0_cells) (st := []) (pc' := 60) [] dX10_cell_57 cl_X10_170 (k_X0_cells G (sh5_O2 (sh10_T0 hM) _ (inb_lt hg8)) hq14) rfl (sh0_k (sh5_O2 (sh10_T0 hM) _ (inb_lt hg8))) ⟨_, _, rfl⟩ rfl rfl (ROOM_of rfl) (Nat.le_of_ble_eq_true rfl) rfl rfl ?_
      exact ex_iret dX10_cell_60 rfl (hR _ _ (Option.some.inj hf).symm)
set_option maxRecDepth 100000 in
set_option maxHeartbeats 4000000 in
theorem k_X10_cell (G : GX) {X : MX} (hM : shX10 X) {v1 : Int32} {v2 : Int32} {v3 : Int32}  {N : Nat} {I : MI} {L : ML} {z : Int32} {I' : MI} (hf : f_X10_cell N v1 v2 v3 I = some (z, I')) : Con G mX10_cell yX10_cell rmX10_cell (fun B => [.ref (B + 0), .int v1, .int v2, .int v3]) X I L (some (.int z)) X I' L :=
  Con.of (by decide) rfl (fun h => by cases h) (fun B => Nat.le_of_ble_eq_true rfl) (fun G => kb_X10_cell hM  hf (fun _ _ he => by cases he; rfl))
