-- X4_bitNumbered ('RookWords$Rooks', 'bitNumbered', '(II)I')
def rmX4_bitNumbered : RM := ((0, 0, 0, 0), false, (some FieldType.int))
def f_X4_bitNumbered_b4 (N : Nat) (v1 : Int32) (v2 : Int32) (v3 : Int32) : Option ((Int32 × Int32) ⊕ (Int32)) := (if v3 < v1 then some (.inl (v2 &&& (v2 - 1), v3 + 1)) else some (.inr v2))
set_option maxRecDepth 100000 in
set_option maxHeartbeats 4000000 in
theorem k_X4_bitNumbered_b4 {G : GX} {Q : State → Prop} {X : MX} {v1 : Int32}  {v2 : Int32} {v3 : Int32} {N : Nat} {I : MI} {L : ML} {out : (Int32 × Int32) ⊕ (Int32)} (hf : f_X4_bitNumbered_b4 N v1 v2 v3 = some out) (hC : ∀ (v2' : Int32) (v3' : Int32), out = .inl (v2', v3') → Ex G mX4_bitNumbered rmX4_bitNumbered Q (0, 0) X I L 4 [(1, .int v1), (2, .int v2'), (3, .int v3')] []) (hX : ∀ (w2 : Int32), out = .inr w2 → Ex G mX4_bitNumbered rmX4_bitNumbered Q (0, 0) X I L 21 [(2, .int w2)] []) : Ex G mX4_bitNumbered rmX4_bitNumbered Q (0, 0) X I L 4 [(1, .int v1), (2, .int v2), (3, .int v3)] [] := by
  unfold f_X4_bitNumbered_b4 at hf
  refine ex_iload_n 2 (pc' := 5) dX4_bitNumbered_4 rfl rfl rfl ?_
  refine ex_iload_n 0 (pc' := 6) dX4_bitNumbered_5 rfl rfl rfl ?_
  refine ex_icmpge (tgt := 21) (pc' := 9) dX4_bitNumbered_6 (by decide) rfl (fun hc1 => ?_) (fun hc1 => ?_)
  · replace hf := if_t hc1 hf
    refine ex_iload_n 1 (pc' := 10) dX4_bitNumbered_9 rfl rfl rfl ?_
    refine ex_iload_n 1 (pc' := 11) dX4_bitNumbered_10 rfl rfl rfl ?_
    refine ex_iconst (v := 1) (pc' := 12) dX4_bitNumbered_11 ic_1 rfl ?_
    refine ex_isub (pc' := 13) dX4_bitNumbered_12 rfl ?_
    refine ex_iand (pc' := 14) dX4_bitNumbered_13 rfl ?_
    refine ex_istore_n (lv' := [(2, .int (v2 &&& (v2 - 1))), (1, .int v1), (3, .int v3)]) (pc' := 15) dX4_bitNumbered_14 rfl (Nat.le_of_ble_eq_true rfl) rfl rfl ?_
    refine ex_iincc (lv' := [(3, .int (v3 + 1)), (2, .int (v2 &&& (v2 - 1))), (1, .int v1)]) 2 (pc' := 18) dX4_bitNumbered_15 rfl ic_1 (Nat.le_of_ble_eq_true rfl) rfl rfl ?_
    refine ex_goto (tgt := 4) dX4_bitNumbered_18 (by decide) ?_
    exact ex_sub [2, 1, 0] rfl (hC _ _ (Option.some.inj hf).symm)
  · replace hf := if_f hc1 hf
    exact ex_sub [1] rfl (hX _ (Option.some.inj hf).symm)
def f_X4_bitNumbered_l4 (N : Nat) (v1 : Int32) (v2 : Int32) (v3 : Int32) : Option (Int32) := loopN (fun s => f_X4_bitNumbered_b4 N v1 s.1 s.2) N (v2, v3)
set_option maxRecDepth 100000 in
set_option maxHeartbeats 4000000 in
theorem k_X4_bitNumbered_l4 {G : GX} {Q : State → Prop} {X : MX} {v1 : Int32}  {N0 : Nat} {I : MI} {L : ML} {out : (Int32)} (hX : ∀ (w2 : Int32), out = w2 → Ex G mX4_bitNumbered rmX4_bitNumbered Q (0, 0) X I L 21 [(2, .int w2)] []) : ∀ (N : Nat) (v2 : Int32) (v3 : Int32), loopN (fun s => f_X4_bitNumbered_b4 N0 v1 s.1 s.2) N (v2, v3) = some out → Ex G mX4_bitNumbered rmX4_bitNumbered Q (0, 0) X I L 4 [(1, .int v1), (2, .int v2), (3, .int v3)] [] := by
  intro N
  induction N with
  | zero => intro v2 v3 hf; exact absurd (loopN_zero hf) id
  | succ n ih =>
    intro v2 v3 hf
    rcases loopN_succ hf with ⟨s, hb, hl⟩ | hb
    · obtain ⟨v2', v3'⟩ := s
      refine k_X4_bitNumbered_b4  hb (fun _ _ he => ?_) (fun _ he => by cases he)
      cases he
      exact ih v2' v3' hl
    · exact k_X4_bitNumbered_b4  hb (fun _ _ he => by cases he) (fun x0 he => hX x0 (Sum.inr.inj he))
def f_X4_bitNumbered (N : Nat) (v0 : Int32) (v1 : Int32) : Option (Int32) := bnd1 (f_X4_bitNumbered_l4 N v1 v0 0) fun x2 => some (x2 &&& (-x2))
set_option maxRecDepth 100000 in
set_option maxHeartbeats 4000000 in
theorem kb_X4_bitNumbered {G : GX} {Q : State → Prop} {X : MX} {v0 : Int32} {v1 : Int32}  {N : Nat} {I : MI} {L : ML} {out : Int32} (hf : f_X4_bitNumbered N v0 v1 = some out) (hR : ∀ (z : Int32), out = z → Q = RetQ G (some (.int z)) X I L (0, 0)) : Ex G mX4_bitNumbered rmX4_bitNumbered Q (0, 0) X I L 0 [(0, .int v0), (1, .int v1)] [] := by
  unfold f_X4_bitNumbered at hf
  refine ex_iload_n 0 (pc' := 1) dX4_bitNumbered_0 rfl rfl rfl ?_
  refine ex_istore_n (lv' := [(2, .int v0), (0, .int v0), (1, .int v1)]) (pc' := 2) dX4_bitNumbered_1 rfl (Nat.le_of_ble_eq_true rfl) rfl rfl ?_
  refine ex_iconst (v := 0) (pc' := 3) dX4_bitNumbered_2 ic_0 rfl ?_
  refine ex_istore_n (lv' := [(3, .int 0), (2, .int v0), (0, .int v0), (1, .int v1)]) (pc' := 4) dX4_bitNumbered_3 rfl (Nat.le_of_ble_eq_true rfl) rfl rfl ?_
  refine ex_sub (lv' := [(1, .int v1), (2, .int v0), (3, .int 0)]) [3, 1, 0] rfl ?_
  obtain ⟨x2, hq3, hf⟩ := of_bnd1 hf
  refine k_X4_bitNumbered_l4 (fun x2' he => ?_) _ _ _ hq3
  cases he
  refine ex_iload_n 0 (pc' := 22) dX4_bitNumbered_21 rfl rfl rfl ?_
  refine ex_iload_n 0 (pc' := 23) dX4_bitNumbered_22 rfl rfl rfl ?_
  refine ex_ineg (pc' := 24) dX4_bitNumbered_23 rfl ?_
  refine ex_iand (pc' := 25) dX4_bitNumbered_24 rfl ?_
  exact ex_iret dX4_bitNumbered_25 rfl (hR _ (Option.some.inj hf).symm)
set_option maxRecDepth 100000 in
set_option maxHeartbeats 4000000 in
theorem k_X4_bitNumbered (G : GX) {X : MX} {v0 : Int32} {v1 : Int32}  {N : Nat} {I : MI} {L : ML} {z : Int32} (hf : f_X4_bitNumbered N v0 v1 = some z) : Con G mX4_bitNumbered yX4_bitNumbered rmX4_bitNumbered (fun B => [.int v0, .int v1]) X I L (some (.int z)) X I L :=
  Con.of (by decide) rfl (fun h => by cases h) (fun B => Nat.le_of_ble_eq_true rfl) (fun G => kb_X4_bitNumbered  hf (fun _ he => by cases he; rfl))
theorem fl_X4_18 : FLD RX4 18 4 2 true := ⟨RX4, TX4, 5, rfl, inX4, by decide, lwg_at 258 (by decide +kernel) rfl, nmX4, tyX4_ok, rfl, rfl⟩
theorem bp_64 : (Int8.ofInt 64).toInt32 = 64 := by decide
-- X4_leastWith ('RookWords$Rooks', 'leastWith', '([IIII)I')
def rmX4_leastWith : RM := ((0, 0, 0, 0), false, (some FieldType.int))
def f_X4_leastWith (a1 : Nat) (n1 : Nat) (v2 : Int32) (v3 : Int32) (v4 : Int32) (I : MI) : Option (Int32) := if inb ((v2 * 6) + v3) n1 then if inb (((v2 + 1) * 64) + (v4 ||| (jshl 1 v3))) 448 then some ((I a1 (Int32.toNatClampNeg ((v2 * 6) + v3))) + (I 94 (Int32.toNatClampNeg (((v2 + 1) * 64) + (v4 ||| (jshl 1 v3)))))) else none else none
set_option maxRecDepth 100000 in
set_option maxHeartbeats 4000000 in
theorem kb_X4_leastWith {G : GX} {Q : State → Prop} {X : MX} (hM : shX10 X) {a1 : Nat} {n1 : Nat} {v2 : Int32} {v3 : Int32} {v4 : Int32} (h1 : X.1 a1 = (2, n1)) {I : MI} {L : ML} {out : Int32} (hf : f_X4_leastWith a1 n1 v2 v3 v4 I = some out) (hR : ∀ (z : Int32), out = z → Q = RetQ G (some (.int z)) X I L (0, 0)) : Ex G mX4_leastWith rmX4_leastWith Q (0, 0) X I L 0 [(0, .ref (gB G + 91)), (1, .ref (gB G + a1)), (2, .int v2), (3, .int v3), (4, .int v4)] [] := by
  unfold f_X4_leastWith at hf
  refine ex_aload_n 1 (pc' := 1) dX4_leastWith_0 rfl rfl rfl ?_
  refine ex_iload_n 2 (pc' := 2) dX4_leastWith_1 rfl rfl rfl ?_
  refine ex_bipush (v := 6) (pc' := 4) dX4_leastWith_2 bp_6 rfl ?_
  refine ex_imul (pc' := 5) dX4_leastWith_4 rfl ?_
  refine ex_iload_n 3 (pc' := 6) dX4_leastWith_5 rfl rfl rfl ?_
  refine ex_iadd (pc' := 7) dX4_leastWith_6 rfl ?_
  obtain ⟨hg1, hf⟩ := of_guard hf
  refine ex_iald (pc' := 8) dX4_leastWith_7 h1 (inb_in hg1) rfl ?_
  refine ex_aload_n 0 (pc' := 9) dX4_leastWith_8 rfl rfl rfl ?_
  refine ex_getR (pc' := 12) dX4_leastWith_9 fl_X4_18 rfl (sh4_k (sh10_T7 hM)) (sh4_F2 (sh10_T7 hM)) rfl ?_
  refine ex_iload_n 2 (pc' := 13) dX4_leastWith_12 rfl rfl rfl ?_
  refine ex_iconst (v := 1) (pc' := 14) dX4_leastWith_13 ic_1 rfl ?_
  refine ex_iadd (pc' := 15) dX4_leastWith_14 rfl ?_
  refine ex_bipush (v := 64) (pc' := 17) dX4_leastWith_15 bp_64 rfl ?_
  refine ex_imul (pc' := 18) dX4_leastWith_17 rfl ?_
  refine ex_iload 4 (pc' := 20) dX4_leastWith_18 rfl rfl ?_
  refine ex_iconst (v := 1) (pc' := 21) dX4_leastWith_20 ic_1 rfl ?_
  refine ex_iload_n 3 (pc' := 22) dX4_leastWith_21 rfl rfl rfl ?_
  refine ex_ishl (pc' := 23) dX4_leastWith_22 rfl ?_
  refine ex_ior (pc' := 24) dX4_leastWith_23 rfl ?_
  refine ex_iadd (pc' := 25) dX4_leastWith_24 rfl ?_
  obtain ⟨hg2, hf⟩ := of_guard hf
  refine ex_iald (pc' := 26) dX4_leastWith_25 (sh4_T2 (sh10_T7 hM)) (inb_in hg2) rfl ?_
  refine ex_iadd (pc' := 27) dX4_leastWith_26 rfl ?_
  exact ex_iret dX4_leastWith_27 rfl (hR _ (Option.some.inj hf).symm)
set_option maxRecDepth 100000 in
set_option maxHeartbeats 4000000 in
theorem k_X4_leastWith (G : GX) {X : MX} (hM : shX10 X) {a1 : Nat} {n1 : Nat} {v2 : Int32} {v3 : Int32} {v4 : Int32} (h1 : X.1 a1 = (2, n1)) {I : MI} {L : ML} {z : Int32} (hf : f_X4_leastWith a1 n1 v2 v3 v4 I = some z) : Con G mX4_leastWith yX4_leastWith rmX4_leastWith (fun B => [.ref (B + 91), .ref (B + a1), .int v2, .int v3, .int v4]) X I L (some (.int z)) X I L :=
  Con.of (by decide) rfl (fun h => by cases h) (fun B => Nat.le_of_ble_eq_true rfl) (fun G => kb_X4_leastWith hM h1 hf (fun _ he => by cases he; rfl))
theorem fl_X4_27 : FLD RX4 27 0 0 false := ⟨RX0, TX0, 2, rfl, inX0, by decide, lwg_at 127 (by decide +kernel) rfl, nmX0, tyX0_ok, rfl, rfl⟩
theorem cl_X4_63 : CLV RX4 63 yX0_has mX0_has (some FieldType.boolean) 2 := ⟨⟨lwg_at 733 (by decide +kernel) rfl, lwg_at 540 (by decide +kernel) rfl, lwg_at 541 (by decide +kernel) rfl, lwg_at 54 (by decide +kernel) rfl⟩, lwg_at 542 (by decide +kernel) rfl, ⟨by decide +kernel, by decide +kernel, by decide +kernel⟩⟩
theorem cl_X4_67 : CLV RX4 67 yX4_leastWith mX4_leastWith (some FieldType.int) 4 := ⟨⟨lwg_at 734 (by decide +kernel) rfl, lwg_at 736 (by decide +kernel) rfl, lwg_at 12 (by decide +kernel) rfl, lwg_at 60 (by decide +kernel) rfl⟩, lwg_at 737 (by decide +kernel) rfl, ⟨by decide +kernel, by decide +kernel, by decide +kernel⟩⟩
-- X4_columnOfLeast ('RookWords$Rooks', 'columnOfLeast', '(LRookWords$Board;[III)I')
def rmX4_columnOfLeast : RM := ((1, 24, 0, 0), false, (some FieldType.int))
def f_X4_columnOfLeast_b3 (N : Nat) (a1 : Nat) (a2 : Nat) (n2 : Nat) (v3 : Int32) (v4 : Int32) (v5 : Int32) (I : MI) : Option ((Int32) ⊕ ((Unit) ⊕ (Int32))) := (if v5 < (I a1 0) then bnd1 (f_X0_has a1 v3 v5 I) fun r2 => (if r2 = 0 then some (.inl (v5 + 1)) else (if ((jshr v4 v5) &&& 1) = 0 then bnd1 (f_X4_leastWith a2 n2 v3 v5 v4 I) fun r6 => if inb ((v3 * 64) + v4) 448 then (if r6 = (I 94 (Int32.toNatClampNeg ((v3 * 64) + v4))) then some (.inr (.inr v5)) else some (.inl (v5 + 1))) else none else some (.inl (v5 + 1)))) else some (.inr (.inl ())))
set_option maxRecDepth 100000 in
set_option maxHeartbeats 4000000 in
theorem k_X4_columnOfLeast_b3 {G : GX} {Q : State → Prop} {X : MX} (hM : shX10 X) {a1 : Nat} {a2 : Nat} {n2 : Nat} {v3 : Int32} {v4 : Int32} (h1 : shX0 X a1) (h2 : X.1 a2 = (2, n2)) {v5 : Int32} {N : Nat} {I : MI} {L : ML} {out : (Int32) ⊕ ((Unit) ⊕ (Int32))} (hf : f_X4_columnOfLeast_b3 N a1 a2 n2 v3 v4 v5 I = some out) (hC : ∀ (v5' : Int32), out = .inl v5' → Ex G mX4_columnOfLeast rmX4_columnOfLeast Q (0, 0) X I L 3 [(0, .ref (gB G + 91)), (1, .ref (gB G + a1)), (2, .ref (gB G + a2)), (3, .int v3), (4, .int v4), (5, .int v5')] []) (hX : ∀ (u : Unit), out = .inr (.inl u) → Ex G mX4_columnOfLeast rmX4_columnOfLeast Q (0, 0) X I L 66 [] []) (hR : ∀ (z : Int32), out = .inr (.inr z) → Q = RetQ G (some (.int z)) X I L (0, 0)) : Ex G mX4_columnOfLeast rmX4_columnOfLeast Q (0, 0) X I L 3 [(0, .ref (gB G + 91)), (1, .ref (gB G + a1)), (2, .ref (gB G + a2)), (3, .int v3), (4, .int v4), (5, .int v5)] [] := by
  unfold f_X4_columnOfLeast_b3 at hf
  refine ex_iload 5 (pc' := 5) dX4_columnOfLeast_3 rfl rfl ?_
  refine ex_aload_n 1 (pc' := 6) dX4_columnOfLeast_5 rfl rfl rfl ?_
  refine ex_getI (pc' := 9) dX4_columnOfLeast_6 fl_X4_27 rfl (sh0_k h1) rfl ?_
  refine ex_icmpge (tgt := 66) (pc' := 12) dX4_columnOfLeast_9 (by decide) rfl (fun hc1 => ?_) (fun hc1 => ?_)
  · replace hf := if_t hc1 hf
    refine ex_aload_n 1 (pc' := 13) dX4_columnOfLeast_12 rfl rfl rfl ?_
    refine ex_iload_n 3 (pc' := 14) dX4_columnOfLeast_13 rfl rfl rfl ?_
    refine ex_iload 5 (pc' := 16) dX4_columnOfLeast_14 rfl rfl ?_
    obtain ⟨r2, hq3, hf⟩ := of_bnd1 hf
    refine ex_callV_i (rm' := rmX0_has) (st := []) (pc' := 19) [.int v3, .int v5] dX4_columnOfLeast_16 cl_X4_63 (k_X0_has G h1 hq3) rfl (sh0_k h1) ⟨_, _, rfl⟩ rfl rfl (ROOM_of rfl) (Nat.le_of_ble_eq_true rfl) rfl rfl ?_
    refine ex_ifeq (tgt := 60) (pc' := 22) dX4_columnOfLeast_19 (by decide) rfl (fun hc4 => ?_) (fun hc4 => ?_)
    · replace hf := if_t hc4 hf
      refine ex_iincc (lv' := [(5, .int (v5 + 1)), (0, .ref (gB G + 91)), (1, .ref (gB G + a1)), (2, .ref (gB G + a2)), (3, .int v3), (4, .int v4)]) 5 (pc' := 63) dX4_columnOfLeast_60 rfl ic_1 (Nat.le_of_ble_eq_true rfl) rfl rfl ?_
      refine ex_goto (tgt := 3) dX4_columnOfLeast_63 (by decide) ?_
      exact ex_sub [1, 2, 3, 4, 5, 0] rfl (hC _ (Option.some.inj hf).symm)
    · replace hf := if_f hc4 hf
      refine ex_iload 4 (pc' := 24) dX4_columnOfLeast_22 rfl rfl ?_
      refine ex_iload 5 (pc' := 26) dX4_columnOfLeast_24 rfl rfl ?_
      refine ex_ishr (pc' := 27) dX4_columnOfLeast_26 rfl ?_
      refine ex_iconst (v := 1) (pc' := 28) dX4_columnOfLeast_27 ic_1 rfl ?_
      refine ex_iand (pc' := 29) dX4_columnOfLeast_28 rfl ?_
      refine ex_ifne (tgt := 60) (pc' := 32) dX4_columnOfLeast_29 (by decide) rfl (fun hc5 => ?_) (fun hc5 => ?_)
      · replace hf := if_t hc5 hf
        refine ex_aload_n 0 (pc' := 33) dX4_columnOfLeast_32 rfl rfl rfl ?_
        refine ex_aload_n 2 (pc' := 34) dX4_columnOfLeast_33 rfl rfl rfl ?_
        refine ex_iload_n 3 (pc' := 35) dX4_columnOfLeast_34 rfl rfl rfl ?_
        refine ex_iload 5 (pc' := 37) dX4_columnOfLeast_35 rfl rfl ?_
        refine ex_iload 4 (pc' := 39) dX4_columnOfLeast_37 rfl rfl ?_
        obtain ⟨r6, hq7, hf⟩ := of_bnd1 hf
        refine ex_callV_i (rm' := rmX4_leastWith) (st := []) (pc' := 42) [.ref (gB G + a2), .int v3, .int v5, .int v4] dX4_columnOfLeast_39 cl_X4_67 (k_X4_leastWith G hM h2 hq7) rfl (sh4_k (sh10_T7 hM)) ⟨_, _, rfl⟩ rfl rfl (ROOM_of rfl) (Nat.le_of_ble_eq_true rfl) rfl rfl ?_
        refine ex_aload_n 0 (pc' := 43) dX4_columnOfLeast_42 rfl rfl rfl ?_
        refine ex_getR (pc' := 46) dX4_columnOfLeast_43 fl_X4_18 rfl (sh4_k (sh10_T7 hM)) (sh4_F2 (sh10_T7 hM)) rfl ?_
        refine ex_iload_n 3 (pc' := 47) dX4_columnOfLeast_46 rfl rfl rfl ?_
        refine ex_bipush (v := 64) (pc' := 49) dX4_columnOfLeast_47 bp_64 rfl ?_
        refine ex_imul (pc' := 50) dX4_columnOfLeast_49 rfl ?_
        refine ex_iload 4 (pc' := 52) dX4_columnOfLeast_50 rfl rfl ?_
        refine ex_iadd (pc' := 53) dX4_columnOfLeast_52 rfl ?_
        obtain ⟨hg8, hf⟩ := of_guard hf
        refine ex_iald (pc' := 54) dX4_columnOfLeast_53 (sh4_T2 (sh10_T7 hM)) (inb_in hg8) rfl ?_
        refine ex_icmpne (tgt := 60) (pc' := 57) dX4_columnOfLeast_54 (by decide) rfl (fun hc9 => ?_) (fun hc9 => ?_)
        · replace hf := if_t hc9 hf
          refine ex_iload 5 (pc' := 59) dX4_columnOfLeast_57 rfl rfl ?_
          exact ex_iret dX4_columnOfLeast_59 rfl (hR _ (Option.some.inj hf).symm)
        · replace hf := if_f hc9 hf
          refine ex_iincc (lv' := [(5, .int (v5 + 1)), (0, .ref (gB G + 91)), (1, .ref (gB G + a1)), (2, .ref (gB G + a2)), (3, .int v3), (4, .int v4)]) 5 (pc' := 63) dX4_columnOfLeast_60 rfl ic_1 (Nat.le_of_ble_eq_true rfl) rfl rfl ?_
          refine ex_goto (tgt := 3) dX4_columnOfLeast_63 (by decide) ?_
          exact ex_sub [1, 2, 3, 4, 5, 0] rfl (hC _ (Option.some.inj hf).symm)
      · replace hf := if_f hc5 hf
        refine ex_iincc (lv' := [(5, .int (v5 + 1)), (0, .ref (gB G + 91)), (1, .ref (gB G + a1)), (2, .ref (gB G + a2)), (3, .int v3), (4, .int v4)]) 5 (pc' := 63) dX4_columnOfLeast_60 rfl ic_1 (Nat.le_of_ble_eq_true rfl) rfl rfl ?_
        refine ex_goto (tgt := 3) dX4_columnOfLeast_63 (by decide) ?_
        exact ex_sub [1, 2, 3, 4, 5, 0] rfl (hC _ (Option.some.inj hf).symm)
  · replace hf := if_f hc1 hf
    exact ex_sub [] rfl (hX _ (Option.some.inj hf).symm)
def f_X4_columnOfLeast_l3 (N : Nat) (a1 : Nat) (a2 : Nat) (n2 : Nat) (v3 : Int32) (v4 : Int32) (v5 : Int32) (I : MI) : Option ((Unit) ⊕ (Int32)) := loopN (fun s => f_X4_columnOfLeast_b3 N a1 a2 n2 v3 v4 s I) N v5
set_option maxRecDepth 100000 in
set_option maxHeartbeats 4000000 in
theorem k_X4_columnOfLeast_l3 {G : GX} {Q : State → Prop} {X : MX} (hM : shX10 X) {a1 : Nat} {a2 : Nat} {n2 : Nat} {v3 : Int32} {v4 : Int32} (h1 : shX0 X a1) (h2 : X.1 a2 = (2, n2)) {N0 : Nat} {I : MI} {L : ML} {out : ((Unit) ⊕ (Int32))} (hX : ∀ (u : Unit), out = .inl u → Ex G mX4_columnOfLeast rmX4_columnOfLeast Q (0, 0) X I L 66 [] []) (hR : ∀ (z : Int32), out = .inr z → Q = RetQ G (some (.int z)) X I L (0, 0)) : ∀ (N : Nat) (v5 : Int32), loopN (fun s => f_X4_columnOfLeast_b3 N0 a1 a2 n2 v3 v4 s I) N v5 = some out → Ex G mX4_columnOfLeast rmX4_columnOfLeast Q (0, 0) X I L 3 [(0, .ref (gB G + 91)), (1, .ref (gB G + a1)), (2, .ref (gB G + a2)), (3, .int v3), (4, .int v4), (5, .int v5)] [] := by
  intro N
  induction N with
  | zero => intro v5 hf; exact absurd (loopN_zero hf) id
  | succ n ih =>
    intro v5 hf
    rcases loopN_succ hf with ⟨s, hb, hl⟩ | hb
    · skip
      refine k_X4_columnOfLeast_b3 hM h1 h2 hb (fun _ he => ?_) (fun _ he => by cases he) (fun _ he => by cases he)
      cases he
      exact ih s hl
    · exact k_X4_columnOfLeast_b3 hM h1 h2 hb (fun _ he => by cases he) (fun x0 he => hX x0 (Sum.inr.inj he)) (fun z0 he => hR z0 (Sum.inr.inj he))
def f_X4_columnOfLeast (N : Nat) (a1 : Nat) (a2 : Nat) (n2 : Nat) (v3 : Int32) (v4 : Int32) (I : MI) : Option (Int32) := bns1 (f_X4_columnOfLeast_l3 N a1 a2 n2 v3 v4 0 I) (fun u10 => some (-1)) (fun q12 => some q12)
set_option maxRecDepth 100000 in
set_option maxHeartbeats 4000000 in
theorem kb_X4_columnOfLeast {G : GX} {Q : State → Prop} {X : MX} (hM : shX10 X) {a1 : Nat} {a2 : Nat} {n2 : Nat} {v3 : Int32} {v4 : Int32} (h1 : shX0 X a1) (h2 : X.1 a2 = (2, n2)) {N : Nat} {I : MI} {L : ML} {out : Int32} (hf : f_X4_columnOfLeast N a1 a2 n2 v3 v4 I = some out) (hR : ∀ (z : Int32), out = z → Q = RetQ G (some (.int z)) X I L (0, 0)) : Ex G mX4_columnOfLeast rmX4_columnOfLeast Q (0, 0) X I L 0 [(0, .ref (gB G + 91)), (1, .ref (gB G + a1)), (2, .ref (gB G + a2)), (3, .int v3), (4, .int v4)] [] := by
  unfold f_X4_columnOfLeast at hf
  refine ex_iconst (v := 0) (pc' := 1) dX4_columnOfLeast_0 ic_0 rfl ?_
  refine ex_istore (lv' := [(5, .int 0), (0, .ref (gB G + 91)), (1, .ref (gB G + a1)), (2, .ref (gB G + a2)), (3, .int v3), (4, .int v4)]) (pc' := 3) dX4_columnOfLeast_1 (Nat.le_of_ble_eq_true rfl) rfl rfl ?_
  refine ex_sub (lv' := [(0, .ref (gB G + 91)), (1, .ref (gB G + a1)), (2, .ref (gB G + a2)), (3, .int v3), (4, .int v4), (5, .int 0)]) [1, 2, 3, 4, 5, 0] rfl ?_
  rcases of_bns1 hf with ⟨u10, hq11, hf⟩ | ⟨q12, hq11, hf⟩
  · refine k_X4_columnOfLeast_l3 hM h1 h2 (fun u10' he => ?_) (fun _ he => by cases he) _ _ hq11
    cases he
    refine ex_iconst (v := (-1)) (pc' := 67) dX4_columnOfLeast_66 ic_m1 rfl ?_
    exact ex_iret dX4_columnOfLeast_67 rfl (hR _ (Option.some.inj hf).symm)
  · refine k_X4_columnOfLeast_l3 hM h1 h2 (fun _ he => by cases he) (fun z0 he => ?_) _ _ hq11
    refine hR _ ?_
    rw [← Option.some.inj hf]
    cases he
    rfl
set_option maxRecDepth 100000 in
set_option maxHeartbeats 4000000 in
theorem k_X4_columnOfLeast (G : GX) {X : MX} (hM : shX10 X) {a1 : Nat} {a2 : Nat} {n2 : Nat} {v3 : Int32} {v4 : Int32} (h1 : shX0 X a1) (h2 : X.1 a2 = (2, n2)) {N : Nat} {I : MI} {L : ML} {z : Int32} (hf : f_X4_columnOfLeast N a1 a2 n2 v3 v4 I = some z) : Con G mX4_columnOfLeast yX4_columnOfLeast rmX4_columnOfLeast (fun B => [.ref (B + 91), .ref (B + a1), .ref (B + a2), .int v3, .int v4]) X I L (some (.int z)) X I L :=
  Con.of (by decide) rfl (fun h => by cases h) (fun B => Nat.le_of_ble_eq_true rfl) (fun G => kb_X4_columnOfLeast hM h1 h2 hf (fun _ he => by cases he; rfl))
theorem cl_X4_77 : CLV RX4 77 yX4_columnOfLeast mX4_columnOfLeast (some FieldType.int) 4 := ⟨⟨lwg_at 743 (by decide +kernel) rfl, lwg_at 745 (by decide +kernel) rfl, lwg_at 13 (by decide +kernel) rfl, lwg_at 60 (by decide +kernel) rfl⟩, lwg_at 746 (by decide +kernel) rfl, ⟨by decide +kernel, by decide +kernel, by decide +kernel⟩⟩
-- X4_cheapestColumn ('RookWords$Rooks', 'cheapestColumn', '(LRookWords$Board;[II)I')
def rmX4_cheapestColumn : RM := ((2, 49, 0, 0), false, (some FieldType.int))
def f_X4_cheapestColumn_b9 (N : Nat) (a1 : Nat) (a2 : Nat) (n2 : Nat) (v3 : Int32) (v4 : Int32) (v5 : Int32) (v6 : Int32) (I : MI) : Option ((Int32 × Int32 × Int32) ⊕ (Int32)) := (if v3 < v6 then some (.inr v5) else (if v6 < (I a1 0) then bnd1 (f_X4_columnOfLeast N a1 a2 n2 v6 v4 I) fun r3 => (if r3 < 0 then some (.inl (v4 ||| 0, r3, v6 + 1)) else some (.inl (v4 ||| (jshl 1 r3), r3, v6 + 1))) else some (.inr v5)))
set_option maxRecDepth 100000 in
set_option maxHeartbeats 4000000 in
theorem k_X4_cheapestColumn_b9 {G : GX} {Q : State → Prop} {X : MX} (hM : shX10 X) {a1 : Nat} {a2 : Nat} {n2 : Nat} {v3 : Int32} (h1 : shX0 X a1) (h2 : X.1 a2 = (2, n2)) {v4 : Int32} {v5 : Int32} {v6 : Int32} {N : Nat} {I : MI} {L : ML} {out : (Int32 × Int32 × Int32) ⊕ (Int32)} (hf : f_X4_cheapestColumn_b9 N a1 a2 n2 v3 v4 v5 v6 I = some out) (hC : ∀ (v4' : Int32) (v5' : Int32) (v6' : Int32), out = .inl (v4', v5', v6') → Ex G mX4_cheapestColumn rmX4_cheapestColumn Q (0, 0) X I L 9 [(0, .ref (gB G + 91)), (1, .ref (gB G + a1)), (2, .ref (gB G + a2)), (3, .int v3), (4, .int v4'), (5, .int v5'), (6, .int v6')] []) (hX : ∀ (w5 : Int32), out = .inr w5 → Ex G mX4_cheapestColumn rmX4_cheapestColumn Q (0, 0) X I L 60 [(5, .int w5)] []) : Ex G mX4_cheapestColumn rmX4_cheapestColumn Q (0, 0) X I L 9 [(0, .ref (gB G + 91)), (1, .ref (gB G + a1)), (2, .ref (gB G + a2)), (3, .int v3), (4, .int v4), (5, .int v5), (6, .int v6)] [] := by
  unfold f_X4_cheapestColumn_b9 at hf
  refine ex_iload 6 (pc' := 11) dX4_cheapestColumn_9 rfl rfl ?_
  refine ex_iload_n 3 (pc' := 12) dX4_cheapestColumn_11 rfl rfl rfl ?_
  refine ex_icmpgt (tgt := 60) (pc' := 15) dX4_cheapestColumn_12 (by decide) rfl (fun hc1 => ?_) (fun hc1 => ?_)
  · replace hf := if_t hc1 hf
    exact ex_sub [5] rfl (hX _ (Option.some.inj hf).symm)
  · replace hf := if_f hc1 hf
    refine ex_iload 6 (pc' := 17) dX4_cheapestColumn_15 rfl rfl ?_
    refine ex_aload_n 1 (pc' := 18) dX4_cheapestColumn_17 rfl rfl rfl ?_
    refine ex_getI (pc' := 21) dX4_cheapestColumn_18 fl_X4_27 rfl (sh0_k h1) rfl ?_
    refine ex_icmpge (tgt := 60) (pc' := 24) dX4_cheapestColumn_21 (by decide) rfl (fun hc2 => ?_) (fun hc2 => ?_)
    · replace hf := if_t hc2 hf
      refine ex_aload_n 0 (pc' := 25) dX4_cheapestColumn_24 rfl rfl rfl ?_
      refine ex_aload_n 1 (pc' := 26) dX4_cheapestColumn_25 rfl rfl rfl ?_
      refine ex_aload_n 2 (pc' := 27) dX4_cheapestColumn_26 rfl rfl rfl ?_
      refine ex_iload 6 (pc' := 29) dX4_cheapestColumn_27 rfl rfl ?_
      refine ex_iload 4 (pc' := 31) dX4_cheapestColumn_29 rfl rfl ?_
      obtain ⟨r3, hq4, hf⟩ := of_bnd1 hf
      refine ex_callV_i (rm' := rmX4_columnOfLeast) (st := []) (pc' := 34) [.ref (gB G + a1), .ref (gB G + a2), .int v6, .int v4] dX4_cheapestColumn_31 cl_X4_77 (k_X4_columnOfLeast G hM h1 h2 hq4) rfl (sh4_k (sh10_T7 hM)) ⟨_, _, rfl⟩ rfl rfl (ROOM_of rfl) (Nat.le_of_ble_eq_true rfl) rfl rfl ?_
      refine ex_istore (lv' := [(5, .int r3), (0, .ref (gB G + 91)), (1, .ref (gB G + a1)), (2, .ref (gB G + a2)), (3, .int v3), (4, .int v4), (6, .int v6)]) (pc' := 36) dX4_cheapestColumn_34 (Nat.le_of_ble_eq_true rfl) rfl rfl ?_
      refine ex_iload 5 (pc' := 38) dX4_cheapestColumn_36 rfl rfl ?_
      refine ex_iload 0 (pc' := 40) dX4_cheapestColumn_38 rfl rfl ?_
      refine ex_iflt (tgt := 50) (pc' := 43) dX4_cheapestColumn_40 (by decide) rfl (fun hc5 => ?_) (fun hc5 => ?_)
      · replace hf := if_t hc5 hf
        refine ex_iconst (v := 0) (pc' := 51) dX4_cheapestColumn_50 ic_0 rfl ?_
        refine ex_ior (pc' := 52) dX4_cheapestColumn_51 rfl ?_
        refine ex_istore (lv' := [(4, .int (v4 ||| 0)), (5, .int r3), (0, .ref (gB G + 91)), (1, .ref (gB G + a1)), (2, .ref (gB G + a2)), (3, .int v3), (6, .int v6)]) (pc' := 54) dX4_cheapestColumn_52 (Nat.le_of_ble_eq_true rfl) rfl rfl ?_
        refine ex_iincc (lv' := [(6, .int (v6 + 1)), (4, .int (v4 ||| 0)), (5, .int r3), (0, .ref (gB G + 91)), (1, .ref (gB G + a1)), (2, .ref (gB G + a2)), (3, .int v3)]) 6 (pc' := 57) dX4_cheapestColumn_54 rfl ic_1 (Nat.le_of_ble_eq_true rfl) rfl rfl ?_
        refine ex_goto (tgt := 9) dX4_cheapestColumn_57 (by decide) ?_
        exact ex_sub [3, 4, 5, 6, 1, 2, 0] rfl (hC _ _ _ (Option.some.inj hf).symm)
      · replace hf := if_f hc5 hf
        refine ex_iconst (v := 1) (pc' := 44) dX4_cheapestColumn_43 ic_1 rfl ?_
        refine ex_iload 0 (pc' := 46) dX4_cheapestColumn_44 rfl rfl ?_
        refine ex_ishl (pc' := 47) dX4_cheapestColumn_46 rfl ?_
        refine ex_goto (tgt := 51) dX4_cheapestColumn_47 (by decide) ?_
        refine ex_ior (pc' := 52) dX4_cheapestColumn_51 rfl ?_
        refine ex_istore (lv' := [(4, .int (v4 ||| (jshl 1 r3))), (5, .int r3), (0, .ref (gB G + 91)), (1, .ref (gB G + a1)), (2, .ref (gB G + a2)), (3, .int v3), (6, .int v6)]) (pc' := 54) dX4_cheapestColumn_52 (Nat.le_of_ble_eq_true rfl) rfl rfl ?_
        refine ex_iincc (lv' := [(6, .int (v6 + 1)), (4, .int (v4 ||| (jshl 1 r3))), (5, .int r3), (0, .ref (gB G + 91)), (1, .ref (gB G + a1)), (2, .ref (gB G + a2)), (3, .int v3)]) 6 (pc' := 57) dX4_cheapestColumn_54 rfl ic_1 (Nat.le_of_ble_eq_true rfl) rfl rfl ?_
        refine ex_goto (tgt := 9) dX4_cheapestColumn_57 (by decide) ?_
        exact ex_sub [3, 4, 5, 6, 1, 2, 0] rfl (hC _ _ _ (Option.some.inj hf).symm)
    · replace hf := if_f hc2 hf
      exact ex_sub [5] rfl (hX _ (Option.some.inj hf).symm)
def f_X4_cheapestColumn_l9 (N : Nat) (a1 : Nat) (a2 : Nat) (n2 : Nat) (v3 : Int32) (v4 : Int32) (v5 : Int32) (v6 : Int32) (I : MI) : Option (Int32) := loopN (fun s => f_X4_cheapestColumn_b9 N a1 a2 n2 v3 s.1 s.2.1 s.2.2 I) N (v4, v5, v6)
set_option maxRecDepth 100000 in
set_option maxHeartbeats 4000000 in
theorem k_X4_cheapestColumn_l9 {G : GX} {Q : State → Prop} {X : MX} (hM : shX10 X) {a1 : Nat} {a2 : Nat} {n2 : Nat} {v3 : Int32} (h1 : shX0 X a1) (h2 : X.1 a2 = (2, n2)) {N0 : Nat} {I : MI} {L : ML} {out : (Int32)} (hX : ∀ (w5 : Int32), out = w5 → Ex G mX4_cheapestColumn rmX4_cheapestColumn Q (0, 0) X I L 60 [(5, .int w5)] []) : ∀ (N : Nat) (v4 : Int32) (v5 : Int32) (v6 : Int32), loopN (fun s => f_X4_cheapestColumn_b9 N0 a1 a2 n2 v3 s.1 s.2.1 s.2.2 I) N (v4, v5, v6) = some out → Ex G mX4_cheapestColumn rmX4_cheapestColumn Q (0, 0) X I L 9 [(0, .ref (gB G + 91)), (1, .ref (gB G + a1)), (2, .ref (gB G + a2)), (3, .int v3), (4, .int v4), (5, .int v5), (6, .int v6)] [] := by
  intro N
  induction N with
  | zero => intro v4 v5 v6 hf; exact absurd (loopN_zero hf) id
  | succ n ih =>
    intro v4 v5 v6 hf
    rcases loopN_succ hf with ⟨s, hb, hl⟩ | hb
    · obtain ⟨v4', v5', v6'⟩ := s
      refine k_X4_cheapestColumn_b9 hM h1 h2 hb (fun _ _ _ he => ?_) (fun _ he => by cases he)
      cases he
      exact ih v4' v5' v6' hl
    · exact k_X4_cheapestColumn_b9 hM h1 h2 hb (fun _ _ _ he => by cases he) (fun x0 he => hX x0 (Sum.inr.inj he))
def f_X4_cheapestColumn (N : Nat) (a1 : Nat) (a2 : Nat) (n2 : Nat) (v3 : Int32) (I : MI) : Option (Int32) := bnd1 (f_X4_cheapestColumn_l9 N a1 a2 n2 v3 0 (-1) 0 I) fun x6 => some x6
set_option maxRecDepth 100000 in
set_option maxHeartbeats 4000000 in
theorem kb_X4_cheapestColumn {G : GX} {Q : State → Prop} {X : MX} (hM : shX10 X) {a1 : Nat} {a2 : Nat} {n2 : Nat} {v3 : Int32} (h1 : shX0 X a1) (h2 : X.1 a2 = (2, n2)) {N : Nat} {I : MI} {L : ML} {out : Int32} (hf : f_X4_cheapestColumn N a1 a2 n2 v3 I = some out) (hR : ∀ (z : Int32), out = z → Q = RetQ G (some (.int z)) X I L (0, 0)) : Ex G mX4_cheapestColumn rmX4_cheapestColumn Q (0, 0) X I L 0 [(0, .ref (gB G + 91)), (1, .ref (gB G + a1)), (2, .ref (gB G + a2)), (3, .int v3)] [] := by
  unfold f_X4_cheapestColumn at hf
  refine ex_iconst (v := 0) (pc' := 1) dX4_cheapestColumn_0 ic_0 rfl ?_
  refine ex_istore (lv' := [(4, .int 0), (0, .ref (gB G + 91)), (1, .ref (gB G + a1)), (2, .ref (gB G + a2)), (3, .int v3)]) (pc' := 3) dX4_cheapestColumn_1 (Nat.le_of_ble_eq_true rfl) rfl rfl ?_
  refine ex_iconst (v := (-1)) (pc' := 4) dX4_cheapestColumn_3 ic_m1 rfl ?_
  refine ex_istore (lv' := [(5, .int (-1)), (4, .int 0), (0, .ref (gB G + 91)), (1, .ref (gB G + a1)), (2, .ref (gB G + a2)), (3, .int v3)]) (pc' := 6) dX4_cheapestColumn_4 (Nat.le_of_ble_eq_true rfl) rfl rfl ?_
  refine ex_iconst (v := 0) (pc' := 7) dX4_cheapestColumn_6 ic_0 rfl ?_
  refine ex_istore (lv' := [(6, .int 0), (5, .int (-1)), (4, .int 0), (0, .ref (gB G + 91)), (1, .ref (gB G + a1)), (2, .ref (gB G + a2)), (3, .int v3)]) (pc' := 9) dX4_cheapestColumn_7 (Nat.le_of_ble_eq_true rfl) rfl rfl ?_
  refine ex_sub (lv' := [(0, .ref (gB G + 91)), (1, .ref (gB G + a1)), (2, .ref (gB G + a2)), (3, .int v3), (4, .int 0), (5, .int (-1)), (6, .int 0)]) [3, 4, 5, 6, 2, 1, 0] rfl ?_
  obtain ⟨x6, hq7, hf⟩ := of_bnd1 hf
  refine k_X4_cheapestColumn_l9 hM h1 h2 (fun x6' he => ?_) _ _ _ _ hq7
  cases he
  refine ex_iload 0 (pc' := 62) dX4_cheapestColumn_60 rfl rfl ?_
  exact ex_iret dX4_cheapestColumn_62 rfl (hR _ (Option.some.inj hf).symm)
set_option maxRecDepth 100000 in
set_option maxHeartbeats 4000000 in
theorem k_X4_cheapestColumn (G : GX) {X : MX} (hM : shX10 X) {a1 : Nat} {a2 : Nat} {n2 : Nat} {v3 : Int32} (h1 : shX0 X a1) (h2 : X.1 a2 = (2, n2)) {N : Nat} {I : MI} {L : ML} {z : Int32} (hf : f_X4_cheapestColumn N a1 a2 n2 v3 I = some z) : Con G mX4_cheapestColumn yX4_cheapestColumn rmX4_cheapestColumn (fun B => [.ref (B + 91), .ref (B + a1), .ref (B + a2), .int v3]) X I L (some (.int z)) X I L :=
  Con.of (by decide) rfl (fun h => by cases h) (fun B => Nat.le_of_ble_eq_true rfl) (fun G => kb_X4_cheapestColumn hM h1 h2 hf (fun _ he => by cases he; rfl))
-- X4_columnInStand ('RookWords$Rooks', 'columnInStand', '(III)I')
def rmX4_columnInStand : RM := ((0, 0, 0, 0), false, (some FieldType.int))
def f_X4_columnInStand_b7 (N : Nat) (v1 : Int32) (v2 : Int32) (v3 : Int32) (v4 : Int32) : Option ((Int32 × Int32) ⊕ (Int32)) := (if v2 < v4 then if (v1 + 1) = 0 then none else some (.inl (v3 / (v1 + 1), v4 + (-1))) else some (.inr v3))
set_option maxRecDepth 100000 in
set_option maxHeartbeats 4000000 in
theorem k_X4_columnInStand_b7 {G : GX} {Q : State → Prop} {X : MX} {v1 : Int32} {v2 : Int32}  {v3 : Int32} {v4 : Int32} {N : Nat} {I : MI} {L : ML} {out : (Int32 × Int32) ⊕ (Int32)} (hf : f_X4_columnInStand_b7 N v1 v2 v3 v4 = some out) (hC : ∀ (v3' : Int32) (v4' : Int32), out = .inl (v3', v4') → Ex G mX4_columnInStand rmX4_columnInStand Q (0, 0) X I L 7 [(1, .int v1), (2, .int v2), (3, .int v3'), (4, .int v4')] []) (hX : ∀ (w3 : Int32), out = .inr w3 → Ex G mX4_columnInStand rmX4_columnInStand Q (0, 0) X I L 25 [(1, .int v1), (3, .int w3)] []) : Ex G mX4_columnInStand rmX4_columnInStand Q (0, 0) X I L 7 [(1, .int v1), (2, .int v2), (3, .int v3), (4, .int v4)] [] := by
  unfold f_X4_columnInStand_b7 at hf
  refine ex_iload 3 (pc' := 9) dX4_columnInStand_7 rfl rfl ?_
  refine ex_iload_n 1 (pc' := 10) dX4_columnInStand_9 rfl rfl rfl ?_
  refine ex_icmple (tgt := 25) (pc' := 13) dX4_columnInStand_10 (by decide) rfl (fun hc1 => ?_) (fun hc1 => ?_)
  · replace hf := if_t hc1 hf
    refine ex_iload_n 2 (pc' := 14) dX4_columnInStand_13 rfl rfl rfl ?_
    refine ex_iload_n 0 (pc' := 15) dX4_columnInStand_14 rfl rfl rfl ?_
    refine ex_iconst (v := 1) (pc' := 16) dX4_columnInStand_15 ic_1 rfl ?_
    refine ex_iadd (pc' := 17) dX4_columnInStand_16 rfl ?_
    obtain ⟨hg2, hf⟩ := of_guardN hf
    refine ex_idiv (pc' := 18) dX4_columnInStand_17 hg2 rfl ?_
    refine ex_istore_n (lv' := [(3, .int (v3 / (v1 + 1))), (1, .int v1), (2, .int v2), (4, .int v4)]) (pc' := 19) dX4_columnInStand_18 rfl (Nat.le_of_ble_eq_true rfl) rfl rfl ?_
    refine ex_iincc (lv' := [(4, .int (v4 + (-1))), (3, .int (v3 / (v1 + 1))), (1, .int v1), (2, .int v2)]) 3 (pc' := 22) dX4_columnInStand_19 rfl ic_m1 (Nat.le_of_ble_eq_true rfl) rfl rfl ?_
    refine ex_goto (tgt := 7) dX4_columnInStand_22 (by decide) ?_
    exact ex_sub [2, 3, 1, 0] rfl (hC _ _ (Option.some.inj hf).symm)
  · replace hf := if_f hc1 hf
    exact ex_sub [0, 2] rfl (hX _ (Option.some.inj hf).symm)
def f_X4_columnInStand_l7 (N : Nat) (v1 : Int32) (v2 : Int32) (v3 : Int32) (v4 : Int32) : Option (Int32) := loopN (fun s => f_X4_columnInStand_b7 N v1 v2 s.1 s.2) N (v3, v4)
set_option maxRecDepth 100000 in
set_option maxHeartbeats 4000000 in
theorem k_X4_columnInStand_l7 {G : GX} {Q : State → Prop} {X : MX} {v1 : Int32} {v2 : Int32}  {N0 : Nat} {I : MI} {L : ML} {out : (Int32)} (hX : ∀ (w3 : Int32), out = w3 → Ex G mX4_columnInStand rmX4_columnInStand Q (0, 0) X I L 25 [(1, .int v1), (3, .int w3)] []) : ∀ (N : Nat) (v3 : Int32) (v4 : Int32), loopN (fun s => f_X4_columnInStand_b7 N0 v1 v2 s.1 s.2) N (v3, v4) = some out → Ex G mX4_columnInStand rmX4_columnInStand Q (0, 0) X I L 7 [(1, .int v1), (2, .int v2), (3, .int v3), (4, .int v4)] [] := by
  intro N
  induction N with
  | zero => intro v3 v4 hf; exact absurd (loopN_zero hf) id
  | succ n ih =>
    intro v3 v4 hf
    rcases loopN_succ hf with ⟨s, hb, hl⟩ | hb
    · obtain ⟨v3', v4'⟩ := s
      refine k_X4_columnInStand_b7  hb (fun _ _ he => ?_) (fun _ he => by cases he)
      cases he
      exact ih v3' v4' hl
    · exact k_X4_columnInStand_b7  hb (fun _ _ he => by cases he) (fun x0 he => hX x0 (Sum.inr.inj he))
def f_X4_columnInStand (N : Nat) (v0 : Int32) (v1 : Int32) (v2 : Int32) : Option (Int32) := bnd1 (f_X4_columnInStand_l7 N v1 v2 v0 (v1 - 1)) fun x3 => if (v1 + 1) = 0 then none else (if (jrem x3 (v1 + 1)) = v1 then some (-1) else some (jrem x3 (v1 + 1)))
set_option maxRecDepth 100000 in
set_option maxHeartbeats 4000000 in
theorem kb_X4_columnInStand {G : GX} {Q : State → Prop} {X : MX} {v0 : Int32} {v1 : Int32} {v2 : Int32}  {N : Nat} {I : MI} {L : ML} {out : Int32} (hf : f_X4_columnInStand N v0 v1 v2 = some out) (hR : ∀ (z : Int32), out = z → Q = RetQ G (some (.int z)) X I L (0, 0)) : Ex G mX4_columnInStand rmX4_columnInStand Q (0, 0) X I L 0 [(0, .int v0), (1, .int v1), (2, .int v2)] [] := by
  unfold f_X4_columnInStand at hf
  refine ex_iload_n 0 (pc' := 1) dX4_columnInStand_0 rfl rfl rfl ?_
  refine ex_istore_n (lv' := [(3, .int v0), (0, .int v0), (1, .int v1), (2, .int v2)]) (pc' := 2) dX4_columnInStand_1 rfl (Nat.le_of_ble_eq_true rfl) rfl rfl ?_
  refine ex_iload_n 2 (pc' := 3) dX4_columnInStand_2 rfl rfl rfl ?_
  refine ex_iconst (v := 1) (pc' := 4) dX4_columnInStand_3 ic_1 rfl ?_
  refine ex_isub (pc' := 5) dX4_columnInStand_4 rfl ?_
  refine ex_istore (lv' := [(4, .int (v1 - 1)), (3, .int v0), (0, .int v0), (1, .int v1), (2, .int v2)]) (pc' := 7) dX4_columnInStand_5 (Nat.le_of_ble_eq_true rfl) rfl rfl ?_
  refine ex_sub (lv' := [(1, .int v1), (2, .int v2), (3, .int v0), (4, .int (v1 - 1))]) [3, 4, 1, 0] rfl ?_
  obtain ⟨x3, hq4, hf⟩ := of_bnd1 hf
  refine k_X4_columnInStand_l7 (fun x3' he => ?_) _ _ _ hq4
  cases he
  refine ex_iload_n 1 (pc' := 26) dX4_columnInStand_25 rfl rfl rfl ?_
  refine ex_iload_n 0 (pc' := 27) dX4_columnInStand_26 rfl rfl rfl ?_
  refine ex_iconst (v := 1) (pc' := 28) dX4_columnInStand_27 ic_1 rfl ?_
  refine ex_iadd (pc' := 29) dX4_columnInStand_28 rfl ?_
  obtain ⟨hg5, hf⟩ := of_guardN hf
  refine ex_irem (pc' := 30) dX4_columnInStand_29 hg5 rfl ?_
  refine ex_istore (lv' := [(4, .int (jrem x3 (v1 + 1))), (1, .int v1), (3, .int x3)]) (pc' := 32) dX4_columnInStand_30 (Nat.le_of_ble_eq_true rfl) rfl rfl ?_
  refine ex_iload 0 (pc' := 34) dX4_columnInStand_32 rfl rfl ?_
  refine ex_iload_n 1 (pc' := 35) dX4_columnInStand_34 rfl rfl rfl ?_
  refine ex_icmpne (tgt := 42) (pc' := 38) dX4_columnInStand_35 (by decide) rfl (fun hc6 => ?_) (fun hc6 => ?_)
  · replace hf := if_t hc6 hf
    refine ex_iconst (v := (-1)) (pc' := 39) dX4_columnInStand_38 ic_m1 rfl ?_
    refine ex_goto (tgt := 44) dX4_columnInStand_39 (by decide) ?_
    exact ex_iret dX4_columnInStand_44 rfl (hR _ (Option.some.inj hf).symm)
  · replace hf := if_f hc6 hf
    refine ex_iload 0 (pc' := 44) dX4_columnInStand_42 rfl rfl ?_
    exact ex_iret dX4_columnInStand_44 rfl (hR _ (Option.some.inj hf).symm)
set_option maxRecDepth 100000 in
set_option maxHeartbeats 4000000 in
theorem k_X4_columnInStand (G : GX) {X : MX} {v0 : Int32} {v1 : Int32} {v2 : Int32}  {N : Nat} {I : MI} {L : ML} {z : Int32} (hf : f_X4_columnInStand N v0 v1 v2 = some z) : Con G mX4_columnInStand yX4_columnInStand rmX4_columnInStand (fun B => [.int v0, .int v1, .int v2]) X I L (some (.int z)) X I L :=
  Con.of (by decide) rfl (fun h => by cases h) (fun B => Nat.le_of_ble_eq_true rfl) (fun G => kb_X4_columnInStand  hf (fun _ he => by cases he; rfl))
theorem fl_X4_49 : FLD RX4 49 0 1 true := ⟨RX0, TX0, 2, rfl, inX0, by decide, lwg_at 130 (by decide +kernel) rfl, nmX0, tyX0_ok, rfl, rfl⟩
theorem fl_X4_11 : FLD RX4 11 4 0 true := ⟨RX4, TX4, 5, rfl, inX4, by decide, lwg_at 256 (by decide +kernel) rfl, nmX4, tyX4_ok, rfl, rfl⟩
-- X4_placeOne ('RookWords$Rooks', 'placeOne', '(LRookWords$Board;II)V')
def rmX4_placeOne : RM := ((0, 0, 0, 0), false, none)
def f_X4_placeOne_b15 (N : Nat) (a1 : Nat) (v3 : Int32) (v4 : Int32) (v5 : Int32) (I : MI) : Option ((Int32 × MI) ⊕ (MI)) := (if v5 < (I a1 0) then (if ((jshr v4 v5) &&& 1) = 0 then some (.inl (v5 + 1, I)) else if inb (v3 ||| (jshl 1 v5)) 64 then if inb v3 64 then if inb (v3 ||| (jshl 1 v5)) 64 then letv (upI I 92 (Int32.toNatClampNeg (v3 ||| (jshl 1 v5))) ((I 92 (Int32.toNatClampNeg (v3 ||| (jshl 1 v5)))) + (I 92 (Int32.toNatClampNeg v3)))) fun I8 => some (.inl (v5 + 1, I8)) else none else none else none) else some (.inr I))
set_option maxRecDepth 100000 in
set_option maxHeartbeats 4000000 in
theorem k_X4_placeOne_b15 {G : GX} {Q : State → Prop} {X : MX} (hM : shX10 X) {a1 : Nat} {v3 : Int32} {v4 : Int32} (h1 : shX0 X a1) {v5 : Int32} {N : Nat} {I : MI} {L : ML} {out : (Int32 × MI) ⊕ (MI)} (hf : f_X4_placeOne_b15 N a1 v3 v4 v5 I = some out) (hC : ∀ (v5' : Int32) (I' : MI), out = .inl (v5', I') → Ex G mX4_placeOne rmX4_placeOne Q (0, 0) X I' L 15 [(0, .ref (gB G + 91)), (1, .ref (gB G + a1)), (3, .int v3), (4, .int v4), (5, .int v5')] []) (hX : ∀ (I' : MI), out = .inr I' → Ex G mX4_placeOne rmX4_placeOne Q (0, 0) X I' L 60 [] []) : Ex G mX4_placeOne rmX4_placeOne Q (0, 0) X I L 15 [(0, .ref (gB G + 91)), (1, .ref (gB G + a1)), (3, .int v3), (4, .int v4), (5, .int v5)] [] := by
  unfold f_X4_placeOne_b15 at hf
  refine ex_iload 4 (pc' := 17) dX4_placeOne_15 rfl rfl ?_
  refine ex_aload_n 1 (pc' := 18) dX4_placeOne_17 rfl rfl rfl ?_
  refine ex_getI (pc' := 21) dX4_placeOne_18 fl_X4_27 rfl (sh0_k h1) rfl ?_
  refine ex_icmpge (tgt := 60) (pc' := 24) dX4_placeOne_21 (by decide) rfl (fun hc3 => ?_) (fun hc3 => ?_)
  · replace hf := if_t hc3 hf
    refine ex_iload 3 (pc' := 26) dX4_placeOne_24 rfl rfl ?_
    refine ex_iload 4 (pc' := 28) dX4_placeOne_26 rfl rfl ?_
    refine ex_ishr (pc' := 29) dX4_placeOne_28 rfl ?_
    refine ex_iconst (v := 1) (pc' := 30) dX4_placeOne_29 ic_1 rfl ?_
    refine ex_iand (pc' := 31) dX4_placeOne_30 rfl ?_
    refine ex_ifeq (tgt := 54) (pc' := 34) dX4_placeOne_31 (by decide) rfl (fun hc4 => ?_) (fun hc4 => ?_)
    · replace hf := if_t hc4 hf
      refine ex_iincc (lv' := [(5, .int (v5 + 1)), (0, .ref (gB G + 91)), (1, .ref (gB G + a1)), (3, .int v3), (4, .int v4)]) 4 (pc' := 57) dX4_placeOne_54 rfl ic_1 (Nat.le_of_ble_eq_true rfl) rfl rfl ?_
      refine ex_goto (tgt := 15) dX4_placeOne_57 (by decide) ?_
      exact ex_sub [1, 2, 3, 4, 0] rfl (hC _ _ (Option.some.inj hf).symm)
    · replace hf := if_f hc4 hf
      refine ex_aload_n 0 (pc' := 35) dX4_placeOne_34 rfl rfl rfl ?_
      refine ex_getR (pc' := 38) dX4_placeOne_35 fl_X4_11 rfl (sh4_k (sh10_T7 hM)) (sh4_F0 (sh10_T7 hM)) rfl ?_
      refine ex_iload_n 2 (pc' := 39) dX4_placeOne_38 rfl rfl rfl ?_
      refine ex_iconst (v := 1) (pc' := 40) dX4_placeOne_39 ic_1 rfl ?_
      refine ex_iload 4 (pc' := 42) dX4_placeOne_40 rfl rfl ?_
      refine ex_ishl (pc' := 43) dX4_placeOne_42 rfl ?_
      refine ex_ior (pc' := 44) dX4_placeOne_43 rfl ?_
      refine ex_dup2 (pc' := 45) dX4_placeOne_44 rfl rfl rfl ?_
      obtain ⟨hg5, hf⟩ := of_guard hf
      refine ex_iald (pc' := 46) dX4_placeOne_45 (sh4_T0 (sh10_T7 hM)) (inb_in hg5) rfl ?_
      refine ex_aload_n 0 (pc' := 47) dX4_placeOne_46 rfl rfl rfl ?_
      refine ex_getR (pc' := 50) dX4_placeOne_47 fl_X4_11 rfl (sh4_k (sh10_T7 hM)) (sh4_F0 (sh10_T7 hM)) rfl ?_
      refine ex_iload_n 2 (pc' := 51) dX4_placeOne_50 rfl rfl rfl ?_
      obtain ⟨hg6, hf⟩ := of_guard hf
      refine ex_iald (pc' := 52) dX4_placeOne_51 (sh4_T0 (sh10_T7 hM)) (inb_in hg6) rfl ?_
      refine ex_iadd (pc' := 53) dX4_placeOne_52 rfl ?_
      obtain ⟨hg7, hf⟩ := of_guard hf
      refine ex_iast (pc' := 54) dX4_placeOne_53 (sh4_T0 (sh10_T7 hM)) (inb_in hg7) rfl ?_
      obtain ⟨I8, hI8, hf⟩ := of_let hf
      rw [← hI8]
      refine ex_iincc (lv' := [(5, .int (v5 + 1)), (0, .ref (gB G + 91)), (1, .ref (gB G + a1)), (3, .int v3), (4, .int v4)]) 4 (pc' := 57) dX4_placeOne_54 rfl ic_1 (Nat.le_of_ble_eq_true rfl) rfl rfl ?_
      refine ex_goto (tgt := 15) dX4_placeOne_57 (by decide) ?_
      exact ex_sub [1, 2, 3, 4, 0] rfl (hC _ _ (Option.some.inj hf).symm)
  · replace hf := if_f hc3 hf
    exact ex_sub [] rfl (hX _ (Option.some.inj hf).symm)
def f_X4_placeOne_l15 (N : Nat) (a1 : Nat) (v3 : Int32) (v4 : Int32) (v5 : Int32) (I : MI) : Option (MI) := loopN (fun s => f_X4_placeOne_b15 N a1 v3 v4 s.1 s.2) N (v5, I)
set_option maxRecDepth 100000 in
set_option maxHeartbeats 4000000 in
theorem k_X4_placeOne_l15 {G : GX} {Q : State → Prop} {X : MX} (hM : shX10 X) {a1 : Nat} {v3 : Int32} {v4 : Int32} (h1 : shX0 X a1) {N0 : Nat} {L : ML} {out : (MI)} (hX : ∀ (I' : MI), out = I' → Ex G mX4_placeOne rmX4_placeOne Q (0, 0) X I' L 60 [] []) : ∀ (N : Nat) (v5 : Int32) (I : MI), loopN (fun s => f_X4_placeOne_b15 N0 a1 v3 v4 s.1 s.2) N (v5, I) = some out → Ex G mX4_placeOne rmX4_placeOne Q (0, 0) X I L 15 [(0, .ref (gB G + 91)), (1, .ref (gB G + a1)), (3, .int v3), (4, .int v4), (5, .int v5)] [] := by
  intro N
  induction N with
  | zero => intro v5 I hf; exact absurd (loopN_zero hf) id
  | succ n ih =>
    intro v5 I hf
    rcases loopN_succ hf with ⟨s, hb, hl⟩ | hb
    · obtain ⟨v5', I'⟩ := s
      refine k_X4_placeOne_b15 hM h1 hb (fun _ _ he => ?_) (fun _ he => by cases he)
      cases he
      exact ih v5' I' hl
    · exact k_X4_placeOne_b15 hM h1 hb (fun _ _ he => by cases he) (fun x0 he => hX x0 (Sum.inr.inj he))
def f_X4_placeOne (N : Nat) (a1 : Nat) (v2 : Int32) (v3 : Int32) (I : MI) : Option (MI) := if inb v2 6 then letv ((I (a1 + 1) (Int32.toNatClampNeg v2)) &&& (v3 ^^^ (-1))) fun x2 => bnd1 (f_X4_placeOne_l15 N a1 v3 x2 0 I) fun I9 => some I9 else none
set_option maxRecDepth 100000 in
set_option maxHeartbeats 4000000 in
theorem kb_X4_placeOne {G : GX} {Q : State → Prop} {X : MX} (hM : shX10 X) {a1 : Nat} {v2 : Int32} {v3 : Int32} (h1 : shX0 X a1) {N : Nat} {I : MI} {L : ML} {out : MI} (hf : f_X4_placeOne N a1 v2 v3 I = some out) (hR : ∀ (I' : MI), out = I' → Q = RetQ G none X I' L (0, 0)) : Ex G mX4_placeOne rmX4_placeOne Q (0, 0) X I L 0 [(0, .ref (gB G + 91)), (1, .ref (gB G + a1)), (2, .int v2), (3, .int v3)] [] := by
  unfold f_X4_placeOne at hf
  refine ex_aload_n 1 (pc' := 1) dX4_placeOne_0 rfl rfl rfl ?_
  refine ex_getR (pc' := 4) dX4_placeOne_1 fl_X4_49 rfl (sh0_k h1) (sh0_F1 h1) rfl ?_
  refine ex_iload_n 2 (pc' := 5) dX4_placeOne_4 rfl rfl rfl ?_
  obtain ⟨hg1, hf⟩ := of_guard hf
  refine ex_iald (pc' := 6) dX4_placeOne_5 (sh0_T1 h1) (inb_in hg1) rfl ?_
  refine ex_iload_n 3 (pc' := 7) dX4_placeOne_6 rfl rfl rfl ?_
  refine ex_iconst (v := (-1)) (pc' := 8) dX4_placeOne_7 ic_m1 rfl ?_
  refine ex_ixor (pc' := 9) dX4_placeOne_8 rfl ?_
  refine ex_iand (pc' := 10) dX4_placeOne_9 rfl ?_
  obtain ⟨x2, hx2, hf⟩ := of_let hf
  rw [← hx2]
  refine ex_istore (lv' := [(4, .int x2), (0, .ref (gB G + 91)), (1, .ref (gB G + a1)), (2, .int v2), (3, .int v3)]) (pc' := 12) dX4_placeOne_10 (Nat.le_of_ble_eq_true rfl) rfl rfl ?_
  refine ex_iconst (v := 0) (pc' := 13) dX4_placeOne_12 ic_0 rfl ?_
  refine ex_istore (lv' := [(5, .int 0), (4, .int x2), (0, .ref (gB G + 91)), (1, .ref (gB G + a1)), (2, .int v2), (3, .int v3)]) (pc' := 15) dX4_placeOne_13 (Nat.le_of_ble_eq_true rfl) rfl rfl ?_
  refine ex_sub (lv' := [(0, .ref (gB G + 91)), (1, .ref (gB G + a1)), (3, .int v3), (4, .int x2), (5, .int 0)]) [2, 3, 5, 1, 0] rfl ?_
  obtain ⟨I9, hq10, hf⟩ := of_bnd1 hf
  refine k_X4_placeOne_l15 hM h1 (fun I9' he => ?_) _ _ _ hq10
  cases he
  exact ex_vret dX4_placeOne_60 rfl (hR _ (Option.some.inj hf).symm)
set_option maxRecDepth 100000 in
set_option maxHeartbeats 4000000 in
theorem k_X4_placeOne (G : GX) {X : MX} (hM : shX10 X) {a1 : Nat} {v2 : Int32} {v3 : Int32} (h1 : shX0 X a1) {N : Nat} {I : MI} {L : ML} {I' : MI} (hf : f_X4_placeOne N a1 v2 v3 I = some I') : Con G mX4_placeOne yX4_placeOne rmX4_placeOne (fun B => [.ref (B + 91), .ref (B + a1), .int v2, .int v3]) X I L none X I' L :=
  Con.of (by decide) rfl (fun h => by cases h) (fun B => Nat.le_of_ble_eq_true rfl) (fun G => kb_X4_placeOne hM h1 hf (fun _ he => by cases he; rfl))
theorem cl_X4_33 : CLS RX4 33 yJ7_fill_53178 mJ7_fill_53178 none 2 := ⟨⟨lwg_at 644 (by decide +kernel) rfl, lwg_at 138 (by decide +kernel) rfl, lwg_at 55 (by decide +kernel) rfl⟩, lwg_at 139 (by decide +kernel) rfl, ⟨by decide +kernel, by decide +kernel, by decide +kernel⟩⟩
theorem cl_X4_39 : CLV RX4 39 yX4_placeOne mX4_placeOne none 3 := ⟨⟨lwg_at 645 (by decide +kernel) rfl, lwg_at 647 (by decide +kernel) rfl, lwg_at 10 (by decide +kernel) rfl, lwg_at 60 (by decide +kernel) rfl⟩, lwg_at 648 (by decide +kernel) rfl, ⟨by decide +kernel, by decide +kernel, by decide +kernel⟩⟩
theorem fl_X4_15 : FLD RX4 15 4 1 true := ⟨RX4, TX4, 5, rfl, inX4, by decide, lwg_at 257 (by decide +kernel) rfl, nmX4, tyX4_ok, rfl, rfl⟩
theorem cl_X4_43 : CLS RX4 43 yJ6_bitCount_0f7a4 mJ6_bitCount_0f7a4 (some FieldType.int) 1 := ⟨⟨lwg_at 649 (by decide +kernel) rfl, lwg_at 492 (by decide +kernel) rfl, lwg_at 64 (by decide +kernel) rfl⟩, lwg_at 493 (by decide +kernel) rfl, ⟨by decide +kernel, by decide +kernel, by decide +kernel⟩⟩
-- X4_countsOf ('RookWords$Rooks', 'countsOf', '(LRookWords$Board;)[I')
def rmX4_countsOf : RM := ((1, 25, 0, 0), false, (some (FieldType.array FieldType.int)))
def f_X4_countsOf_b37 (N : Nat) (a1 : Nat) (v2 : Int32) (v3 : Int32) (v4 : Int32) (I : MI) : Option ((Int32 × MI) ⊕ (MI)) := (if v4 < 0 then some (.inr I) else if inb v4 64 then (if (I 92 (Int32.toNatClampNeg v4)) = 0 then some (.inl (v4 + (-1), I)) else bnd1 (f_X4_placeOne N a1 v3 v4 I) fun I9 => some (.inl (v4 + (-1), I9))) else none)
set_option maxRecDepth 100000 in
set_option maxHeartbeats 4000000 in
theorem k_X4_countsOf_b37 {G : GX} {Q : State → Prop} {X : MX} (hM : shX10 X) {a1 : Nat} {v2 : Int32} {v3 : Int32} (h1 : shX0 X a1) {v4 : Int32} {N : Nat} {I : MI} {L : ML} {out : (Int32 × MI) ⊕ (MI)} (hf : f_X4_countsOf_b37 N a1 v2 v3 v4 I = some out) (hC : ∀ (v4' : Int32) (I' : MI), out = .inl (v4', I') → Ex G mX4_countsOf rmX4_countsOf Q (0, 0) X I' L 37 [(0, .ref (gB G + 91)), (1, .ref (gB G + a1)), (2, .int v2), (3, .int v3), (4, .int v4')] []) (hX : ∀ (I' : MI), out = .inr I' → Ex G mX4_countsOf rmX4_countsOf Q (0, 0) X I' L 66 [(0, .ref (gB G + 91)), (1, .ref (gB G + a1)), (2, .int v2), (3, .int v3)] []) : Ex G mX4_countsOf rmX4_countsOf Q (0, 0) X I L 37 [(0, .ref (gB G + 91)), (1, .ref (gB G + a1)), (2, .int v2), (3, .int v3), (4, .int v4)] [] := by
  unfold f_X4_countsOf_b37 at hf
  refine ex_iload 4 (pc' := 39) dX4_countsOf_37 rfl rfl ?_
  refine ex_iflt (tgt := 66) (pc' := 42) dX4_countsOf_39 (by decide) rfl (fun hc6 => ?_) (fun hc6 => ?_)
  · replace hf := if_t hc6 hf
    exact ex_sub [0, 1, 2, 3] rfl (hX _ (Option.some.inj hf).symm)
  · replace hf := if_f hc6 hf
    refine ex_aload_n 0 (pc' := 43) dX4_countsOf_42 rfl rfl rfl ?_
    refine ex_getR (pc' := 46) dX4_countsOf_43 fl_X4_11 rfl (sh4_k (sh10_T7 hM)) (sh4_F0 (sh10_T7 hM)) rfl ?_
    refine ex_iload 4 (pc' := 48) dX4_countsOf_46 rfl rfl ?_
    obtain ⟨hg7, hf⟩ := of_guard hf
    refine ex_iald (pc' := 49) dX4_countsOf_48 (sh4_T0 (sh10_T7 hM)) (inb_in hg7) rfl ?_
    refine ex_ifeq (tgt := 60) (pc' := 52) dX4_countsOf_49 (by decide) rfl (fun hc8 => ?_) (fun hc8 => ?_)
    · replace hf := if_t hc8 hf
      refine ex_iincc (lv' := [(4, .int (v4 + (-1))), (0, .ref (gB G + 91)), (1, .ref (gB G + a1)), (2, .int v2), (3, .int v3)]) 4 (pc' := 63) dX4_countsOf_60 rfl ic_m1 (Nat.le_of_ble_eq_true rfl) rfl rfl ?_
      refine ex_goto (tgt := 37) dX4_countsOf_63 (by decide) ?_
      exact ex_sub [1, 2, 3, 4, 0] rfl (hC _ _ (Option.some.inj hf).symm)
    · replace hf := if_f hc8 hf
      refine ex_aload_n 0 (pc' := 53) dX4_countsOf_52 rfl rfl rfl ?_
      refine ex_aload_n 1 (pc' := 54) dX4_countsOf_53 rfl rfl rfl ?_
      refine ex_iload_n 3 (pc' := 55) dX4_countsOf_54 rfl rfl rfl ?_
      refine ex_iload 4 (pc' := 57) dX4_countsOf_55 rfl rfl ?_
      obtain ⟨I9, hq10, hf⟩ := of_bnd1 hf
      refine ex_callV_v (rm' := rmX4_placeOne) (st := []) (pc' := 60) [.ref (gB G + a1), .int v3, .int v4] dX4_countsOf_57 cl_X4_39 (k_X4_placeOne G hM h1 hq10) rfl (sh4_k (sh10_T7 hM)) ⟨_, _, rfl⟩ rfl rfl (ROOM_of rfl) (Nat.le_of_ble_eq_true rfl) rfl rfl ?_
      refine ex_iincc (lv' := [(4, .int (v4 + (-1))), (0, .ref (gB G + 91)), (1, .ref (gB G + a1)), (2, .int v2), (3, .int v3)]) 4 (pc' := 63) dX4_countsOf_60 rfl ic_m1 (Nat.le_of_ble_eq_true rfl) rfl rfl ?_
      refine ex_goto (tgt := 37) dX4_countsOf_63 (by decide) ?_
      exact ex_sub [1, 2, 3, 4, 0] rfl (hC _ _ (Option.some.inj hf).symm)
def f_X4_countsOf_l37 (N : Nat) (a1 : Nat) (v2 : Int32) (v3 : Int32) (v4 : Int32) (I : MI) : Option (MI) := loopN (fun s => f_X4_countsOf_b37 N a1 v2 v3 s.1 s.2) N (v4, I)
set_option maxRecDepth 100000 in
set_option maxHeartbeats 4000000 in
theorem k_X4_countsOf_l37 {G : GX} {Q : State → Prop} {X : MX} (hM : shX10 X) {a1 : Nat} {v2 : Int32} {v3 : Int32} (h1 : shX0 X a1) {N0 : Nat} {L : ML} {out : (MI)} (hX : ∀ (I' : MI), out = I' → Ex G mX4_countsOf rmX4_countsOf Q (0, 0) X I' L 66 [(0, .ref (gB G + 91)), (1, .ref (gB G + a1)), (2, .int v2), (3, .int v3)] []) : ∀ (N : Nat) (v4 : Int32) (I : MI), loopN (fun s => f_X4_countsOf_b37 N0 a1 v2 v3 s.1 s.2) N (v4, I) = some out → Ex G mX4_countsOf rmX4_countsOf Q (0, 0) X I L 37 [(0, .ref (gB G + 91)), (1, .ref (gB G + a1)), (2, .int v2), (3, .int v3), (4, .int v4)] [] := by
  intro N
  induction N with
  | zero => intro v4 I hf; exact absurd (loopN_zero hf) id
  | succ n ih =>
    intro v4 I hf
    rcases loopN_succ hf with ⟨s, hb, hl⟩ | hb
    · obtain ⟨v4', I'⟩ := s
      refine k_X4_countsOf_b37 hM h1 hb (fun _ _ he => ?_) (fun _ he => by cases he)
      cases he
      exact ih v4' I' hl
    · exact k_X4_countsOf_b37 hM h1 hb (fun _ _ he => by cases he) (fun x0 he => hX x0 (Sum.inr.inj he))
def f_X4_countsOf_b24 (N : Nat) (a1 : Nat) (v2 : Int32) (v3 : Int32) (I : MI) : Option ((Int32 × MI) ⊕ (MI)) := (if v3 < (I a1 0) then bnd1 (f_X4_countsOf_l37 N a1 v2 v3 (v2 - 1) I) fun I11 => some (.inl (v3 + 1, I11)) else some (.inr I))
set_option maxRecDepth 100000 in
set_option maxHeartbeats 4000000 in
theorem k_X4_countsOf_b24 {G : GX} {Q : State → Prop} {X : MX} (hM : shX10 X) {a1 : Nat} {v2 : Int32} (h1 : shX0 X a1) {v3 : Int32} {N : Nat} {I : MI} {L : ML} {out : (Int32 × MI) ⊕ (MI)} (hf : f_X4_countsOf_b24 N a1 v2 v3 I = some out) (hC : ∀ (v3' : Int32) (I' : MI), out = .inl (v3', I') → Ex G mX4_countsOf rmX4_countsOf Q (0, 0) X I' L 24 [(0, .ref (gB G + 91)), (1, .ref (gB G + a1)), (2, .int v2), (3, .int v3')] []) (hX : ∀ (I' : MI), out = .inr I' → Ex G mX4_countsOf rmX4_countsOf Q (0, 0) X I' L 72 [(0, .ref (gB G + 91)), (2, .int v2)] []) : Ex G mX4_countsOf rmX4_countsOf Q (0, 0) X I L 24 [(0, .ref (gB G + 91)), (1, .ref (gB G + a1)), (2, .int v2), (3, .int v3)] [] := by
  unfold f_X4_countsOf_b24 at hf
  refine ex_iload_n 3 (pc' := 25) dX4_countsOf_24 rfl rfl rfl ?_
  refine ex_aload_n 1 (pc' := 26) dX4_countsOf_25 rfl rfl rfl ?_
  refine ex_getI (pc' := 29) dX4_countsOf_26 fl_X4_27 rfl (sh0_k h1) rfl ?_
  refine ex_icmpge (tgt := 72) (pc' := 32) dX4_countsOf_29 (by decide) rfl (fun hc5 => ?_) (fun hc5 => ?_)
  · replace hf := if_t hc5 hf
    refine ex_iload_n 2 (pc' := 33) dX4_countsOf_32 rfl rfl rfl ?_
    refine ex_iconst (v := 1) (pc' := 34) dX4_countsOf_33 ic_1 rfl ?_
    refine ex_isub (pc' := 35) dX4_countsOf_34 rfl ?_
    refine ex_istore (lv' := [(4, .int (v2 - 1)), (0, .ref (gB G + 91)), (1, .ref (gB G + a1)), (2, .int v2), (3, .int v3)]) (pc' := 37) dX4_countsOf_35 (Nat.le_of_ble_eq_true rfl) rfl rfl ?_
    refine ex_sub (lv' := [(0, .ref (gB G + 91)), (1, .ref (gB G + a1)), (2, .int v2), (3, .int v3), (4, .int (v2 - 1))]) [1, 2, 3, 4, 0] rfl ?_
    obtain ⟨I11, hq12, hf⟩ := of_bnd1 hf
    refine k_X4_countsOf_l37 hM h1 (fun I11' he => ?_) _ _ _ hq12
    cases he
    refine ex_iincc (lv' := [(3, .int (v3 + 1)), (0, .ref (gB G + 91)), (1, .ref (gB G + a1)), (2, .int v2)]) 3 (pc' := 69) dX4_countsOf_66 rfl ic_1 (Nat.le_of_ble_eq_true rfl) rfl rfl ?_
    refine ex_goto (tgt := 24) dX4_countsOf_69 (by decide) ?_
    exact ex_sub [1, 2, 3, 0] rfl (hC _ _ (Option.some.inj hf).symm)
  · replace hf := if_f hc5 hf
    exact ex_sub [0, 2] rfl (hX _ (Option.some.inj hf).symm)
def f_X4_countsOf_l24 (N : Nat) (a1 : Nat) (v2 : Int32) (v3 : Int32) (I : MI) : Option (MI) := loopN (fun s => f_X4_countsOf_b24 N a1 v2 s.1 s.2) N (v3, I)
set_option maxRecDepth 100000 in
set_option maxHeartbeats 4000000 in
theorem k_X4_countsOf_l24 {G : GX} {Q : State → Prop} {X : MX} (hM : shX10 X) {a1 : Nat} {v2 : Int32} (h1 : shX0 X a1) {N0 : Nat} {L : ML} {out : (MI)} (hX : ∀ (I' : MI), out = I' → Ex G mX4_countsOf rmX4_countsOf Q (0, 0) X I' L 72 [(0, .ref (gB G + 91)), (2, .int v2)] []) : ∀ (N : Nat) (v3 : Int32) (I : MI), loopN (fun s => f_X4_countsOf_b24 N0 a1 v2 s.1 s.2) N (v3, I) = some out → Ex G mX4_countsOf rmX4_countsOf Q (0, 0) X I L 24 [(0, .ref (gB G + 91)), (1, .ref (gB G + a1)), (2, .int v2), (3, .int v3)] [] := by
  intro N
  induction N with
  | zero => intro v3 I hf; exact absurd (loopN_zero hf) id
  | succ n ih =>
    intro v3 I hf
    rcases loopN_succ hf with ⟨s, hb, hl⟩ | hb
    · obtain ⟨v3', I'⟩ := s
      refine k_X4_countsOf_b24 hM h1 hb (fun _ _ he => ?_) (fun _ he => by cases he)
      cases he
      exact ih v3' I' hl
    · exact k_X4_countsOf_b24 hM h1 hb (fun _ _ he => by cases he) (fun x0 he => hX x0 (Sum.inr.inj he))
def f_X4_countsOf_b82 (N : Nat) (v2 : Int32) (v3 : Int32) (I : MI) : Option ((Int32 × MI) ⊕ (MI)) := (if v3 < v2 then bnd1 (f_J6_bitCount_0f7a4 v3) fun r18 => if inb r18 7 then if inb v3 64 then if inb r18 7 then letv (upI I 93 (Int32.toNatClampNeg r18) ((I 93 (Int32.toNatClampNeg r18)) + (I 92 (Int32.toNatClampNeg v3)))) fun I23 => some (.inl (v3 + 1, I23)) else none else none else none else some (.inr I))
set_option maxRecDepth 100000 in
set_option maxHeartbeats 4000000 in
theorem k_X4_countsOf_b82 {G : GX} {Q : State → Prop} {X : MX} (hM : shX10 X) {v2 : Int32}  {v3 : Int32} {N : Nat} {I : MI} {L : ML} {out : (Int32 × MI) ⊕ (MI)} (hf : f_X4_countsOf_b82 N v2 v3 I = some out) (hC : ∀ (v3' : Int32) (I' : MI), out = .inl (v3', I') → Ex G mX4_countsOf rmX4_countsOf Q (0, 0) X I' L 82 [(0, .ref (gB G + 91)), (2, .int v2), (3, .int v3')] []) (hX : ∀ (I' : MI), out = .inr I' → Ex G mX4_countsOf rmX4_countsOf Q (0, 0) X I' L 111 [(0, .ref (gB G + 91))] []) : Ex G mX4_countsOf rmX4_countsOf Q (0, 0) X I L 82 [(0, .ref (gB G + 91)), (2, .int v2), (3, .int v3)] [] := by
  unfold f_X4_countsOf_b82 at hf
  refine ex_iload_n 2 (pc' := 83) dX4_countsOf_82 rfl rfl rfl ?_
  refine ex_iload_n 1 (pc' := 84) dX4_countsOf_83 rfl rfl rfl ?_
  refine ex_icmpge (tgt := 111) (pc' := 87) dX4_countsOf_84 (by decide) rfl (fun hc17 => ?_) (fun hc17 => ?_)
  · replace hf := if_t hc17 hf
    refine ex_aload_n 0 (pc' := 88) dX4_countsOf_87 rfl rfl rfl ?_
    refine ex_getR (pc' := 91) dX4_countsOf_88 fl_X4_15 rfl (sh4_k (sh10_T7 hM)) (sh4_F1 (sh10_T7 hM)) rfl ?_
    refine ex_iload_n 2 (pc' := 92) dX4_countsOf_91 rfl rfl rfl ?_
    obtain ⟨r18, hq19, hf⟩ := of_bnd1 hf
    refine ex_callS_i (rm' := rmJ6_bitCount_0f7a4) (st := [.ref (gB G + 93)]) (pc' := 95) [.int v3] dX4_countsOf_92 cl_X4_43 (k_J6_bitCount_0f7a4 G hq19) rfl rfl rfl (ROOM_of rfl) (Nat.le_of_ble_eq_true rfl) rfl rfl ?_
    refine ex_dup2 (pc' := 96) dX4_countsOf_95 rfl rfl rfl ?_
    obtain ⟨hg20, hf⟩ := of_guard hf
    refine ex_iald (pc' := 97) dX4_countsOf_96 (sh4_T1 (sh10_T7 hM)) (inb_in hg20) rfl ?_
    refine ex_aload_n 0 (pc' := 98) dX4_countsOf_97 rfl rfl rfl ?_
    refine ex_getR (pc' := 101) dX4_countsOf_98 fl_X4_11 rfl (sh4_k (sh10_T7 hM)) (sh4_F0 (sh10_T7 hM)) rfl ?_
    refine ex_iload_n 2 (pc' := 102) dX4_countsOf_101 rfl rfl rfl ?_
    obtain ⟨hg21, hf⟩ := of_guard hf
    refine ex_iald (pc' := 103) dX4_countsOf_102 (sh4_T0 (sh10_T7 hM)) (inb_in hg21) rfl ?_
    refine ex_iadd (pc' := 104) dX4_countsOf_103 rfl ?_
    obtain ⟨hg22, hf⟩ := of_guard hf
    refine ex_iast (pc' := 105) dX4_countsOf_104 (sh4_T1 (sh10_T7 hM)) (inb_in hg22) rfl ?_
    obtain ⟨I23, hI23, hf⟩ := of_let hf
    rw [← hI23]
    refine ex_iincc (lv' := [(3, .int (v3 + 1)), (0, .ref (gB G + 91)), (2, .int v2)]) 2 (pc' := 108) dX4_countsOf_105 rfl ic_1 (Nat.le_of_ble_eq_true rfl) rfl rfl ?_
    refine ex_goto (tgt := 82) dX4_countsOf_108 (by decide) ?_
    exact ex_sub [1, 2, 0] rfl (hC _ _ (Option.some.inj hf).symm)
  · replace hf := if_f hc17 hf
    exact ex_sub [0] rfl (hX _ (Option.some.inj hf).symm)
def f_X4_countsOf_l82 (N : Nat) (v2 : Int32) (v3 : Int32) (I : MI) : Option (MI) := loopN (fun s => f_X4_countsOf_b82 N v2 s.1 s.2) N (v3, I)
set_option maxRecDepth 100000 in
set_option maxHeartbeats 4000000 in
theorem k_X4_countsOf_l82 {G : GX} {Q : State → Prop} {X : MX} (hM : shX10 X) {v2 : Int32}  {N0 : Nat} {L : ML} {out : (MI)} (hX : ∀ (I' : MI), out = I' → Ex G mX4_countsOf rmX4_countsOf Q (0, 0) X I' L 111 [(0, .ref (gB G + 91))] []) : ∀ (N : Nat) (v3 : Int32) (I : MI), loopN (fun s => f_X4_countsOf_b82 N0 v2 s.1 s.2) N (v3, I) = some out → Ex G mX4_countsOf rmX4_countsOf Q (0, 0) X I L 82 [(0, .ref (gB G + 91)), (2, .int v2), (3, .int v3)] [] := by
  intro N
  induction N with
  | zero => intro v3 I hf; exact absurd (loopN_zero hf) id
  | succ n ih =>
    intro v3 I hf
    rcases loopN_succ hf with ⟨s, hb, hl⟩ | hb
    · obtain ⟨v3', I'⟩ := s
      refine k_X4_countsOf_b82 hM  hb (fun _ _ he => ?_) (fun _ he => by cases he)
      cases he
      exact ih v3' I' hl
    · exact k_X4_countsOf_b82 hM  hb (fun _ _ he => by cases he) (fun x0 he => hX x0 (Sum.inr.inj he))
def f_X4_countsOf (N : Nat) (a1 : Nat) (I : MI) : Option (MI) := bnd1 (f_J7_fill_53178 N 92 64 0 I) fun I1 => if inb 0 64 then letv (upI I1 92 (Int32.toNatClampNeg 0) 1) fun I4 => bnd1 (f_X4_countsOf_l24 N a1 (jshl 1 (I a1 0)) 0 I4) fun I13 => bnd1 (f_J7_fill_53178 N 93 7 0 I13) fun I15 => bnd1 (f_X4_countsOf_l82 N (jshl 1 (I a1 0)) 0 I15) fun I24 => some I24 else none
set_option maxRecDepth 100000 in
set_option maxHeartbeats 4000000 in
theorem kb_X4_countsOf {G : GX} {Q : State → Prop} {X : MX} (hM : shX10 X) {a1 : Nat} (h1 : shX0 X a1) {N : Nat} {I : MI} {L : ML} {out : MI} (hf : f_X4_countsOf N a1 I = some out) (hR : ∀ (I' : MI), out = I' → Q = RetQ G (some (.ref (gB G + 93))) X I' L (0, 0)) : Ex G mX4_countsOf rmX4_countsOf Q (0, 0) X I L 0 [(0, .ref (gB G + 91)), (1, .ref (gB G + a1))] [] := by
  unfold f_X4_countsOf at hf
  refine ex_iconst (v := 1) (pc' := 1) dX4_countsOf_0 ic_1 rfl ?_
  refine ex_aload_n 1 (pc' := 2) dX4_countsOf_1 rfl rfl rfl ?_
  refine ex_getI (pc' := 5) dX4_countsOf_2 fl_X4_27 rfl (sh0_k h1) rfl ?_
  refine ex_ishl (pc' := 6) dX4_countsOf_5 rfl ?_
  refine ex_istore_n (lv' := [(2, .int (jshl 1 (I a1 0))), (0, .ref (gB G + 91)), (1, .ref (gB G + a1))]) (pc' := 7) dX4_countsOf_6 rfl (Nat.le_of_ble_eq_true rfl) rfl rfl ?_
  refine ex_aload_n 1 (pc' := 8) dX4_countsOf_7 rfl rfl rfl ?_
  refine ex_getR (pc' := 11) dX4_countsOf_8 fl_X4_11 rfl (sh4_k (sh10_T7 hM)) (sh4_F0 (sh10_T7 hM)) rfl ?_
  refine ex_iconst (v := 0) (pc' := 12) dX4_countsOf_11 ic_0 rfl ?_
  obtain ⟨I1, hq2, hf⟩ := of_bnd1 hf
  refine ex_callS_v (rm' := rmJ7_fill_53178) (st := []) (pc' := 15) [.ref (gB G + 92), .int 0] dX4_countsOf_12 cl_X4_33 (k_J7_fill_53178 G (sh4_T0 (sh10_T7 hM)) hq2) rfl rfl rfl (ROOM_of rfl) (Nat.le_of_ble_eq_true rfl) rfl rfl ?_
  refine ex_aload_n 1 (pc' := 16) dX4_countsOf_15 rfl rfl rfl ?_
  refine ex_getR (pc' := 19) dX4_countsOf_16 fl_X4_11 rfl (sh4_k (sh10_T7 hM)) (sh4_F0 (sh10_T7 hM)) rfl ?_
  refine ex_iconst (v := 0) (pc' := 20) dX4_countsOf_19 ic_0 rfl ?_
  refine ex_iconst (v := 1) (pc' := 21) dX4_countsOf_20 ic_1 rfl ?_
  obtain ⟨hg3, hf⟩ := of_guard hf
  refine ex_iast (pc' := 22) dX4_countsOf_21 (sh4_T0 (sh10_T7 hM)) (inb_in hg3) rfl ?_
  obtain ⟨I4, hI4, hf⟩ := of_let hf
  rw [← hI4]
  refine ex_iconst (v := 0) (pc' := 23) dX4_countsOf_22 ic_0 rfl ?_
  refine ex_istore_n (lv' := [(3, .int 0), (2, .int (jshl 1 (I a1 0))), (0, .ref (gB G + 91)), (1, .ref (gB G + a1))]) (pc' := 24) dX4_countsOf_23 rfl (Nat.le_of_ble_eq_true rfl) rfl rfl ?_
  refine ex_sub (lv' := [(0, .ref (gB G + 91)), (1, .ref (gB G + a1)), (2, .int (jshl 1 (I a1 0))), (3, .int 0)]) [2, 3, 1, 0] rfl ?_
  obtain ⟨I13, hq14, hf⟩ := of_bnd1 hf
  refine k_X4_countsOf_l24 hM h1 (fun I13' he => ?_) _ _ _ hq14
  cases he
  refine ex_aload_n 0 (pc' := 73) dX4_countsOf_72 rfl rfl rfl ?_
  refine ex_getR (pc' := 76) dX4_countsOf_73 fl_X4_15 rfl (sh4_k (sh10_T7 hM)) (sh4_F1 (sh10_T7 hM)) rfl ?_
  refine ex_iconst (v := 0) (pc' := 77) dX4_countsOf_76 ic_0 rfl ?_
  obtain ⟨I15, hq16, hf⟩ := of_bnd1 hf
  refine ex_callS_v (rm' := rmJ7_fill_53178) (st := []) (pc' := 80) [.ref (gB G + 93), .int 0] dX4_countsOf_77 cl_X4_33 (k_J7_fill_53178 G (sh4_T1 (sh10_T7 hM)) hq16) rfl rfl rfl (ROOM_of rfl) (Nat.le_of_ble_eq_true rfl) rfl rfl ?_
  refine ex_iconst (v := 0) (pc' := 81) dX4_countsOf_80 ic_0 rfl ?_
  refine ex_istore_n (lv' := [(3, .int 0), (0, .ref (gB G + 91)), (2, .int (jshl 1 (I a1 0)))]) (pc' := 82) dX4_countsOf_81 rfl (Nat.le_of_ble_eq_true rfl) rfl rfl ?_
  refine ex_sub (lv' := [(0, .ref (gB G + 91)), (2, .int (jshl 1 (I a1 0))), (3, .int 0)]) [1, 2, 0] rfl ?_
  obtain ⟨I24, hq25, hf⟩ := of_bnd1 hf
  refine k_X4_countsOf_l82 hM (fun I24' he => ?_) _ _ _ hq25
  cases he
  refine ex_aload_n 0 (pc' := 112) dX4_countsOf_111 rfl rfl rfl ?_
  refine ex_getR (pc' := 115) dX4_countsOf_112 fl_X4_15 rfl (sh4_k (sh10_T7 hM)) (sh4_F1 (sh10_T7 hM)) rfl ?_
  exact ex_aret dX4_countsOf_115 rfl (Or.inr ⟨_, rfl⟩) (hR _ (Option.some.inj hf).symm)
set_option maxRecDepth 100000 in
set_option maxHeartbeats 4000000 in
theorem k_X4_countsOf (G : GX) {X : MX} (hM : shX10 X) {a1 : Nat} (h1 : shX0 X a1) {N : Nat} {I : MI} {L : ML} {I' : MI} (hf : f_X4_countsOf N a1 I = some I') : Con G mX4_countsOf yX4_countsOf rmX4_countsOf (fun B => [.ref (B + 91), .ref (B + a1)]) X I L (some (.ref (gB G + 93))) X I' L :=
  Con.of2 (by decide) rfl (fun h => by cases h) (fun B => Nat.le_of_ble_eq_true rfl) (fun G' hB => kb_X4_countsOf hM h1 hf (fun _ he => by cases he; exact congrArg (fun b => RetQ G' (some (.ref (b + 93))) X I' L (0, 0)) hB.symm))
theorem co_X4_87 : Cond.constant RX4 87 (1103515245) ∈ lwg := lwg_at 789 (by decide +kernel) rfl
theorem sp_12345 : (Int16.ofInt 12345).toInt32 = 12345 := by decide
theorem co_X4_88 : Cond.constant RX4 88 (2147483647) ∈ lwg := lwg_at 790 (by decide +kernel) rfl
theorem co_X4_89 : Cond.constant RX4 89 (65536) ∈ lwg := lwg_at 791 (by decide +kernel) rfl
theorem cl_X4_90 : CLS RX4 90 yX4_bitNumbered mX4_bitNumbered (some FieldType.int) 2 := ⟨⟨lwg_at 792 (by decide +kernel) rfl, lwg_at 793 (by decide +kernel) rfl, lwg_at 60 (by decide +kernel) rfl⟩, lwg_at 794 (by decide +kernel) rfl, ⟨by decide +kernel, by decide +kernel, by decide +kernel⟩⟩
-- X4_drawLots ('RookWords$Rooks', 'drawLots', '(LRookWords$Board;IIZ)I')
def rmX4_drawLots : RM := ((1, 23, 0, 0), false, (some FieldType.int))
def f_X4_drawLots_b35 (N : Nat) (a1 : Nat) (v2 : Int32) (v4 : Int32) (v6 : Int32) (v8 : Int32) (v10 : Int32) (v5 : Int32) (v7 : Int32) (v9 : Int32) (v11 : Int32) (I : MI) : Option ((Int32 × Int32 × Int32 × Int32) ⊕ (Int32 × Int32)) := (if v11 < (I a1 0) then if ((I a1 0) - v11) = 0 then none else bnd1 (f_X4_bitNumbered N v9 (jrem ((((v5 * 1103515245) + 12345) &&& 2147483647) / 65536) ((I a1 0) - v11))) fun r4 => if inb v11 6 then (if ((I (a1 + 1) (Int32.toNatClampNeg v11)) &&& r4) = 0 then some (.inl ((v5 * 1103515245) + 12345, v7 + 0, v9 ^^^ r4, v11 + 1)) else some (.inl ((v5 * 1103515245) + 12345, v7 + 1, v9 ^^^ r4, v11 + 1))) else none else some (.inr (v5, v7)))
set_option maxRecDepth 100000 in
set_option maxHeartbeats 4000000 in
theorem k_X4_drawLots_b35 {G : GX} {Q : State → Prop} {X : MX} {a1 : Nat} {v2 : Int32} {v4 : Int32} {v6 : Int32} {v8 : Int32} {v10 : Int32} (h1 : shX0 X a1) {v5 : Int32} {v7 : Int32} {v9 : Int32} {v11 : Int32} {N : Nat} {I : MI} {L : ML} {out : (Int32 × Int32 × Int32 × Int32) ⊕ (Int32 × Int32)} (hf : f_X4_drawLots_b35 N a1 v2 v4 v6 v8 v10 v5 v7 v9 v11 I = some out) (hC : ∀ (v5' : Int32) (v7' : Int32) (v9' : Int32) (v11' : Int32), out = .inl (v5', v7', v9', v11') → Ex G mX4_drawLots rmX4_drawLots Q (0, 0) X I L 35 [(1, .ref (gB G + a1)), (2, .int v2), (4, .int v4), (5, .int v5'), (6, .int v6), (7, .int v7'), (8, .int v8), (9, .int v9'), (10, .int v10), (11, .int v11')] []) (hX : ∀ (w5 : Int32) (w7 : Int32), out = .inr (w5, w7) → Ex G mX4_drawLots rmX4_drawLots Q (0, 0) X I L 114 [(1, .ref (gB G + a1)), (2, .int v2), (4, .int v4), (5, .int w5), (6, .int v6), (7, .int w7), (8, .int v8), (10, .int v10)] []) : Ex G mX4_drawLots rmX4_drawLots Q (0, 0) X I L 35 [(1, .ref (gB G + a1)), (2, .int v2), (4, .int v4), (5, .int v5), (6, .int v6), (7, .int v7), (8, .int v8), (9, .int v9), (10, .int v10), (11, .int v11)] [] := by
  unfold f_X4_drawLots_b35 at hf
  refine ex_iload 9 (pc' := 37) dX4_drawLots_35 rfl rfl ?_
  refine ex_aload_n 0 (pc' := 38) dX4_drawLots_37 rfl rfl rfl ?_
  refine ex_getI (pc' := 41) dX4_drawLots_38 fl_X4_27 rfl (sh0_k h1) rfl ?_
  refine ex_icmpge (tgt := 114) (pc' := 44) dX4_drawLots_41 (by decide) rfl (fun hc2 => ?_) (fun hc2 => ?_)
  · replace hf := if_t hc2 hf
    refine ex_iload 3 (pc' := 46) dX4_drawLots_44 rfl rfl ?_
    refine ex_ldc (v := 1103515245) (pc' := 48) dX4_drawLots_46 co_X4_87 rfl ?_
    refine ex_imul (pc' := 49) dX4_drawLots_48 rfl ?_
    refine ex_sipush (v := 12345) (pc' := 52) dX4_drawLots_49 sp_12345 rfl ?_
    refine ex_iadd (pc' := 53) dX4_drawLots_52 rfl ?_
    refine ex_istore (lv' := [(5, .int ((v5 * 1103515245) + 12345)), (1, .ref (gB G + a1)), (2, .int v2), (4, .int v4), (6, .int v6), (7, .int v7), (8, .int v8), (9, .int v9), (10, .int v10), (11, .int v11)]) (pc' := 55) dX4_drawLots_53 (Nat.le_of_ble_eq_true rfl) rfl rfl ?_
    refine ex_iload 7 (pc' := 57) dX4_drawLots_55 rfl rfl ?_
    refine ex_iload 0 (pc' := 59) dX4_drawLots_57 rfl rfl ?_
    refine ex_ldc (v := 2147483647) (pc' := 61) dX4_drawLots_59 co_X4_88 rfl ?_
    refine ex_iand (pc' := 62) dX4_drawLots_61 rfl ?_
    refine ex_ldc (v := 65536) (pc' := 64) dX4_drawLots_62 co_X4_89 rfl ?_
    refine ex_idiv (pc' := 65) dX4_drawLots_64 (by decide) rfl ?_
    refine ex_aload_n 1 (pc' := 66) dX4_drawLots_65 rfl rfl rfl ?_
    refine ex_getI (pc' := 69) dX4_drawLots_66 fl_X4_27 rfl (sh0_k h1) rfl ?_
    refine ex_iload 9 (pc' := 71) dX4_drawLots_69 rfl rfl ?_
    refine ex_isub (pc' := 72) dX4_drawLots_71 rfl ?_
    obtain ⟨hg3, hf⟩ := of_guardN hf
    refine ex_irem (pc' := 73) dX4_drawLots_72 hg3 rfl ?_
    obtain ⟨r4, hq5, hf⟩ := of_bnd1 hf
    refine ex_callS_i (rm' := rmX4_bitNumbered) (st := []) (pc' := 76) [.int v9, .int (jrem ((((v5 * 1103515245) + 12345) &&& 2147483647) / 65536) ((I a1 0) - v11))] dX4_drawLots_73 cl_X4_90 (k_X4_bitNumbered G hq5) rfl rfl rfl (ROOM_of rfl) (Nat.le_of_ble_eq_true rfl) rfl rfl ?_
    refine ex_istore (lv' := [(12, .int r4), (5, .int ((v5 * 1103515245) + 12345)), (1, .ref (gB G + a1)), (2, .int v2), (4, .int v4), (6, .int v6), (7, .int v7), (8, .int v8), (9, .int v9), (10, .int v10), (11, .int v11)]) (pc' := 78) dX4_drawLots_76 (Nat.le_of_ble_eq_true rfl) rfl rfl ?_
    refine ex_iload 8 (pc' := 80) dX4_drawLots_78 rfl rfl ?_
    refine ex_iload 0 (pc' := 82) dX4_drawLots_80 rfl rfl ?_
    refine ex_ixor (pc' := 83) dX4_drawLots_82 rfl ?_
    refine ex_istore (lv' := [(9, .int (v9 ^^^ r4)), (12, .int r4), (5, .int ((v5 * 1103515245) + 12345)), (1, .ref (gB G + a1)), (2, .int v2), (4, .int v4), (6, .int v6), (7, .int v7), (8, .int v8), (10, .int v10), (11, .int v11)]) (pc' := 85) dX4_drawLots_83 (Nat.le_of_ble_eq_true rfl) rfl rfl ?_
    refine ex_iload 7 (pc' := 87) dX4_drawLots_85 rfl rfl ?_
    refine ex_aload_n 3 (pc' := 88) dX4_drawLots_87 rfl rfl rfl ?_
    refine ex_getR (pc' := 91) dX4_drawLots_88 fl_X4_49 rfl (sh0_k h1) (sh0_F1 h1) rfl ?_
    refine ex_iload 10 (pc' := 93) dX4_drawLots_91 rfl rfl ?_
    obtain ⟨hg6, hf⟩ := of_guard hf
    refine ex_iald (pc' := 94) dX4_drawLots_93 (sh0_T1 h1) (inb_in hg6) rfl ?_
    refine ex_iload 1 (pc' := 96) dX4_drawLots_94 rfl rfl ?_
    refine ex_iand (pc' := 97) dX4_drawLots_96 rfl ?_
    refine ex_ifeq (tgt := 104) (pc' := 100) dX4_drawLots_97 (by decide) rfl (fun hc7 => ?_) (fun hc7 => ?_)
    · replace hf := if_t hc7 hf
      refine ex_iconst (v := 0) (pc' := 105) dX4_drawLots_104 ic_0 rfl ?_
      refine ex_iadd (pc' := 106) dX4_drawLots_105 rfl ?_
      refine ex_istore (lv' := [(7, .int (v7 + 0)), (9, .int (v9 ^^^ r4)), (12, .int r4), (5, .int ((v5 * 1103515245) + 12345)), (1, .ref (gB G + a1)), (2, .int v2), (4, .int v4), (6, .int v6), (8, .int v8), (10, .int v10), (11, .int v11)]) (pc' := 108) dX4_drawLots_106 (Nat.le_of_ble_eq_true rfl) rfl rfl ?_
      refine ex_iincc (lv' := [(11, .int (v11 + 1)), (7, .int (v7 + 0)), (9, .int (v9 ^^^ r4)), (12, .int r4), (5, .int ((v5 * 1103515245) + 12345)), (1, .ref (gB G + a1)), (2, .int v2), (4, .int v4), (6, .int v6), (8, .int v8), (10, .int v10)]) 10 (pc' := 111) dX4_drawLots_108 rfl ic_1 (Nat.le_of_ble_eq_true rfl) rfl rfl ?_
      refine ex_goto (tgt := 35) dX4_drawLots_111 (by decide) ?_
      exact ex_sub [5, 6, 7, 4, 8, 1, 9, 2, 10, 0] rfl (hC _ _ _ _ (Option.some.inj hf).symm)
    · replace hf := if_f hc7 hf
      refine ex_iconst (v := 1) (pc' := 101) dX4_drawLots_100 ic_1 rfl ?_
      refine ex_goto (tgt := 105) dX4_drawLots_101 (by decide) ?_
      refine ex_iadd (pc' := 106) dX4_drawLots_105 rfl ?_
      refine ex_istore (lv' := [(7, .int (v7 + 1)), (9, .int (v9 ^^^ r4)), (12, .int r4), (5, .int ((v5 * 1103515245) + 12345)), (1, .ref (gB G + a1)), (2, .int v2), (4, .int v4), (6, .int v6), (8, .int v8), (10, .int v10), (11, .int v11)]) (pc' := 108) dX4_drawLots_106 (Nat.le_of_ble_eq_true rfl) rfl rfl ?_
      refine ex_iincc (lv' := [(11, .int (v11 + 1)), (7, .int (v7 + 1)), (9, .int (v9 ^^^ r4)), (12, .int r4), (5, .int ((v5 * 1103515245) + 12345)), (1, .ref (gB G + a1)), (2, .int v2), (4, .int v4), (6, .int v6), (8, .int v8), (10, .int v10)]) 10 (pc' := 111) dX4_drawLots_108 rfl ic_1 (Nat.le_of_ble_eq_true rfl) rfl rfl ?_
      refine ex_goto (tgt := 35) dX4_drawLots_111 (by decide) ?_
      exact ex_sub [5, 6, 7, 4, 8, 1, 9, 2, 10, 0] rfl (hC _ _ _ _ (Option.some.inj hf).symm)
  · replace hf := if_f hc2 hf
    exact ex_sub [0, 1, 2, 3, 4, 5, 6, 8] rfl (hX _ _ (Option.some.inj hf).symm)
def f_X4_drawLots_l35 (N : Nat) (a1 : Nat) (v2 : Int32) (v4 : Int32) (v6 : Int32) (v8 : Int32) (v10 : Int32) (v5 : Int32) (v7 : Int32) (v9 : Int32) (v11 : Int32) (I : MI) : Option (Int32 × Int32) := loopN (fun s => f_X4_drawLots_b35 N a1 v2 v4 v6 v8 v10 s.1 s.2.1 s.2.2.1 s.2.2.2 I) N (v5, v7, v9, v11)
set_option maxRecDepth 100000 in
set_option maxHeartbeats 4000000 in
theorem k_X4_drawLots_l35 {G : GX} {Q : State → Prop} {X : MX} {a1 : Nat} {v2 : Int32} {v4 : Int32} {v6 : Int32} {v8 : Int32} {v10 : Int32} (h1 : shX0 X a1) {N0 : Nat} {I : MI} {L : ML} {out : (Int32 × Int32)} (hX : ∀ (w5 : Int32) (w7 : Int32), out = (w5, w7) → Ex G mX4_drawLots rmX4_drawLots Q (0, 0) X I L 114 [(1, .ref (gB G + a1)), (2, .int v2), (4, .int v4), (5, .int w5), (6, .int v6), (7, .int w7), (8, .int v8), (10, .int v10)] []) : ∀ (N : Nat) (v5 : Int32) (v7 : Int32) (v9 : Int32) (v11 : Int32), loopN (fun s => f_X4_drawLots_b35 N0 a1 v2 v4 v6 v8 v10 s.1 s.2.1 s.2.2.1 s.2.2.2 I) N (v5, v7, v9, v11) = some out → Ex G mX4_drawLots rmX4_drawLots Q (0, 0) X I L 35 [(1, .ref (gB G + a1)), (2, .int v2), (4, .int v4), (5, .int v5), (6, .int v6), (7, .int v7), (8, .int v8), (9, .int v9), (10, .int v10), (11, .int v11)] [] := by
  intro N
  induction N with
  | zero => intro v5 v7 v9 v11 hf; exact absurd (loopN_zero hf) id
  | succ n ih =>
    intro v5 v7 v9 v11 hf
    rcases loopN_succ hf with ⟨s, hb, hl⟩ | hb
    · obtain ⟨v5', v7', v9', v11'⟩ := s
      refine k_X4_drawLots_b35 h1 hb (fun _ _ _ _ he => ?_) (fun _ _ he => by cases he)
      cases he
      exact ih v5' v7' v9' v11' hl
    · exact k_X4_drawLots_b35 h1 hb (fun _ _ _ _ he => by cases he) (fun x0 x1 he => hX x0 x1 (Sum.inr.inj he))
def f_X4_drawLots_b12 (N : Nat) (a1 : Nat) (v2 : Int32) (v4 : Int32) (v5 : Int32) (v6 : Int32) (v7 : Int32) (v8 : Int32) (I : MI) : Option ((Int32 × Int32 × Int32 × Int32) ⊕ (Int32 × Int32)) := (if v8 < v2 then bnd2 (f_X4_drawLots_l35 N a1 v2 v4 v6 v8 v7 v5 v7 ((jshl 1 (I a1 0)) - 1) 0 I) fun x8 x9 => (if x9 = v7 then some (.inl (x8, v6 + 1, x9, v8 + 1)) else some (.inl (x8, v6 + 0, x9, v8 + 1))) else some (.inr (v6, v7)))
set_option maxRecDepth 100000 in
set_option maxHeartbeats 4000000 in
theorem k_X4_drawLots_b12 {G : GX} {Q : State → Prop} {X : MX} {a1 : Nat} {v2 : Int32} {v4 : Int32} (h1 : shX0 X a1) {v5 : Int32} {v6 : Int32} {v7 : Int32} {v8 : Int32} {N : Nat} {I : MI} {L : ML} {out : (Int32 × Int32 × Int32 × Int32) ⊕ (Int32 × Int32)} (hf : f_X4_drawLots_b12 N a1 v2 v4 v5 v6 v7 v8 I = some out) (hC : ∀ (v5' : Int32) (v6' : Int32) (v7' : Int32) (v8' : Int32), out = .inl (v5', v6', v7', v8') → Ex G mX4_drawLots rmX4_drawLots Q (0, 0) X I L 12 [(1, .ref (gB G + a1)), (2, .int v2), (4, .int v4), (5, .int v5'), (6, .int v6'), (7, .int v7'), (8, .int v8')] []) (hX : ∀ (w6 : Int32) (w7 : Int32), out = .inr (w6, w7) → Ex G mX4_drawLots rmX4_drawLots Q (0, 0) X I L 137 [(4, .int v4), (6, .int w6), (7, .int w7)] []) : Ex G mX4_drawLots rmX4_drawLots Q (0, 0) X I L 12 [(1, .ref (gB G + a1)), (2, .int v2), (4, .int v4), (5, .int v5), (6, .int v6), (7, .int v7), (8, .int v8)] [] := by
  unfold f_X4_drawLots_b12 at hf
  refine ex_iload 6 (pc' := 14) dX4_drawLots_12 rfl rfl ?_
  refine ex_iload_n 1 (pc' := 15) dX4_drawLots_14 rfl rfl rfl ?_
  refine ex_icmpge (tgt := 137) (pc' := 18) dX4_drawLots_15 (by decide) rfl (fun hc1 => ?_) (fun hc1 => ?_)
  · replace hf := if_t hc1 hf
    refine ex_iconst (v := 1) (pc' := 19) dX4_drawLots_18 ic_1 rfl ?_
    refine ex_aload_n 0 (pc' := 20) dX4_drawLots_19 rfl rfl rfl ?_
    refine ex_getI (pc' := 23) dX4_drawLots_20 fl_X4_27 rfl (sh0_k h1) rfl ?_
    refine ex_ishl (pc' := 24) dX4_drawLots_23 rfl ?_
    refine ex_iconst (v := 1) (pc' := 25) dX4_drawLots_24 ic_1 rfl ?_
    refine ex_isub (pc' := 26) dX4_drawLots_25 rfl ?_
    refine ex_istore (lv' := [(9, .int ((jshl 1 (I a1 0)) - 1)), (1, .ref (gB G + a1)), (2, .int v2), (4, .int v4), (5, .int v5), (6, .int v6), (7, .int v7), (8, .int v8)]) (pc' := 28) dX4_drawLots_26 (Nat.le_of_ble_eq_true rfl) rfl rfl ?_
    refine ex_iload 6 (pc' := 30) dX4_drawLots_28 rfl rfl ?_
    refine ex_istore (lv' := [(10, .int v7), (9, .int ((jshl 1 (I a1 0)) - 1)), (1, .ref (gB G + a1)), (2, .int v2), (4, .int v4), (5, .int v5), (6, .int v6), (7, .int v7), (8, .int v8)]) (pc' := 32) dX4_drawLots_30 (Nat.le_of_ble_eq_true rfl) rfl rfl ?_
    refine ex_iconst (v := 0) (pc' := 33) dX4_drawLots_32 ic_0 rfl ?_
    refine ex_istore (lv' := [(11, .int 0), (10, .int v7), (9, .int ((jshl 1 (I a1 0)) - 1)), (1, .ref (gB G + a1)), (2, .int v2), (4, .int v4), (5, .int v5), (6, .int v6), (7, .int v7), (8, .int v8)]) (pc' := 35) dX4_drawLots_33 (Nat.le_of_ble_eq_true rfl) rfl rfl ?_
    refine ex_sub (lv' := [(1, .ref (gB G + a1)), (2, .int v2), (4, .int v4), (5, .int v5), (6, .int v6), (7, .int v7), (8, .int v8), (9, .int ((jshl 1 (I a1 0)) - 1)), (10, .int v7), (11, .int 0)]) [3, 4, 5, 6, 7, 8, 9, 2, 1, 0] rfl ?_
    obtain ⟨x8, x9, hq10, hf⟩ := of_bnd2 hf
    refine k_X4_drawLots_l35 h1 (fun x8' x9' he => ?_) _ _ _ _ _ hq10
    cases he
    refine ex_iload 4 (pc' := 116) dX4_drawLots_114 rfl rfl ?_
    refine ex_iload 5 (pc' := 118) dX4_drawLots_116 rfl rfl ?_
    refine ex_iload 7 (pc' := 120) dX4_drawLots_118 rfl rfl ?_
    refine ex_icmpne (tgt := 127) (pc' := 123) dX4_drawLots_120 (by decide) rfl (fun hc11 => ?_) (fun hc11 => ?_)
    · replace hf := if_t hc11 hf
      refine ex_iconst (v := 1) (pc' := 124) dX4_drawLots_123 ic_1 rfl ?_
      refine ex_goto (tgt := 128) dX4_drawLots_124 (by decide) ?_
      refine ex_iadd (pc' := 129) dX4_drawLots_128 rfl ?_
      refine ex_istore (lv' := [(6, .int (v6 + 1)), (1, .ref (gB G + a1)), (2, .int v2), (4, .int v4), (5, .int x8), (7, .int x9), (8, .int v8), (10, .int v7)]) (pc' := 131) dX4_drawLots_129 (Nat.le_of_ble_eq_true rfl) rfl rfl ?_
      refine ex_iincc (lv' := [(8, .int (v8 + 1)), (6, .int (v6 + 1)), (1, .ref (gB G + a1)), (2, .int v2), (4, .int v4), (5, .int x8), (7, .int x9), (10, .int v7)]) 6 (pc' := 134) dX4_drawLots_131 rfl ic_1 (Nat.le_of_ble_eq_true rfl) rfl rfl ?_
      refine ex_goto (tgt := 12) dX4_drawLots_134 (by decide) ?_
      exact ex_sub [2, 3, 4, 5, 1, 6, 0] rfl (hC _ _ _ _ (Option.some.inj hf).symm)
    · replace hf := if_f hc11 hf
      refine ex_iconst (v := 0) (pc' := 128) dX4_drawLots_127 ic_0 rfl ?_
      refine ex_iadd (pc' := 129) dX4_drawLots_128 rfl ?_
      refine ex_istore (lv' := [(6, .int (v6 + 0)), (1, .ref (gB G + a1)), (2, .int v2), (4, .int v4), (5, .int x8), (7, .int x9), (8, .int v8), (10, .int v7)]) (pc' := 131) dX4_drawLots_129 (Nat.le_of_ble_eq_true rfl) rfl rfl ?_
      refine ex_iincc (lv' := [(8, .int (v8 + 1)), (6, .int (v6 + 0)), (1, .ref (gB G + a1)), (2, .int v2), (4, .int v4), (5, .int x8), (7, .int x9), (10, .int v7)]) 6 (pc' := 134) dX4_drawLots_131 rfl ic_1 (Nat.le_of_ble_eq_true rfl) rfl rfl ?_
      refine ex_goto (tgt := 12) dX4_drawLots_134 (by decide) ?_
      exact ex_sub [2, 3, 4, 5, 1, 6, 0] rfl (hC _ _ _ _ (Option.some.inj hf).symm)
  · replace hf := if_f hc1 hf
    exact ex_sub [2, 4, 5] rfl (hX _ _ (Option.some.inj hf).symm)
def f_X4_drawLots_l12 (N : Nat) (a1 : Nat) (v2 : Int32) (v4 : Int32) (v5 : Int32) (v6 : Int32) (v7 : Int32) (v8 : Int32) (I : MI) : Option (Int32 × Int32) := loopN (fun s => f_X4_drawLots_b12 N a1 v2 v4 s.1 s.2.1 s.2.2.1 s.2.2.2 I) N (v5, v6, v7, v8)
set_option maxRecDepth 100000 in
set_option maxHeartbeats 4000000 in
theorem k_X4_drawLots_l12 {G : GX} {Q : State → Prop} {X : MX} {a1 : Nat} {v2 : Int32} {v4 : Int32} (h1 : shX0 X a1) {N0 : Nat} {I : MI} {L : ML} {out : (Int32 × Int32)} (hX : ∀ (w6 : Int32) (w7 : Int32), out = (w6, w7) → Ex G mX4_drawLots rmX4_drawLots Q (0, 0) X I L 137 [(4, .int v4), (6, .int w6), (7, .int w7)] []) : ∀ (N : Nat) (v5 : Int32) (v6 : Int32) (v7 : Int32) (v8 : Int32), loopN (fun s => f_X4_drawLots_b12 N0 a1 v2 v4 s.1 s.2.1 s.2.2.1 s.2.2.2 I) N (v5, v6, v7, v8) = some out → Ex G mX4_drawLots rmX4_drawLots Q (0, 0) X I L 12 [(1, .ref (gB G + a1)), (2, .int v2), (4, .int v4), (5, .int v5), (6, .int v6), (7, .int v7), (8, .int v8)] [] := by
  intro N
  induction N with
  | zero => intro v5 v6 v7 v8 hf; exact absurd (loopN_zero hf) id
  | succ n ih =>
    intro v5 v6 v7 v8 hf
    rcases loopN_succ hf with ⟨s, hb, hl⟩ | hb
    · obtain ⟨v5', v6', v7', v8'⟩ := s
      refine k_X4_drawLots_b12 h1 hb (fun _ _ _ _ he => ?_) (fun _ _ he => by cases he)
      cases he
      exact ih v5' v6' v7' v8' hl
    · exact k_X4_drawLots_b12 h1 hb (fun _ _ _ _ he => by cases he) (fun x0 x1 he => hX x0 x1 (Sum.inr.inj he))
def f_X4_drawLots (N : Nat) (a1 : Nat) (v2 : Int32) (v3 : Int32) (v4 : Int32) (I : MI) : Option (Int32) := bnd2 (f_X4_drawLots_l12 N a1 v2 v4 v3 0 0 0 I) fun x12 x13 => (if v4 = 0 then some x13 else some x12)
set_option maxRecDepth 100000 in
set_option maxHeartbeats 4000000 in
theorem kb_X4_drawLots {G : GX} {Q : State → Prop} {X : MX} {a1 : Nat} {v2 : Int32} {v3 : Int32} {v4 : Int32} (h1 : shX0 X a1) {N : Nat} {I : MI} {L : ML} {out : Int32} (hf : f_X4_drawLots N a1 v2 v3 v4 I = some out) (hR : ∀ (z : Int32), out = z → Q = RetQ G (some (.int z)) X I L (0, 0)) : Ex G mX4_drawLots rmX4_drawLots Q (0, 0) X I L 0 [(0, .ref (gB G + 91)), (1, .ref (gB G + a1)), (2, .int v2), (3, .int v3), (4, .int v4)] [] := by
  unfold f_X4_drawLots at hf
  refine ex_iload_n 3 (pc' := 1) dX4_drawLots_0 rfl rfl rfl ?_
  refine ex_istore (lv' := [(5, .int v3), (0, .ref (gB G + 91)), (1, .ref (gB G + a1)), (2, .int v2), (3, .int v3), (4, .int v4)]) (pc' := 3) dX4_drawLots_1 (Nat.le_of_ble_eq_true rfl) rfl rfl ?_
  refine ex_iconst (v := 0) (pc' := 4) dX4_drawLots_3 ic_0 rfl ?_
  refine ex_istore (lv' := [(6, .int 0), (5, .int v3), (0, .ref (gB G + 91)), (1, .ref (gB G + a1)), (2, .int v2), (3, .int v3), (4, .int v4)]) (pc' := 6) dX4_drawLots_4 (Nat.le_of_ble_eq_true rfl) rfl rfl ?_
  refine ex_iconst (v := 0) (pc' := 7) dX4_drawLots_6 ic_0 rfl ?_
  refine ex_istore (lv' := [(7, .int 0), (6, .int 0), (5, .int v3), (0, .ref (gB G + 91)), (1, .ref (gB G + a1)), (2, .int v2), (3, .int v3), (4, .int v4)]) (pc' := 9) dX4_drawLots_7 (Nat.le_of_ble_eq_true rfl) rfl rfl ?_
  refine ex_iconst (v := 0) (pc' := 10) dX4_drawLots_9 ic_0 rfl ?_
  refine ex_istore (lv' := [(8, .int 0), (7, .int 0), (6, .int 0), (5, .int v3), (0, .ref (gB G + 91)), (1, .ref (gB G + a1)), (2, .int v2), (3, .int v3), (4, .int v4)]) (pc' := 12) dX4_drawLots_10 (Nat.le_of_ble_eq_true rfl) rfl rfl ?_
  refine ex_sub (lv' := [(1, .ref (gB G + a1)), (2, .int v2), (4, .int v4), (5, .int v3), (6, .int 0), (7, .int 0), (8, .int 0)]) [5, 6, 8, 3, 2, 1, 0] rfl ?_
  obtain ⟨x12, x13, hq14, hf⟩ := of_bnd2 hf
  refine k_X4_drawLots_l12 h1 (fun x12' x13' he => ?_) _ _ _ _ _ hq14
  cases he
  refine ex_iload 0 (pc' := 139) dX4_drawLots_137 rfl rfl ?_
  refine ex_ifeq (tgt := 147) (pc' := 142) dX4_drawLots_139 (by decide) rfl (fun hc15 => ?_) (fun hc15 => ?_)
  · replace hf := if_t hc15 hf
    refine ex_iload 2 (pc' := 149) dX4_drawLots_147 rfl rfl ?_
    exact ex_iret dX4_drawLots_149 rfl (hR _ (Option.some.inj hf).symm)
  · replace hf := if_f hc15 hf
    refine ex_iload 1 (pc' := 144) dX4_drawLots_142 rfl rfl ?_
    refine ex_goto (tgt := 149) dX4_drawLots_144 (by decide) ?_
    exact ex_iret dX4_drawLots_149 rfl (hR _ (Option.some.inj hf).symm)
set_option maxRecDepth 100000 in
set_option maxHeartbeats 4000000 in
theorem k_X4_drawLots (G : GX) {X : MX} {a1 : Nat} {v2 : Int32} {v3 : Int32} {v4 : Int32} (h1 : shX0 X a1) {N : Nat} {I : MI} {L : ML} {z : Int32} (hf : f_X4_drawLots N a1 v2 v3 v4 I = some z) : Con G mX4_drawLots yX4_drawLots rmX4_drawLots (fun B => [.ref (B + 91), .ref (B + a1), .int v2, .int v3, .int v4]) X I L (some (.int z)) X I L :=
  Con.of (by decide) rfl (fun h => by cases h) (fun B => Nat.le_of_ble_eq_true rfl) (fun G => kb_X4_drawLots h1 hf (fun _ he => by cases he; rfl))
theorem cl_X4_52 : CLV RX4 52 yX4_countsOf mX4_countsOf (some (FieldType.array FieldType.int)) 1 := ⟨⟨lwg_at 665 (by decide +kernel) rfl, lwg_at 641 (by decide +kernel) rfl, lwg_at 642 (by decide +kernel) rfl, lwg_at 60 (by decide +kernel) rfl⟩, lwg_at 643 (by decide +kernel) rfl, ⟨by decide +kernel, by decide +kernel, by decide +kernel⟩⟩
theorem fl_X4_56 : Cond.fieldLink RX4 56 (sNm 0).1 (sNm 0).2 "[I" ∈ lwg := lwg_at 666 (by decide +kernel) rfl
-- X4_hitsOf ('RookWords$Rooks', 'hitsOf', '(LRookWords$Board;I)I')
def rmX4_hitsOf : RM := ((2, 49, 0, 0), false, (some FieldType.int))
def f_X4_hitsOf_b14_j65 (N : Nat) (a1 : Nat) (v2 : Int32) (v4 : Int32) (v5 : Int32) (s0 : Int32) (s1 : Int32) (I : MI) : Option ((Int32 × Int32 × Int32) ⊕ (Int32)) := if ((v5 + 1) - v2) = 0 then none else some (.inl (s1 + s0, (v4 * (v5 + 1)) / ((v5 + 1) - v2), v5 + 1))
set_option maxRecDepth 100000 in
set_option maxHeartbeats 4000000 in
theorem k_X4_hitsOf_b14_j65 {G : GX} {Q : State → Prop} {X : MX} (hM : shX10 X) {a1 : Nat} {v2 : Int32} {v4 : Int32} {v5 : Int32} {s0 : Int32} {s1 : Int32}  (h1 : shX0 X a1) {N : Nat} {I : MI} {L : ML} {out : (Int32 × Int32 × Int32) ⊕ (Int32)} (hf : f_X4_hitsOf_b14_j65 N a1 v2 v4 v5 s0 s1 I = some out) (hC : ∀ (v3' : Int32) (v4' : Int32) (v5' : Int32), out = .inl (v3', v4', v5') → Ex G mX4_hitsOf rmX4_hitsOf Q (0, 0) X I L 14 [(0, .ref (gB G + 91)), (1, .ref (gB G + a1)), (2, .int v2), (3, .int v3'), (4, .int v4'), (5, .int v5')] []) (hX : ∀ (w3 : Int32), out = .inr w3 → Ex G mX4_hitsOf rmX4_hitsOf Q (0, 0) X I L 89 [(3, .int w3)] []) : Ex G mX4_hitsOf rmX4_hitsOf Q (0, 0) X I L 65 [(0, .ref (gB G + 91)), (1, .ref (gB G + a1)), (2, .int v2), (4, .int v4), (5, .int v5)] [.int s0, .int s1] := by
  unfold f_X4_hitsOf_b14_j65 at hf
  refine ex_iadd (pc' := 66) dX4_hitsOf_65 rfl ?_
  refine ex_istore_n (lv' := [(3, .int (s1 + s0)), (0, .ref (gB G + 91)), (1, .ref (gB G + a1)), (2, .int v2), (4, .int v4), (5, .int v5)]) (pc' := 67) dX4_hitsOf_66 rfl (Nat.le_of_ble_eq_true rfl) rfl rfl ?_
  refine ex_iload 4 (pc' := 69) dX4_hitsOf_67 rfl rfl ?_
  refine ex_iload 5 (pc' := 71) dX4_hitsOf_69 rfl rfl ?_
  refine ex_iconst (v := 1) (pc' := 72) dX4_hitsOf_71 ic_1 rfl ?_
  refine ex_iadd (pc' := 73) dX4_hitsOf_72 rfl ?_
  refine ex_imul (pc' := 74) dX4_hitsOf_73 rfl ?_
  refine ex_iload 5 (pc' := 76) dX4_hitsOf_74 rfl rfl ?_
  refine ex_iconst (v := 1) (pc' := 77) dX4_hitsOf_76 ic_1 rfl ?_
  refine ex_iadd (pc' := 78) dX4_hitsOf_77 rfl ?_
  refine ex_iload_n 3 (pc' := 79) dX4_hitsOf_78 rfl rfl rfl ?_
  refine ex_isub (pc' := 80) dX4_hitsOf_79 rfl ?_
  obtain ⟨hg8, hf⟩ := of_guardN hf
  refine ex_idiv (pc' := 81) dX4_hitsOf_80 hg8 rfl ?_
  refine ex_istore (lv' := [(4, .int ((v4 * (v5 + 1)) / ((v5 + 1) - v2))), (3, .int (s1 + s0)), (0, .ref (gB G + 91)), (1, .ref (gB G + a1)), (2, .int v2), (5, .int v5)]) (pc' := 83) dX4_hitsOf_81 (Nat.le_of_ble_eq_true rfl) rfl rfl ?_
  refine ex_iincc (lv' := [(5, .int (v5 + 1)), (4, .int ((v4 * (v5 + 1)) / ((v5 + 1) - v2))), (3, .int (s1 + s0)), (0, .ref (gB G + 91)), (1, .ref (gB G + a1)), (2, .int v2)]) 5 (pc' := 86) dX4_hitsOf_83 rfl ic_1 (Nat.le_of_ble_eq_true rfl) rfl rfl ?_
  refine ex_goto (tgt := 14) dX4_hitsOf_86 (by decide) ?_
  exact ex_sub [3, 4, 5, 2, 1, 0] rfl (hC _ _ _ (Option.some.inj hf).symm)
def f_X4_hitsOf_b14 (N : Nat) (a1 : Nat) (v2 : Int32) (v3 : Int32) (v4 : Int32) (v5 : Int32) (I : MI) : Option ((Int32 × Int32 × Int32) ⊕ (Int32)) := (if (I a1 0) < v5 then some (.inr v3) else if inb v5 7 then if inb ((I a1 0) - v5) 7 then letv ((v4 * (I 93 (Int32.toNatClampNeg v5))) * (tabI 0 (Int32.toNatClampNeg ((I a1 0) - v5)))) fun x6 => (if (jrem (v5 - v2) 2) = 0 then f_X4_hitsOf_b14_j65 N a1 v2 v4 v5 x6 v3 I else f_X4_hitsOf_b14_j65 N a1 v2 v4 v5 (-x6) v3 I) else none else none)
set_option maxRecDepth 100000 in
set_option maxHeartbeats 4000000 in
theorem k_X4_hitsOf_b14 {G : GX} {Q : State → Prop} {X : MX} (hM : shX10 X) {a1 : Nat} {v2 : Int32} (h1 : shX0 X a1) {v3 : Int32} {v4 : Int32} {v5 : Int32} {N : Nat} {I : MI} {L : ML} {out : (Int32 × Int32 × Int32) ⊕ (Int32)} (hf : f_X4_hitsOf_b14 N a1 v2 v3 v4 v5 I = some out) (hC : ∀ (v3' : Int32) (v4' : Int32) (v5' : Int32), out = .inl (v3', v4', v5') → Ex G mX4_hitsOf rmX4_hitsOf Q (0, 0) X I L 14 [(0, .ref (gB G + 91)), (1, .ref (gB G + a1)), (2, .int v2), (3, .int v3'), (4, .int v4'), (5, .int v5')] []) (hX : ∀ (w3 : Int32), out = .inr w3 → Ex G mX4_hitsOf rmX4_hitsOf Q (0, 0) X I L 89 [(3, .int w3)] []) : Ex G mX4_hitsOf rmX4_hitsOf Q (0, 0) X I L 14 [(0, .ref (gB G + 91)), (1, .ref (gB G + a1)), (2, .int v2), (3, .int v3), (4, .int v4), (5, .int v5)] [] := by
  unfold f_X4_hitsOf_b14 at hf
  refine ex_iload 5 (pc' := 16) dX4_hitsOf_14 rfl rfl ?_
  refine ex_aload_n 1 (pc' := 17) dX4_hitsOf_16 rfl rfl rfl ?_
  refine ex_getI (pc' := 20) dX4_hitsOf_17 fl_X4_27 rfl (sh0_k h1) rfl ?_
  refine ex_icmpgt (tgt := 89) (pc' := 23) dX4_hitsOf_20 (by decide) rfl (fun hc3 => ?_) (fun hc3 => ?_)
  · replace hf := if_t hc3 hf
    exact ex_sub [3] rfl (hX _ (Option.some.inj hf).symm)
  · replace hf := if_f hc3 hf
    refine ex_iload 4 (pc' := 25) dX4_hitsOf_23 rfl rfl ?_
    refine ex_aload_n 0 (pc' := 26) dX4_hitsOf_25 rfl rfl rfl ?_
    refine ex_getR (pc' := 29) dX4_hitsOf_26 fl_X4_15 rfl (sh4_k (sh10_T7 hM)) (sh4_F1 (sh10_T7 hM)) rfl ?_
    refine ex_iload 5 (pc' := 31) dX4_hitsOf_29 rfl rfl ?_
    obtain ⟨hg4, hf⟩ := of_guard hf
    refine ex_iald (pc' := 32) dX4_hitsOf_31 (sh4_T1 (sh10_T7 hM)) (inb_in hg4) rfl ?_
    refine ex_imul (pc' := 33) dX4_hitsOf_32 rfl ?_
    refine ex_getst (j := 0) (pc' := 36) dX4_hitsOf_33 (by decide) fl_X4_56 rfl ?_
    refine ex_aload_n 1 (pc' := 37) dX4_hitsOf_36 rfl rfl rfl ?_
    refine ex_getI (pc' := 40) dX4_hitsOf_37 fl_X4_27 rfl (sh0_k h1) rfl ?_
    refine ex_iload 5 (pc' := 42) dX4_hitsOf_40 rfl rfl ?_
    refine ex_isub (pc' := 43) dX4_hitsOf_42 rfl ?_
    obtain ⟨hg5, hf⟩ := of_guard hf
    refine ex_siald (pc' := 44) dX4_hitsOf_43 (by decide) (inb_in hg5) rfl ?_
    refine ex_imul (pc' := 45) dX4_hitsOf_44 rfl ?_
    obtain ⟨x6, hx6, hf⟩ := of_let hf
    rw [← hx6]
    refine ex_istore (lv' := [(6, .int x6), (0, .ref (gB G + 91)), (1, .ref (gB G + a1)), (2, .int v2), (3, .int v3), (4, .int v4), (5, .int v5)]) (pc' := 47) dX4_hitsOf_45 (Nat.le_of_ble_eq_true rfl) rfl rfl ?_
    refine ex_iload_n 4 (pc' := 48) dX4_hitsOf_47 rfl rfl rfl ?_
    refine ex_iload 6 (pc' := 50) dX4_hitsOf_48 rfl rfl ?_
    refine ex_iload_n 3 (pc' := 51) dX4_hitsOf_50 rfl rfl rfl ?_
    refine ex_isub (pc' := 52) dX4_hitsOf_51 rfl ?_
    refine ex_iconst (v := 2) (pc' := 53) dX4_hitsOf_52 ic_2 rfl ?_
    refine ex_irem (pc' := 54) dX4_hitsOf_53 (by decide) rfl ?_
    refine ex_ifne (tgt := 62) (pc' := 57) dX4_hitsOf_54 (by decide) rfl (fun hc7 => ?_) (fun hc7 => ?_)
    · replace hf := if_t hc7 hf
      refine ex_iload 0 (pc' := 59) dX4_hitsOf_57 rfl rfl ?_
      refine ex_goto (tgt := 65) dX4_hitsOf_59 (by decide) ?_
      refine ex_sub [1, 2, 3, 5, 6] rfl (k_X4_hitsOf_b14_j65 hM h1 hf hC hX)
    · replace hf := if_f hc7 hf
      refine ex_iload 0 (pc' := 64) dX4_hitsOf_62 rfl rfl ?_
      refine ex_ineg (pc' := 65) dX4_hitsOf_64 rfl ?_
      refine ex_sub [1, 2, 3, 5, 6] rfl (k_X4_hitsOf_b14_j65 hM h1 hf hC hX)
def f_X4_hitsOf_l14 (N : Nat) (a1 : Nat) (v2 : Int32) (v3 : Int32) (v4 : Int32) (v5 : Int32) (I : MI) : Option (Int32) := loopN (fun s => f_X4_hitsOf_b14 N a1 v2 s.1 s.2.1 s.2.2 I) N (v3, v4, v5)
set_option maxRecDepth 100000 in
set_option maxHeartbeats 4000000 in
theorem k_X4_hitsOf_l14 {G : GX} {Q : State → Prop} {X : MX} (hM : shX10 X) {a1 : Nat} {v2 : Int32} (h1 : shX0 X a1) {N0 : Nat} {I : MI} {L : ML} {out : (Int32)} (hX : ∀ (w3 : Int32), out = w3 → Ex G mX4_hitsOf rmX4_hitsOf Q (0, 0) X I L 89 [(3, .int w3)] []) : ∀ (N : Nat) (v3 : Int32) (v4 : Int32) (v5 : Int32), loopN (fun s => f_X4_hitsOf_b14 N0 a1 v2 s.1 s.2.1 s.2.2 I) N (v3, v4, v5) = some out → Ex G mX4_hitsOf rmX4_hitsOf Q (0, 0) X I L 14 [(0, .ref (gB G + 91)), (1, .ref (gB G + a1)), (2, .int v2), (3, .int v3), (4, .int v4), (5, .int v5)] [] := by
  intro N
  induction N with
  | zero => intro v3 v4 v5 hf; exact absurd (loopN_zero hf) id
  | succ n ih =>
    intro v3 v4 v5 hf
    rcases loopN_succ hf with ⟨s, hb, hl⟩ | hb
    · obtain ⟨v3', v4', v5'⟩ := s
      refine k_X4_hitsOf_b14 hM h1 hb (fun _ _ _ he => ?_) (fun _ he => by cases he)
      cases he
      exact ih v3' v4' v5' hl
    · exact k_X4_hitsOf_b14 hM h1 hb (fun _ _ _ he => by cases he) (fun x0 he => hX x0 (Sum.inr.inj he))
def f_X4_hitsOf (N : Nat) (a1 : Nat) (v2 : Int32) (I : MI) : Option (Int32 × MI) := bnd1 (f_X4_countsOf N a1 I) fun I1 => bnd1 (f_X4_hitsOf_l14 N a1 v2 0 1 v2 I1) fun x9 => some (x9, I1)
set_option maxRecDepth 100000 in
set_option maxHeartbeats 4000000 in
theorem kb_X4_hitsOf {G : GX} {Q : State → Prop} {X : MX} (hM : shX10 X) {a1 : Nat} {v2 : Int32} (h1 : shX0 X a1) {N : Nat} {I : MI} {L : ML} {out : Int32 × MI} (hf : f_X4_hitsOf N a1 v2 I = some out) (hR : ∀ (z : Int32) (I' : MI), out = (z, I') → Q = RetQ G (some (.int z)) X I' L (0, 0)) : Ex G mX4_hitsOf rmX4_hitsOf Q (0, 0) X I L 0 [(0, .ref (gB G + 91)), (1, .ref (gB G + a1)), (2, .int v2)] [] := by
  unfold f_X4_hitsOf at hf
  refine ex_aload_n 0 (pc' := 1) dX4_hitsOf_0 rfl rfl rfl ?_
  refine ex_aload_n 1 (pc' := 2) dX4_hitsOf_1 rfl rfl rfl ?_
  obtain ⟨I1, hq2, hf⟩ := of_bnd1 hf
  refine ex_callV_r (rm' := rmX4_countsOf) (st := []) (pc' := 5) [.ref (gB G + a1)] dX4_hitsOf_2 cl_X4_52 (k_X4_countsOf G hM h1 hq2) rfl (sh4_k (sh10_T7 hM)) ⟨_, _, rfl⟩ rfl rfl (ROOM_of rfl) (Nat.le_of_ble_eq_true rfl) rfl rfl ?_
  refine ex_pop (pc' := 6) dX4_hitsOf_5 rfl rfl ?_
  refine ex_iconst (v := 0) (pc' := 7) dX4_hitsOf_6 ic_0 rfl ?_
  refine ex_istore_n (lv' := [(3, .int 0), (0, .ref (gB G + 91)), (1, .ref (gB G + a1)), (2, .int v2)]) (pc' := 8) dX4_hitsOf_7 rfl (Nat.le_of_ble_eq_true rfl) rfl rfl ?_
  refine ex_iconst (v := 1) (pc' := 9) dX4_hitsOf_8 ic_1 rfl ?_
  refine ex_istore (lv' := [(4, .int 1), (3, .int 0), (0, .ref (gB G + 91)), (1, .ref (gB G + a1)), (2, .int v2)]) (pc' := 11) dX4_hitsOf_9 (Nat.le_of_ble_eq_true rfl) rfl rfl ?_
  refine ex_iload_n 4 (pc' := 12) dX4_hitsOf_11 rfl rfl rfl ?_
  refine ex_istore (lv' := [(5, .int v2), (4, .int 1), (3, .int 0), (0, .ref (gB G + 91)), (1, .ref (gB G + a1)), (2, .int v2)]) (pc' := 14) dX4_hitsOf_12 (Nat.le_of_ble_eq_true rfl) rfl rfl ?_
  refine ex_sub (lv' := [(0, .ref (gB G + 91)), (1, .ref (gB G + a1)), (2, .int v2), (3, .int 0), (4, .int 1), (5, .int v2)]) [3, 4, 5, 2, 1, 0] rfl ?_
  obtain ⟨x9, hq10, hf⟩ := of_bnd1 hf
  refine k_X4_hitsOf_l14 hM h1 (fun x9' he => ?_) _ _ _ _ hq10
  cases he
  refine ex_iload_n 0 (pc' := 90) dX4_hitsOf_89 rfl rfl rfl ?_
  exact ex_iret dX4_hitsOf_90 rfl (hR _ _ (Option.some.inj hf).symm)
set_option maxRecDepth 100000 in
set_option maxHeartbeats 4000000 in
theorem k_X4_hitsOf (G : GX) {X : MX} (hM : shX10 X) {a1 : Nat} {v2 : Int32} (h1 : shX0 X a1) {N : Nat} {I : MI} {L : ML} {z : Int32} {I' : MI} (hf : f_X4_hitsOf N a1 v2 I = some (z, I')) : Con G mX4_hitsOf yX4_hitsOf rmX4_hitsOf (fun B => [.ref (B + 91), .ref (B + a1), .int v2]) X I L (some (.int z)) X I' L :=
  Con.of (by decide) rfl (fun h => by cases h) (fun B => Nat.le_of_ble_eq_true rfl) (fun G => kb_X4_hitsOf hM h1 hf (fun _ _ he => by cases he; rfl))
theorem cl_X4_71 : Cond.methodLink RX4 71 Lib.Math.min.name ∈ lwg ∧ Cond.static Lib.Math.min.name ∈ lwg ∧ Cond.initialized "java/lang/Math" ∈ lwg ∧ Cond.code Lib.Math.min.name Lib.Math.min.code 2 (some .int) ∈ lwg := ⟨lwg_at 738 (by decide +kernel) rfl, lwg_at 415 (by decide +kernel) rfl, lwg_at 62 (by decide +kernel) rfl, lwg_at 416 (by decide +kernel) rfl⟩
-- X4_leastFrom ('RookWords$Rooks', 'leastFrom', '(LRookWords$Board;[III)I')
def rmX4_leastFrom : RM := ((1, 24, 0, 0), false, (some FieldType.int))
def f_X4_leastFrom_b19 (N : Nat) (a1 : Nat) (a2 : Nat) (n2 : Nat) (v3 : Int32) (v4 : Int32) (v5 : Int32) (v6 : Int32) (I : MI) : Option ((Int32 × Int32) ⊕ (Int32)) := (if v6 < (I a1 0) then bnd1 (f_X0_has a1 v3 v6 I) fun r4 => (if r4 = 0 then some (.inl (v5, v6 + 1)) else (if ((jshr v4 v6) &&& 1) = 0 then bnd1 (f_X4_leastWith a2 n2 v3 v6 v4 I) fun r8 => letv (if r8 < v5 then r8 else v5) fun x10 => some (.inl (x10, v6 + 1)) else some (.inl (v5, v6 + 1)))) else some (.inr v5))
set_option maxRecDepth 100000 in
set_option maxHeartbeats 4000000 in
theorem k_X4_leastFrom_b19 {G : GX} {Q : State → Prop} {X : MX} (hM : shX10 X) {a1 : Nat} {a2 : Nat} {n2 : Nat} {v3 : Int32} {v4 : Int32} (h1 : shX0 X a1) (h2 : X.1 a2 = (2, n2)) {v5 : Int32} {v6 : Int32} {N : Nat} {I : MI} {L : ML} {out : (Int32 × Int32) ⊕ (Int32)} (hf : f_X4_leastFrom_b19 N a1 a2 n2 v3 v4 v5 v6 I = some out) (hC : ∀ (v5' : Int32) (v6' : Int32), out = .inl (v5', v6') → Ex G mX4_leastFrom rmX4_leastFrom Q (0, 0) X I L 19 [(0, .ref (gB G + 91)), (1, .ref (gB G + a1)), (2, .ref (gB G + a2)), (3, .int v3), (4, .int v4), (5, .int v5'), (6, .int v6')] []) (hX : ∀ (w5 : Int32), out = .inr w5 → Ex G mX4_leastFrom rmX4_leastFrom Q (0, 0) X I L 71 [(5, .int w5)] []) : Ex G mX4_leastFrom rmX4_leastFrom Q (0, 0) X I L 19 [(0, .ref (gB G + 91)), (1, .ref (gB G + a1)), (2, .ref (gB G + a2)), (3, .int v3), (4, .int v4), (5, .int v5), (6, .int v6)] [] := by
  unfold f_X4_leastFrom_b19 at hf
  refine ex_iload 6 (pc' := 21) dX4_leastFrom_19 rfl rfl ?_
  refine ex_aload_n 1 (pc' := 22) dX4_leastFrom_21 rfl rfl rfl ?_
  refine ex_getI (pc' := 25) dX4_leastFrom_22 fl_X4_27 rfl (sh0_k h1) rfl ?_
  refine ex_icmpge (tgt := 71) (pc' := 28) dX4_leastFrom_25 (by decide) rfl (fun hc3 => ?_) (fun hc3 => ?_)
  · replace hf := if_t hc3 hf
    refine ex_aload_n 1 (pc' := 29) dX4_leastFrom_28 rfl rfl rfl ?_
    refine ex_iload_n 3 (pc' := 30) dX4_leastFrom_29 rfl rfl rfl ?_
    refine ex_iload 6 (pc' := 32) dX4_leastFrom_30 rfl rfl ?_
    obtain ⟨r4, hq5, hf⟩ := of_bnd1 hf
    refine ex_callV_i (rm' := rmX0_has) (st := []) (pc' := 35) [.int v3, .int v6] dX4_leastFrom_32 cl_X4_63 (k_X0_has G h1 hq5) rfl (sh0_k h1) ⟨_, _, rfl⟩ rfl rfl (ROOM_of rfl) (Nat.le_of_ble_eq_true rfl) rfl rfl ?_
    refine ex_ifeq (tgt := 65) (pc' := 38) dX4_leastFrom_35 (by decide) rfl (fun hc6 => ?_) (fun hc6 => ?_)
    · replace hf := if_t hc6 hf
      refine ex_iincc (lv' := [(6, .int (v6 + 1)), (0, .ref (gB G + 91)), (1, .ref (gB G + a1)), (2, .ref (gB G + a2)), (3, .int v3), (4, .int v4), (5, .int v5)]) 6 (pc' := 68) dX4_leastFrom_65 rfl ic_1 (Nat.le_of_ble_eq_true rfl) rfl rfl ?_
      refine ex_goto (tgt := 19) dX4_leastFrom_68 (by decide) ?_
      exact ex_sub [1, 2, 3, 4, 5, 6, 0] rfl (hC _ _ (Option.some.inj hf).symm)
    · replace hf := if_f hc6 hf
      refine ex_iload 4 (pc' := 40) dX4_leastFrom_38 rfl rfl ?_
      refine ex_iload 6 (pc' := 42) dX4_leastFrom_40 rfl rfl ?_
      refine ex_ishr (pc' := 43) dX4_leastFrom_42 rfl ?_
      refine ex_iconst (v := 1) (pc' := 44) dX4_leastFrom_43 ic_1 rfl ?_
      refine ex_iand (pc' := 45) dX4_leastFrom_44 rfl ?_
      refine ex_ifne (tgt := 65) (pc' := 48) dX4_leastFrom_45 (by decide) rfl (fun hc7 => ?_) (fun hc7 => ?_)
      · replace hf := if_t hc7 hf
        refine ex_iload 5 (pc' := 50) dX4_leastFrom_48 rfl rfl ?_
        refine ex_aload_n 0 (pc' := 51) dX4_leastFrom_50 rfl rfl rfl ?_
        refine ex_aload_n 2 (pc' := 52) dX4_leastFrom_51 rfl rfl rfl ?_
        refine ex_iload_n 3 (pc' := 53) dX4_leastFrom_52 rfl rfl rfl ?_
        refine ex_iload 6 (pc' := 55) dX4_leastFrom_53 rfl rfl ?_
        refine ex_iload 4 (pc' := 57) dX4_leastFrom_55 rfl rfl ?_
        obtain ⟨r8, hq9, hf⟩ := of_bnd1 hf
        refine ex_callV_i (rm' := rmX4_leastWith) (st := [.int v5]) (pc' := 60) [.ref (gB G + a2), .int v3, .int v6, .int v4] dX4_leastFrom_57 cl_X4_67 (k_X4_leastWith G hM h2 hq9) rfl (sh4_k (sh10_T7 hM)) ⟨_, _, rfl⟩ rfl rfl (ROOM_of rfl) (Nat.le_of_ble_eq_true rfl) rfl rfl ?_
        refine ex_mmin (pc' := 63) dX4_leastFrom_60 cl_X4_71 ⟨Nat.le_of_ble_eq_true rfl, Nat.le_of_ble_eq_true rfl, Nat.le_of_ble_eq_true rfl, Nat.le_of_ble_eq_true rfl⟩ rfl ?_
        obtain ⟨x10, hx10, hf⟩ := of_let hf
        rw [← hx10]
        refine ex_istore (lv' := [(5, .int x10), (0, .ref (gB G + 91)), (1, .ref (gB G + a1)), (2, .ref (gB G + a2)), (3, .int v3), (4, .int v4), (6, .int v6)]) (pc' := 65) dX4_leastFrom_63 (Nat.le_of_ble_eq_true rfl) rfl rfl ?_
        refine ex_iincc (lv' := [(6, .int (v6 + 1)), (5, .int x10), (0, .ref (gB G + 91)), (1, .ref (gB G + a1)), (2, .ref (gB G + a2)), (3, .int v3), (4, .int v4)]) 6 (pc' := 68) dX4_leastFrom_65 rfl ic_1 (Nat.le_of_ble_eq_true rfl) rfl rfl ?_
        refine ex_goto (tgt := 19) dX4_leastFrom_68 (by decide) ?_
        exact ex_sub [2, 3, 4, 5, 6, 1, 0] rfl (hC _ _ (Option.some.inj hf).symm)
      · replace hf := if_f hc7 hf
        refine ex_iincc (lv' := [(6, .int (v6 + 1)), (0, .ref (gB G + 91)), (1, .ref (gB G + a1)), (2, .ref (gB G + a2)), (3, .int v3), (4, .int v4), (5, .int v5)]) 6 (pc' := 68) dX4_leastFrom_65 rfl ic_1 (Nat.le_of_ble_eq_true rfl) rfl rfl ?_
        refine ex_goto (tgt := 19) dX4_leastFrom_68 (by decide) ?_
        exact ex_sub [1, 2, 3, 4, 5, 6, 0] rfl (hC _ _ (Option.some.inj hf).symm)
  · replace hf := if_f hc3 hf
    exact ex_sub [5] rfl (hX _ (Option.some.inj hf).symm)
def f_X4_leastFrom_l19 (N : Nat) (a1 : Nat) (a2 : Nat) (n2 : Nat) (v3 : Int32) (v4 : Int32) (v5 : Int32) (v6 : Int32) (I : MI) : Option (Int32) := loopN (fun s => f_X4_leastFrom_b19 N a1 a2 n2 v3 v4 s.1 s.2 I) N (v5, v6)
set_option maxRecDepth 100000 in
set_option maxHeartbeats 4000000 in
theorem k_X4_leastFrom_l19 {G : GX} {Q : State → Prop} {X : MX} (hM : shX10 X) {a1 : Nat} {a2 : Nat} {n2 : Nat} {v3 : Int32} {v4 : Int32} (h1 : shX0 X a1) (h2 : X.1 a2 = (2, n2)) {N0 : Nat} {I : MI} {L : ML} {out : (Int32)} (hX : ∀ (w5 : Int32), out = w5 → Ex G mX4_leastFrom rmX4_leastFrom Q (0, 0) X I L 71 [(5, .int w5)] []) : ∀ (N : Nat) (v5 : Int32) (v6 : Int32), loopN (fun s => f_X4_leastFrom_b19 N0 a1 a2 n2 v3 v4 s.1 s.2 I) N (v5, v6) = some out → Ex G mX4_leastFrom rmX4_leastFrom Q (0, 0) X I L 19 [(0, .ref (gB G + 91)), (1, .ref (gB G + a1)), (2, .ref (gB G + a2)), (3, .int v3), (4, .int v4), (5, .int v5), (6, .int v6)] [] := by
  intro N
  induction N with
  | zero => intro v5 v6 hf; exact absurd (loopN_zero hf) id
  | succ n ih =>
    intro v5 v6 hf
    rcases loopN_succ hf with ⟨s, hb, hl⟩ | hb
    · obtain ⟨v5', v6'⟩ := s
      refine k_X4_leastFrom_b19 hM h1 h2 hb (fun _ _ he => ?_) (fun _ he => by cases he)
      cases he
      exact ih v5' v6' hl
    · exact k_X4_leastFrom_b19 hM h1 h2 hb (fun _ _ he => by cases he) (fun x0 he => hX x0 (Sum.inr.inj he))
def f_X4_leastFrom (N : Nat) (a1 : Nat) (a2 : Nat) (n2 : Nat) (v3 : Int32) (v4 : Int32) (I : MI) : Option (Int32) := if inb (((v3 + 1) * 64) + v4) 448 then letv (I 94 (Int32.toNatClampNeg (((v3 + 1) * 64) + v4))) fun x2 => bnd1 (f_X4_leastFrom_l19 N a1 a2 n2 v3 v4 x2 0 I) fun x11 => some x11 else none
set_option maxRecDepth 100000 in
set_option maxHeartbeats 4000000 in
theorem kb_X4_leastFrom {G : GX} {Q : State → Prop} {X : MX} (hM : shX10 X) {a1 : Nat} {a2 : Nat} {n2 : Nat} {v3 : Int32} {v4 : Int32} (h1 : shX0 X a1) (h2 : X.1 a2 = (2, n2)) {N : Nat} {I : MI} {L : ML} {out : Int32} (hf : f_X4_leastFrom N a1 a2 n2 v3 v4 I = some out) (hR : ∀ (z : Int32), out = z → Q = RetQ G (some (.int z)) X I L (0, 0)) : Ex G mX4_leastFrom rmX4_leastFrom Q (0, 0) X I L 0 [(0, .ref (gB G + 91)), (1, .ref (gB G + a1)), (2, .ref (gB G + a2)), (3, .int v3), (4, .int v4)] [] := by
  unfold f_X4_leastFrom at hf
  refine ex_aload_n 0 (pc' := 1) dX4_leastFrom_0 rfl rfl rfl ?_
  refine ex_getR (pc' := 4) dX4_leastFrom_1 fl_X4_18 rfl (sh4_k (sh10_T7 hM)) (sh4_F2 (sh10_T7 hM)) rfl ?_
  refine ex_iload_n 3 (pc' := 5) dX4_leastFrom_4 rfl rfl rfl ?_
  refine ex_iconst (v := 1) (pc' := 6) dX4_leastFrom_5 ic_1 rfl ?_
  refine ex_iadd (pc' := 7) dX4_leastFrom_6 rfl ?_
  refine ex_bipush (v := 64) (pc' := 9) dX4_leastFrom_7 bp_64 rfl ?_
  refine ex_imul (pc' := 10) dX4_leastFrom_9 rfl ?_
  refine ex_iload 4 (pc' := 12) dX4_leastFrom_10 rfl rfl ?_
  refine ex_iadd (pc' := 13) dX4_leastFrom_12 rfl ?_
  obtain ⟨hg1, hf⟩ := of_guard hf
  refine ex_iald (pc' := 14) dX4_leastFrom_13 (sh4_T2 (sh10_T7 hM)) (inb_in hg1) rfl ?_
  obtain ⟨x2, hx2, hf⟩ := of_let hf
  rw [← hx2]
  refine ex_istore (lv' := [(5, .int x2), (0, .ref (gB G + 91)), (1, .ref (gB G + a1)), (2, .ref (gB G + a2)), (3, .int v3), (4, .int v4)]) (pc' := 16) dX4_leastFrom_14 (Nat.le_of_ble_eq_true rfl) rfl rfl ?_
  refine ex_iconst (v := 0) (pc' := 17) dX4_leastFrom_16 ic_0 rfl ?_
  refine ex_istore (lv' := [(6, .int 0), (5, .int x2), (0, .ref (gB G + 91)), (1, .ref (gB G + a1)), (2, .ref (gB G + a2)), (3, .int v3), (4, .int v4)]) (pc' := 19) dX4_leastFrom_17 (Nat.le_of_ble_eq_true rfl) rfl rfl ?_
  refine ex_sub (lv' := [(0, .ref (gB G + 91)), (1, .ref (gB G + a1)), (2, .ref (gB G + a2)), (3, .int v3), (4, .int v4), (5, .int x2), (6, .int 0)]) [2, 3, 4, 5, 6, 1, 0] rfl ?_
  obtain ⟨x11, hq12, hf⟩ := of_bnd1 hf
  refine k_X4_leastFrom_l19 hM h1 h2 (fun x11' he => ?_) _ _ _ hq12
  cases he
  refine ex_iload 0 (pc' := 73) dX4_leastFrom_71 rfl rfl ?_
  exact ex_iret dX4_leastFrom_73 rfl (hR _ (Option.some.inj hf).symm)
set_option maxRecDepth 100000 in
set_option maxHeartbeats 4000000 in
theorem k_X4_leastFrom (G : GX) {X : MX} (hM : shX10 X) {a1 : Nat} {a2 : Nat} {n2 : Nat} {v3 : Int32} {v4 : Int32} (h1 : shX0 X a1) (h2 : X.1 a2 = (2, n2)) {N : Nat} {I : MI} {L : ML} {z : Int32} (hf : f_X4_leastFrom N a1 a2 n2 v3 v4 I = some z) : Con G mX4_leastFrom yX4_leastFrom rmX4_leastFrom (fun B => [.ref (B + 91), .ref (B + a1), .ref (B + a2), .int v3, .int v4]) X I L (some (.int z)) X I L :=
  Con.of (by decide) rfl (fun h => by cases h) (fun B => Nat.le_of_ble_eq_true rfl) (fun G => kb_X4_leastFrom hM h1 h2 hf (fun _ he => by cases he; rfl))
-- X4_weightOfStand ('RookWords$Rooks', 'weightOfStand', '(LRookWords$Board;[III)I')
def rmX4_weightOfStand : RM := ((1, 22, 0, 0), false, (some FieldType.int))
def f_X4_weightOfStand_b17 (N : Nat) (a0 : Nat) (a1 : Nat) (n1 : Nat) (v3 : Int32) (v4 : Int32) (v5 : Int32) (v6 : Int32) (v7 : Int32) (I : MI) : Option ((Int32 × Int32 × Int32 × Int32) ⊕ ((Int32 × Int32) ⊕ (Int32))) := (if v7 < 0 then some (.inr (.inl (v5, v6))) else if ((I a0 0) + 1) = 0 then none else if ((I a0 0) + 1) = 0 then none else (if (jrem v4 ((I a0 0) + 1)) = (I a0 0) then some (.inl (v4 / ((I a0 0) + 1), v5, v6, v7 + (-1))) else bnd1 (f_X0_has a0 v7 (jrem v4 ((I a0 0) + 1)) I) fun r5 => (if r5 = 0 then some (.inr (.inr (-1))) else (if ((jshr v5 (jrem v4 ((I a0 0) + 1))) &&& 1) = 0 then letv (v5 ||| (jshl 1 (jrem v4 ((I a0 0) + 1)))) fun x9 => if inb ((v7 * 6) + (jrem v4 ((I a0 0) + 1))) n1 then letv (v6 + (I a1 (Int32.toNatClampNeg ((v7 * 6) + (jrem v4 ((I a0 0) + 1)))))) fun x11 => some (.inl (v4 / ((I a0 0) + 1), x9, x11, v7 + (-1))) else none else some (.inr (.inr (-1)))))))
set_option maxRecDepth 100000 in
set_option maxHeartbeats 4000000 in
theorem k_X4_weightOfStand_b17 {G : GX} {Q : State → Prop} {X : MX} {a0 : Nat} {a1 : Nat} {n1 : Nat} {v3 : Int32} (h0 : shX0 X a0) (h1 : X.1 a1 = (2, n1)) {v4 : Int32} {v5 : Int32} {v6 : Int32} {v7 : Int32} {N : Nat} {I : MI} {L : ML} {out : (Int32 × Int32 × Int32 × Int32) ⊕ ((Int32 × Int32) ⊕ (Int32))} (hf : f_X4_weightOfStand_b17 N a0 a1 n1 v3 v4 v5 v6 v7 I = some out) (hC : ∀ (v4' : Int32) (v5' : Int32) (v6' : Int32) (v7' : Int32), out = .inl (v4', v5', v6', v7') → Ex G mX4_weightOfStand rmX4_weightOfStand Q (0, 0) X I L 17 [(0, .ref (gB G + a0)), (1, .ref (gB G + a1)), (3, .int v3), (4, .int v4'), (5, .int v5'), (6, .int v6'), (7, .int v7')] []) (hX : ∀ (w5 : Int32) (w6 : Int32), out = .inr (.inl (w5, w6)) → Ex G mX4_weightOfStand rmX4_weightOfStand Q (0, 0) X I L 109 [(3, .int v3), (5, .int w5), (6, .int w6)] []) (hR : ∀ (z : Int32), out = .inr (.inr z) → Q = RetQ G (some (.int z)) X I L (0, 0)) : Ex G mX4_weightOfStand rmX4_weightOfStand Q (0, 0) X I L 17 [(0, .ref (gB G + a0)), (1, .ref (gB G + a1)), (3, .int v3), (4, .int v4), (5, .int v5), (6, .int v6), (7, .int v7)] [] := by
  unfold f_X4_weightOfStand_b17 at hf
  refine ex_iload 6 (pc' := 19) dX4_weightOfStand_17 rfl rfl ?_
  refine ex_iflt (tgt := 109) (pc' := 22) dX4_weightOfStand_19 (by decide) rfl (fun hc1 => ?_) (fun hc1 => ?_)
  · replace hf := if_t hc1 hf
    exact ex_sub [2, 4, 5] rfl (hX _ _ (Option.some.inj hf).symm)
  · replace hf := if_f hc1 hf
    refine ex_iload 3 (pc' := 24) dX4_weightOfStand_22 rfl rfl ?_
    refine ex_aload_n 0 (pc' := 25) dX4_weightOfStand_24 rfl rfl rfl ?_
    refine ex_getI (pc' := 28) dX4_weightOfStand_25 fl_X4_27 rfl (sh0_k h0) rfl ?_
    refine ex_iconst (v := 1) (pc' := 29) dX4_weightOfStand_28 ic_1 rfl ?_
    refine ex_iadd (pc' := 30) dX4_weightOfStand_29 rfl ?_
    obtain ⟨hg2, hf⟩ := of_guardN hf
    refine ex_irem (pc' := 31) dX4_weightOfStand_30 hg2 rfl ?_
    refine ex_istore (lv' := [(8, .int (jrem v4 ((I a0 0) + 1))), (0, .ref (gB G + a0)), (1, .ref (gB G + a1)), (3, .int v3), (4, .int v4), (5, .int v5), (6, .int v6), (7, .int v7)]) (pc' := 33) dX4_weightOfStand_31 (Nat.le_of_ble_eq_true rfl) rfl rfl ?_
    refine ex_iload 4 (pc' := 35) dX4_weightOfStand_33 rfl rfl ?_
    refine ex_aload_n 1 (pc' := 36) dX4_weightOfStand_35 rfl rfl rfl ?_
    refine ex_getI (pc' := 39) dX4_weightOfStand_36 fl_X4_27 rfl (sh0_k h0) rfl ?_
    refine ex_iconst (v := 1) (pc' := 40) dX4_weightOfStand_39 ic_1 rfl ?_
    refine ex_iadd (pc' := 41) dX4_weightOfStand_40 rfl ?_
    obtain ⟨hg3, hf⟩ := of_guardN hf
    refine ex_idiv (pc' := 42) dX4_weightOfStand_41 hg3 rfl ?_
    refine ex_istore (lv' := [(4, .int (v4 / ((I a0 0) + 1))), (8, .int (jrem v4 ((I a0 0) + 1))), (0, .ref (gB G + a0)), (1, .ref (gB G + a1)), (3, .int v3), (5, .int v5), (6, .int v6), (7, .int v7)]) (pc' := 44) dX4_weightOfStand_42 (Nat.le_of_ble_eq_true rfl) rfl rfl ?_
    refine ex_iload 1 (pc' := 46) dX4_weightOfStand_44 rfl rfl ?_
    refine ex_aload_n 2 (pc' := 47) dX4_weightOfStand_46 rfl rfl rfl ?_
    refine ex_getI (pc' := 50) dX4_weightOfStand_47 fl_X4_27 rfl (sh0_k h0) rfl ?_
    refine ex_icmpne (tgt := 56) (pc' := 53) dX4_weightOfStand_50 (by decide) rfl (fun hc4 => ?_) (fun hc4 => ?_)
    · replace hf := if_t hc4 hf
      refine ex_goto (tgt := 103) dX4_weightOfStand_53 (by decide) ?_
      refine ex_iincc (lv' := [(7, .int (v7 + (-1))), (4, .int (v4 / ((I a0 0) + 1))), (8, .int (jrem v4 ((I a0 0) + 1))), (0, .ref (gB G + a0)), (1, .ref (gB G + a1)), (3, .int v3), (5, .int v5), (6, .int v6)]) 7 (pc' := 106) dX4_weightOfStand_103 rfl ic_m1 (Nat.le_of_ble_eq_true rfl) rfl rfl ?_
      refine ex_goto (tgt := 17) dX4_weightOfStand_106 (by decide) ?_
      exact ex_sub [3, 4, 5, 1, 6, 7, 0] rfl (hC _ _ _ _ (Option.some.inj hf).symm)
    · replace hf := if_f hc4 hf
      refine ex_aload_n 2 (pc' := 57) dX4_weightOfStand_56 rfl rfl rfl ?_
      refine ex_iload 7 (pc' := 59) dX4_weightOfStand_57 rfl rfl ?_
      refine ex_iload 1 (pc' := 61) dX4_weightOfStand_59 rfl rfl ?_
      obtain ⟨r5, hq6, hf⟩ := of_bnd1 hf
      refine ex_callV_i (rm' := rmX0_has) (st := []) (pc' := 64) [.int v7, .int (jrem v4 ((I a0 0) + 1))] dX4_weightOfStand_61 cl_X4_63 (k_X0_has G h0 hq6) rfl (sh0_k h0) ⟨_, _, rfl⟩ rfl rfl (ROOM_of rfl) (Nat.le_of_ble_eq_true rfl) rfl rfl ?_
      refine ex_ifeq (tgt := 77) (pc' := 67) dX4_weightOfStand_64 (by decide) rfl (fun hc7 => ?_) (fun hc7 => ?_)
      · replace hf := if_t hc7 hf
        refine ex_iconst (v := (-1)) (pc' := 78) dX4_weightOfStand_77 ic_m1 rfl ?_
        exact ex_iret dX4_weightOfStand_78 rfl (hR _ (Option.some.inj hf).symm)
      · replace hf := if_f hc7 hf
        refine ex_iload 5 (pc' := 69) dX4_weightOfStand_67 rfl rfl ?_
        refine ex_iload 1 (pc' := 71) dX4_weightOfStand_69 rfl rfl ?_
        refine ex_ishr (pc' := 72) dX4_weightOfStand_71 rfl ?_
        refine ex_iconst (v := 1) (pc' := 73) dX4_weightOfStand_72 ic_1 rfl ?_
        refine ex_iand (pc' := 74) dX4_weightOfStand_73 rfl ?_
        refine ex_ifeq (tgt := 79) (pc' := 77) dX4_weightOfStand_74 (by decide) rfl (fun hc8 => ?_) (fun hc8 => ?_)
        · replace hf := if_t hc8 hf
          refine ex_iload 5 (pc' := 81) dX4_weightOfStand_79 rfl rfl ?_
          refine ex_iconst (v := 1) (pc' := 82) dX4_weightOfStand_81 ic_1 rfl ?_
          refine ex_iload 1 (pc' := 84) dX4_weightOfStand_82 rfl rfl ?_
          refine ex_ishl (pc' := 85) dX4_weightOfStand_84 rfl ?_
          refine ex_ior (pc' := 86) dX4_weightOfStand_85 rfl ?_
          obtain ⟨x9, hx9, hf⟩ := of_let hf
          rw [← hx9]
          refine ex_istore (lv' := [(5, .int x9), (4, .int (v4 / ((I a0 0) + 1))), (8, .int (jrem v4 ((I a0 0) + 1))), (0, .ref (gB G + a0)), (1, .ref (gB G + a1)), (3, .int v3), (6, .int v6), (7, .int v7)]) (pc' := 88) dX4_weightOfStand_86 (Nat.le_of_ble_eq_true rfl) rfl rfl ?_
          refine ex_iload 6 (pc' := 90) dX4_weightOfStand_88 rfl rfl ?_
          refine ex_aload_n 4 (pc' := 91) dX4_weightOfStand_90 rfl rfl rfl ?_
          refine ex_iload 7 (pc' := 93) dX4_weightOfStand_91 rfl rfl ?_
          refine ex_bipush (v := 6) (pc' := 95) dX4_weightOfStand_93 bp_6 rfl ?_
          refine ex_imul (pc' := 96) dX4_weightOfStand_95 rfl ?_
          refine ex_iload 2 (pc' := 98) dX4_weightOfStand_96 rfl rfl ?_
          refine ex_iadd (pc' := 99) dX4_weightOfStand_98 rfl ?_
          obtain ⟨hg10, hf⟩ := of_guard hf
          refine ex_iald (pc' := 100) dX4_weightOfStand_99 h1 (inb_in hg10) rfl ?_
          refine ex_iadd (pc' := 101) dX4_weightOfStand_100 rfl ?_
          obtain ⟨x11, hx11, hf⟩ := of_let hf
          rw [← hx11]
          refine ex_istore (lv' := [(6, .int x11), (5, .int x9), (4, .int (v4 / ((I a0 0) + 1))), (8, .int (jrem v4 ((I a0 0) + 1))), (0, .ref (gB G + a0)), (1, .ref (gB G + a1)), (3, .int v3), (7, .int v7)]) (pc' := 103) dX4_weightOfStand_101 (Nat.le_of_ble_eq_true rfl) rfl rfl ?_
          refine ex_iincc (lv' := [(7, .int (v7 + (-1))), (6, .int x11), (5, .int x9), (4, .int (v4 / ((I a0 0) + 1))), (8, .int (jrem v4 ((I a0 0) + 1))), (0, .ref (gB G + a0)), (1, .ref (gB G + a1)), (3, .int v3)]) 7 (pc' := 106) dX4_weightOfStand_103 rfl ic_m1 (Nat.le_of_ble_eq_true rfl) rfl rfl ?_
          refine ex_goto (tgt := 17) dX4_weightOfStand_106 (by decide) ?_
          exact ex_sub [5, 6, 7, 3, 2, 1, 0] rfl (hC _ _ _ _ (Option.some.inj hf).symm)
        · replace hf := if_f hc8 hf
          refine ex_iconst (v := (-1)) (pc' := 78) dX4_weightOfStand_77 ic_m1 rfl ?_
          exact ex_iret dX4_weightOfStand_78 rfl (hR _ (Option.some.inj hf).symm)
def f_X4_weightOfStand_l17 (N : Nat) (a0 : Nat) (a1 : Nat) (n1 : Nat) (v3 : Int32) (v4 : Int32) (v5 : Int32) (v6 : Int32) (v7 : Int32) (I : MI) : Option ((Int32 × Int32) ⊕ (Int32)) := loopN (fun s => f_X4_weightOfStand_b17 N a0 a1 n1 v3 s.1 s.2.1 s.2.2.1 s.2.2.2 I) N (v4, v5, v6, v7)
set_option maxRecDepth 100000 in
set_option maxHeartbeats 4000000 in
theorem k_X4_weightOfStand_l17 {G : GX} {Q : State → Prop} {X : MX} {a0 : Nat} {a1 : Nat} {n1 : Nat} {v3 : Int32} (h0 : shX0 X a0) (h1 : X.1 a1 = (2, n1)) {N0 : Nat} {I : MI} {L : ML} {out : ((Int32 × Int32) ⊕ (Int32))} (hX : ∀ (w5 : Int32) (w6 : Int32), out = .inl (w5, w6) → Ex G mX4_weightOfStand rmX4_weightOfStand Q (0, 0) X I L 109 [(3, .int v3), (5, .int w5), (6, .int w6)] []) (hR : ∀ (z : Int32), out = .inr z → Q = RetQ G (some (.int z)) X I L (0, 0)) : ∀ (N : Nat) (v4 : Int32) (v5 : Int32) (v6 : Int32) (v7 : Int32), loopN (fun s => f_X4_weightOfStand_b17 N0 a0 a1 n1 v3 s.1 s.2.1 s.2.2.1 s.2.2.2 I) N (v4, v5, v6, v7) = some out → Ex G mX4_weightOfStand rmX4_weightOfStand Q (0, 0) X I L 17 [(0, .ref (gB G + a0)), (1, .ref (gB G + a1)), (3, .int v3), (4, .int v4), (5, .int v5), (6, .int v6), (7, .int v7)] [] := by
  intro N
  induction N with
  | zero => intro v4 v5 v6 v7 hf; exact absurd (loopN_zero hf) id
  | succ n ih =>
    intro v4 v5 v6 v7 hf
    rcases loopN_succ hf with ⟨s, hb, hl⟩ | hb
    · obtain ⟨v4', v5', v6', v7'⟩ := s
      refine k_X4_weightOfStand_b17 h0 h1 hb (fun _ _ _ _ he => ?_) (fun _ _ he => by cases he) (fun _ he => by cases he)
      cases he
      exact ih v4' v5' v6' v7' hl
    · exact k_X4_weightOfStand_b17 h0 h1 hb (fun _ _ _ _ he => by cases he) (fun x0 x1 he => hX x0 x1 (Sum.inr.inj he)) (fun z0 he => hR z0 (Sum.inr.inj he))
def f_X4_weightOfStand (N : Nat) (a0 : Nat) (a1 : Nat) (n1 : Nat) (v2 : Int32) (v3 : Int32) (I : MI) : Option (Int32) := bns2 (f_X4_weightOfStand_l17 N a0 a1 n1 v3 v2 0 0 ((I a0 0) - 1) I) (fun x12 x13 => bnd1 (f_J6_bitCount_0f7a4 x12) fun r15 => (if r15 = v3 then some x13 else some (-1))) (fun q18 => some q18)
set_option maxRecDepth 100000 in
set_option maxHeartbeats 4000000 in
theorem kb_X4_weightOfStand {G : GX} {Q : State → Prop} {X : MX} {a0 : Nat} {a1 : Nat} {n1 : Nat} {v2 : Int32} {v3 : Int32} (h0 : shX0 X a0) (h1 : X.1 a1 = (2, n1)) {N : Nat} {I : MI} {L : ML} {out : Int32} (hf : f_X4_weightOfStand N a0 a1 n1 v2 v3 I = some out) (hR : ∀ (z : Int32), out = z → Q = RetQ G (some (.int z)) X I L (0, 0)) : Ex G mX4_weightOfStand rmX4_weightOfStand Q (0, 0) X I L 0 [(0, .ref (gB G + a0)), (1, .ref (gB G + a1)), (2, .int v2), (3, .int v3)] [] := by
  unfold f_X4_weightOfStand at hf
  refine ex_iload_n 2 (pc' := 1) dX4_weightOfStand_0 rfl rfl rfl ?_
  refine ex_istore (lv' := [(4, .int v2), (0, .ref (gB G + a0)), (1, .ref (gB G + a1)), (2, .int v2), (3, .int v3)]) (pc' := 3) dX4_weightOfStand_1 (Nat.le_of_ble_eq_true rfl) rfl rfl ?_
  refine ex_iconst (v := 0) (pc' := 4) dX4_weightOfStand_3 ic_0 rfl ?_
  refine ex_istore (lv' := [(5, .int 0), (4, .int v2), (0, .ref (gB G + a0)), (1, .ref (gB G + a1)), (2, .int v2), (3, .int v3)]) (pc' := 6) dX4_weightOfStand_4 (Nat.le_of_ble_eq_true rfl) rfl rfl ?_
  refine ex_iconst (v := 0) (pc' := 7) dX4_weightOfStand_6 ic_0 rfl ?_
  refine ex_istore (lv' := [(6, .int 0), (5, .int 0), (4, .int v2), (0, .ref (gB G + a0)), (1, .ref (gB G + a1)), (2, .int v2), (3, .int v3)]) (pc' := 9) dX4_weightOfStand_7 (Nat.le_of_ble_eq_true rfl) rfl rfl ?_
  refine ex_aload_n 3 (pc' := 10) dX4_weightOfStand_9 rfl rfl rfl ?_
  refine ex_getI (pc' := 13) dX4_weightOfStand_10 fl_X4_27 rfl (sh0_k h0) rfl ?_
  refine ex_iconst (v := 1) (pc' := 14) dX4_weightOfStand_13 ic_1 rfl ?_
  refine ex_isub (pc' := 15) dX4_weightOfStand_14 rfl ?_
  refine ex_istore (lv' := [(7, .int ((I a0 0) - 1)), (6, .int 0), (5, .int 0), (4, .int v2), (0, .ref (gB G + a0)), (1, .ref (gB G + a1)), (2, .int v2), (3, .int v3)]) (pc' := 17) dX4_weightOfStand_15 (Nat.le_of_ble_eq_true rfl) rfl rfl ?_
  refine ex_sub (lv' := [(0, .ref (gB G + a0)), (1, .ref (gB G + a1)), (3, .int v3), (4, .int v2), (5, .int 0), (6, .int 0), (7, .int ((I a0 0) - 1))]) [4, 5, 7, 3, 2, 1, 0] rfl ?_
  rcases of_bns2 hf with ⟨x12, x13, hq14, hf⟩ | ⟨q18, hq14, hf⟩
  · refine k_X4_weightOfStand_l17 h0 h1 (fun x12' x13' he => ?_) (fun _ he => by cases he) _ _ _ _ _ hq14
    cases he
    refine ex_iload 1 (pc' := 111) dX4_weightOfStand_109 rfl rfl ?_
    obtain ⟨r15, hq16, hf⟩ := of_bnd1 hf
    refine ex_callS_i (rm' := rmJ6_bitCount_0f7a4) (st := []) (pc' := 114) [.int x12] dX4_weightOfStand_111 cl_X4_43 (k_J6_bitCount_0f7a4 G hq16) rfl rfl rfl (ROOM_of rfl) (Nat.le_of_ble_eq_true rfl) rfl rfl ?_
    refine ex_iload_n 0 (pc' := 115) dX4_weightOfStand_114 rfl rfl rfl ?_
    refine ex_icmpne (tgt := 123) (pc' := 118) dX4_weightOfStand_115 (by decide) rfl (fun hc17 => ?_) (fun hc17 => ?_)
    · replace hf := if_t hc17 hf
      refine ex_iload 2 (pc' := 120) dX4_weightOfStand_118 rfl rfl ?_
      refine ex_goto (tgt := 124) dX4_weightOfStand_120 (by decide) ?_
      exact ex_iret dX4_weightOfStand_124 rfl (hR _ (Option.some.inj hf).symm)
    · replace hf := if_f hc17 hf
      refine ex_iconst (v := (-1)) (pc' := 124) dX4_weightOfStand_123 ic_m1 rfl ?_
      exact ex_iret dX4_weightOfStand_124 rfl (hR _ (Option.some.inj hf).symm)
  · refine k_X4_weightOfStand_l17 h0 h1 (fun _ _ he => by cases he) (fun z0 he => ?_) _ _ _ _ _ hq14
    refine hR _ ?_
    rw [← Option.some.inj hf]
    cases he
    rfl
set_option maxRecDepth 100000 in
set_option maxHeartbeats 4000000 in
theorem k_X4_weightOfStand (G : GX) {X : MX} {a0 : Nat} {a1 : Nat} {n1 : Nat} {v2 : Int32} {v3 : Int32} (h0 : shX0 X a0) (h1 : X.1 a1 = (2, n1)) {N : Nat} {I : MI} {L : ML} {z : Int32} (hf : f_X4_weightOfStand N a0 a1 n1 v2 v3 I = some z) : Con G mX4_weightOfStand yX4_weightOfStand rmX4_weightOfStand (fun B => [.ref (B + a0), .ref (B + a1), .int v2, .int v3]) X I L (some (.int z)) X I L :=
  Con.of (by decide) rfl (fun h => by cases h) (fun B => Nat.le_of_ble_eq_true rfl) (fun G => kb_X4_weightOfStand h0 h1 hf (fun _ he => by cases he; rfl))
theorem fl_X4_24 : FLD RX4 24 4 4 true := ⟨RX4, TX4, 5, rfl, inX4, by decide, lwg_at 260 (by decide +kernel) rfl, nmX4, tyX4_ok, rfl, rfl⟩
theorem cl_X4_84 : CLS RX4 84 yX4_weightOfStand mX4_weightOfStand (some FieldType.int) 4 := ⟨⟨lwg_at 759 (by decide +kernel) rfl, lwg_at 760 (by decide +kernel) rfl, lwg_at 60 (by decide +kernel) rfl⟩, lwg_at 761 (by decide +kernel) rfl, ⟨by decide +kernel, by decide +kernel, by decide +kernel⟩⟩
theorem fl_X4_21 : FLD RX4 21 4 3 true := ⟨RX4, TX4, 5, rfl, inX4, by decide, lwg_at 259 (by decide +kernel) rfl, nmX4, tyX4_ok, rfl, rfl⟩
-- X4_weighStands ('RookWords$Rooks', 'weighStands', '(LRookWords$Board;[II)I')
def rmX4_weighStands : RM := ((2, 50, 0, 0), false, (some FieldType.int))
def f_X4_weighStands_b6 (N : Nat) (a1 : Nat) (a2 : Nat) (n2 : Nat) (v3 : Int32) (v4 : Int32) (v5 : Int32) (I : MI) : Option ((Int32 × Int32) ⊕ (Int32)) := (if v5 < (I a1 0) then (if v5 < 4 then some (.inl (v4 * ((I a1 0) + 1), v5 + 1)) else some (.inr v4)) else some (.inr v4))
set_option maxRecDepth 100000 in
set_option maxHeartbeats 4000000 in
theorem k_X4_weighStands_b6 {G : GX} {Q : State → Prop} {X : MX} (hM : shX10 X) {a1 : Nat} {a2 : Nat} {n2 : Nat} {v3 : Int32} (h1 : shX0 X a1) (h2 : X.1 a2 = (2, n2)) {v4 : Int32} {v5 : Int32} {N : Nat} {I : MI} {L : ML} {out : (Int32 × Int32) ⊕ (Int32)} (hf : f_X4_weighStands_b6 N a1 a2 n2 v3 v4 v5 I = some out) (hC : ∀ (v4' : Int32) (v5' : Int32), out = .inl (v4', v5') → Ex G mX4_weighStands rmX4_weighStands Q (0, 0) X I L 6 [(0, .ref (gB G + 91)), (1, .ref (gB G + a1)), (2, .ref (gB G + a2)), (3, .int v3), (4, .int v4'), (5, .int v5')] []) (hX : ∀ (w4 : Int32), out = .inr w4 → Ex G mX4_weighStands rmX4_weighStands Q (0, 0) X I L 38 [(0, .ref (gB G + 91)), (1, .ref (gB G + a1)), (2, .ref (gB G + a2)), (3, .int v3), (4, .int w4)] []) : Ex G mX4_weighStands rmX4_weighStands Q (0, 0) X I L 6 [(0, .ref (gB G + 91)), (1, .ref (gB G + a1)), (2, .ref (gB G + a2)), (3, .int v3), (4, .int v4), (5, .int v5)] [] := by
  unfold f_X4_weighStands_b6 at hf
  refine ex_iload 5 (pc' := 8) dX4_weighStands_6 rfl rfl ?_
  refine ex_aload_n 1 (pc' := 9) dX4_weighStands_8 rfl rfl rfl ?_
  refine ex_getI (pc' := 12) dX4_weighStands_9 fl_X4_27 rfl (sh0_k h1) rfl ?_
  refine ex_icmpge (tgt := 38) (pc' := 15) dX4_weighStands_12 (by decide) rfl (fun hc1 => ?_) (fun hc1 => ?_)
  · replace hf := if_t hc1 hf
    refine ex_iload 5 (pc' := 17) dX4_weighStands_15 rfl rfl ?_
    refine ex_iconst (v := 4) (pc' := 18) dX4_weighStands_17 ic_4 rfl ?_
    refine ex_icmpge (tgt := 38) (pc' := 21) dX4_weighStands_18 (by decide) rfl (fun hc2 => ?_) (fun hc2 => ?_)
    · replace hf := if_t hc2 hf
      refine ex_iload 4 (pc' := 23) dX4_weighStands_21 rfl rfl ?_
      refine ex_aload_n 1 (pc' := 24) dX4_weighStands_23 rfl rfl rfl ?_
      refine ex_getI (pc' := 27) dX4_weighStands_24 fl_X4_27 rfl (sh0_k h1) rfl ?_
      refine ex_iconst (v := 1) (pc' := 28) dX4_weighStands_27 ic_1 rfl ?_
      refine ex_iadd (pc' := 29) dX4_weighStands_28 rfl ?_
      refine ex_imul (pc' := 30) dX4_weighStands_29 rfl ?_
      refine ex_istore (lv' := [(4, .int (v4 * ((I a1 0) + 1))), (0, .ref (gB G + 91)), (1, .ref (gB G + a1)), (2, .ref (gB G + a2)), (3, .int v3), (5, .int v5)]) (pc' := 32) dX4_weighStands_30 (Nat.le_of_ble_eq_true rfl) rfl rfl ?_
      refine ex_iincc (lv' := [(5, .int (v5 + 1)), (4, .int (v4 * ((I a1 0) + 1))), (0, .ref (gB G + 91)), (1, .ref (gB G + a1)), (2, .ref (gB G + a2)), (3, .int v3)]) 5 (pc' := 35) dX4_weighStands_32 rfl ic_1 (Nat.le_of_ble_eq_true rfl) rfl rfl ?_
      refine ex_goto (tgt := 6) dX4_weighStands_35 (by decide) ?_
      exact ex_sub [2, 3, 4, 5, 1, 0] rfl (hC _ _ (Option.some.inj hf).symm)
    · replace hf := if_f hc2 hf
      exact ex_sub [0, 1, 2, 3, 4] rfl (hX _ (Option.some.inj hf).symm)
  · replace hf := if_f hc1 hf
    exact ex_sub [0, 1, 2, 3, 4] rfl (hX _ (Option.some.inj hf).symm)
def f_X4_weighStands_l6 (N : Nat) (a1 : Nat) (a2 : Nat) (n2 : Nat) (v3 : Int32) (v4 : Int32) (v5 : Int32) (I : MI) : Option (Int32) := loopN (fun s => f_X4_weighStands_b6 N a1 a2 n2 v3 s.1 s.2 I) N (v4, v5)
set_option maxRecDepth 100000 in
set_option maxHeartbeats 4000000 in
theorem k_X4_weighStands_l6 {G : GX} {Q : State → Prop} {X : MX} (hM : shX10 X) {a1 : Nat} {a2 : Nat} {n2 : Nat} {v3 : Int32} (h1 : shX0 X a1) (h2 : X.1 a2 = (2, n2)) {N0 : Nat} {I : MI} {L : ML} {out : (Int32)} (hX : ∀ (w4 : Int32), out = w4 → Ex G mX4_weighStands rmX4_weighStands Q (0, 0) X I L 38 [(0, .ref (gB G + 91)), (1, .ref (gB G + a1)), (2, .ref (gB G + a2)), (3, .int v3), (4, .int w4)] []) : ∀ (N : Nat) (v4 : Int32) (v5 : Int32), loopN (fun s => f_X4_weighStands_b6 N0 a1 a2 n2 v3 s.1 s.2 I) N (v4, v5) = some out → Ex G mX4_weighStands rmX4_weighStands Q (0, 0) X I L 6 [(0, .ref (gB G + 91)), (1, .ref (gB G + a1)), (2, .ref (gB G + a2)), (3, .int v3), (4, .int v4), (5, .int v5)] [] := by
  intro N
  induction N with
  | zero => intro v4 v5 hf; exact absurd (loopN_zero hf) id
  | succ n ih =>
    intro v4 v5 hf
    rcases loopN_succ hf with ⟨s, hb, hl⟩ | hb
    · obtain ⟨v4', v5'⟩ := s
      refine k_X4_weighStands_b6 hM h1 h2 hb (fun _ _ he => ?_) (fun _ he => by cases he)
      cases he
      exact ih v4' v5' hl
    · exact k_X4_weighStands_b6 hM h1 h2 hb (fun _ _ he => by cases he) (fun x0 he => hX x0 (Sum.inr.inj he))
def f_X4_weighStands_b49 (N : Nat) (a1 : Nat) (a2 : Nat) (n2 : Nat) (v3 : Int32) (v4 : Int32) (v5 : Int32) (I : MI) : Option ((Int32 × MI) ⊕ (MI)) := (if v5 < v4 then bnd1 (f_X4_weightOfStand N a1 a2 n2 v5 v3 I) fun r8 => if inb v5 625 then letv (upI I 95 (Int32.toNatClampNeg v5) r8) fun I11 => (if r8 < 0 then some (.inl (v5 + 1, I11)) else if inb r8 37 then if inb r8 37 then letv (upI I11 96 (Int32.toNatClampNeg r8) ((I11 96 (Int32.toNatClampNeg r8)) + 1)) fun I15 => some (.inl (v5 + 1, I15)) else none else none) else none else some (.inr I))
set_option maxRecDepth 100000 in
set_option maxHeartbeats 4000000 in
theorem k_X4_weighStands_b49 {G : GX} {Q : State → Prop} {X : MX} (hM : shX10 X) {a1 : Nat} {a2 : Nat} {n2 : Nat} {v3 : Int32} {v4 : Int32} (h1 : shX0 X a1) (h2 : X.1 a2 = (2, n2)) {v5 : Int32} {N : Nat} {I : MI} {L : ML} {out : (Int32 × MI) ⊕ (MI)} (hf : f_X4_weighStands_b49 N a1 a2 n2 v3 v4 v5 I = some out) (hC : ∀ (v5' : Int32) (I' : MI), out = .inl (v5', I') → Ex G mX4_weighStands rmX4_weighStands Q (0, 0) X I' L 49 [(0, .ref (gB G + 91)), (1, .ref (gB G + a1)), (2, .ref (gB G + a2)), (3, .int v3), (4, .int v4), (5, .int v5')] []) (hX : ∀ (I' : MI), out = .inr I' → Ex G mX4_weighStands rmX4_weighStands Q (0, 0) X I' L 97 [(4, .int v4)] []) : Ex G mX4_weighStands rmX4_weighStands Q (0, 0) X I L 49 [(0, .ref (gB G + 91)), (1, .ref (gB G + a1)), (2, .ref (gB G + a2)), (3, .int v3), (4, .int v4), (5, .int v5)] [] := by
  unfold f_X4_weighStands_b49 at hf
  refine ex_iload 5 (pc' := 51) dX4_weighStands_49 rfl rfl ?_
  refine ex_iload 4 (pc' := 53) dX4_weighStands_51 rfl rfl ?_
  refine ex_icmpge (tgt := 97) (pc' := 56) dX4_weighStands_53 (by decide) rfl (fun hc7 => ?_) (fun hc7 => ?_)
  · replace hf := if_t hc7 hf
    refine ex_aload_n 1 (pc' := 57) dX4_weighStands_56 rfl rfl rfl ?_
    refine ex_aload_n 2 (pc' := 58) dX4_weighStands_57 rfl rfl rfl ?_
    refine ex_iload 5 (pc' := 60) dX4_weighStands_58 rfl rfl ?_
    refine ex_iload_n 3 (pc' := 61) dX4_weighStands_60 rfl rfl rfl ?_
    obtain ⟨r8, hq9, hf⟩ := of_bnd1 hf
    refine ex_callS_i (rm' := rmX4_weightOfStand) (st := []) (pc' := 64) [.ref (gB G + a1), .ref (gB G + a2), .int v5, .int v3] dX4_weighStands_61 cl_X4_84 (k_X4_weightOfStand G h1 h2 hq9) rfl rfl rfl (ROOM_of rfl) (Nat.le_of_ble_eq_true rfl) rfl rfl ?_
    refine ex_istore (lv' := [(6, .int r8), (0, .ref (gB G + 91)), (1, .ref (gB G + a1)), (2, .ref (gB G + a2)), (3, .int v3), (4, .int v4), (5, .int v5)]) (pc' := 66) dX4_weighStands_64 (Nat.le_of_ble_eq_true rfl) rfl rfl ?_
    refine ex_aload_n 1 (pc' := 67) dX4_weighStands_66 rfl rfl rfl ?_
    refine ex_getR (pc' := 70) dX4_weighStands_67 fl_X4_21 rfl (sh4_k (sh10_T7 hM)) (sh4_F3 (sh10_T7 hM)) rfl ?_
    refine ex_iload 6 (pc' := 72) dX4_weighStands_70 rfl rfl ?_
    refine ex_iload 0 (pc' := 74) dX4_weighStands_72 rfl rfl ?_
    obtain ⟨hg10, hf⟩ := of_guard hf
    refine ex_iast (pc' := 75) dX4_weighStands_74 (sh4_T3 (sh10_T7 hM)) (inb_in hg10) rfl ?_
    obtain ⟨I11, hI11, hf⟩ := of_let hf
    rw [← hI11]
    refine ex_iload 0 (pc' := 77) dX4_weighStands_75 rfl rfl ?_
    refine ex_iflt (tgt := 91) (pc' := 80) dX4_weighStands_77 (by decide) rfl (fun hc12 => ?_) (fun hc12 => ?_)
    · replace hf := if_t hc12 hf
      refine ex_iincc (lv' := [(5, .int (v5 + 1)), (6, .int r8), (0, .ref (gB G + 91)), (1, .ref (gB G + a1)), (2, .ref (gB G + a2)), (3, .int v3), (4, .int v4)]) 6 (pc' := 94) dX4_weighStands_91 rfl ic_1 (Nat.le_of_ble_eq_true rfl) rfl rfl ?_
      refine ex_goto (tgt := 49) dX4_weighStands_94 (by decide) ?_
      exact ex_sub [2, 3, 4, 5, 6, 0] rfl (hC _ _ (Option.some.inj hf).symm)
    · replace hf := if_f hc12 hf
      refine ex_aload_n 1 (pc' := 81) dX4_weighStands_80 rfl rfl rfl ?_
      refine ex_getR (pc' := 84) dX4_weighStands_81 fl_X4_24 rfl (sh4_k (sh10_T7 hM)) (sh4_F4 (sh10_T7 hM)) rfl ?_
      refine ex_iload 0 (pc' := 86) dX4_weighStands_84 rfl rfl ?_
      refine ex_dup2 (pc' := 87) dX4_weighStands_86 rfl rfl rfl ?_
      obtain ⟨hg13, hf⟩ := of_guard hf
      refine ex_iald (pc' := 88) dX4_weighStands_87 (sh4_T4 (sh10_T7 hM)) (inb_in hg13) rfl ?_
      refine ex_iconst (v := 1) (pc' := 89) dX4_weighStands_88 ic_1 rfl ?_
      refine ex_iadd (pc' := 90) dX4_weighStands_89 rfl ?_
      obtain ⟨hg14, hf⟩ := of_guard hf
      refine ex_iast (pc' := 91) dX4_weighStands_90 (sh4_T4 (sh10_T7 hM)) (inb_in hg14) rfl ?_
      obtain ⟨I15, hI15, hf⟩ := of_let hf
      rw [← hI15]
      refine ex_iincc (lv' := [(5, .int (v5 + 1)), (6, .int r8), (0, .ref (gB G + 91)), (1, .ref (gB G + a1)), (2, .ref (gB G + a2)), (3, .int v3), (4, .int v4)]) 6 (pc' := 94) dX4_weighStands_91 rfl ic_1 (Nat.le_of_ble_eq_true rfl) rfl rfl ?_
      refine ex_goto (tgt := 49) dX4_weighStands_94 (by decide) ?_
      exact ex_sub [2, 3, 4, 5, 6, 0] rfl (hC _ _ (Option.some.inj hf).symm)
  · replace hf := if_f hc7 hf
    exact ex_sub [4] rfl (hX _ (Option.some.inj hf).symm)
def f_X4_weighStands_l49 (N : Nat) (a1 : Nat) (a2 : Nat) (n2 : Nat) (v3 : Int32) (v4 : Int32) (v5 : Int32) (I : MI) : Option (MI) := loopN (fun s => f_X4_weighStands_b49 N a1 a2 n2 v3 v4 s.1 s.2) N (v5, I)
set_option maxRecDepth 100000 in
set_option maxHeartbeats 4000000 in
theorem k_X4_weighStands_l49 {G : GX} {Q : State → Prop} {X : MX} (hM : shX10 X) {a1 : Nat} {a2 : Nat} {n2 : Nat} {v3 : Int32} {v4 : Int32} (h1 : shX0 X a1) (h2 : X.1 a2 = (2, n2)) {N0 : Nat} {L : ML} {out : (MI)} (hX : ∀ (I' : MI), out = I' → Ex G mX4_weighStands rmX4_weighStands Q (0, 0) X I' L 97 [(4, .int v4)] []) : ∀ (N : Nat) (v5 : Int32) (I : MI), loopN (fun s => f_X4_weighStands_b49 N0 a1 a2 n2 v3 v4 s.1 s.2) N (v5, I) = some out → Ex G mX4_weighStands rmX4_weighStands Q (0, 0) X I L 49 [(0, .ref (gB G + 91)), (1, .ref (gB G + a1)), (2, .ref (gB G + a2)), (3, .int v3), (4, .int v4), (5, .int v5)] [] := by
  intro N
  induction N with
  | zero => intro v5 I hf; exact absurd (loopN_zero hf) id
  | succ n ih =>
    intro v5 I hf
    rcases loopN_succ hf with ⟨s, hb, hl⟩ | hb
    · obtain ⟨v5', I'⟩ := s
      refine k_X4_weighStands_b49 hM h1 h2 hb (fun _ _ he => ?_) (fun _ he => by cases he)
      cases he
      exact ih v5' I' hl
    · exact k_X4_weighStands_b49 hM h1 h2 hb (fun _ _ he => by cases he) (fun x0 he => hX x0 (Sum.inr.inj he))
def f_X4_weighStands (N : Nat) (a1 : Nat) (a2 : Nat) (n2 : Nat) (v3 : Int32) (I : MI) : Option (Int32 × MI) := bnd1 (f_X4_weighStands_l6 N a1 a2 n2 v3 1 0 I) fun x3 => bnd1 (f_J7_fill_53178 N 96 37 0 I) fun I5 => bnd1 (f_X4_weighStands_l49 N a1 a2 n2 v3 x3 0 I5) fun I16 => some (x3, I16)
set_option maxRecDepth 100000 in
set_option maxHeartbeats 4000000 in
theorem kb_X4_weighStands {G : GX} {Q : State → Prop} {X : MX} (hM : shX10 X) {a1 : Nat} {a2 : Nat} {n2 : Nat} {v3 : Int32} (h1 : shX0 X a1) (h2 : X.1 a2 = (2, n2)) {N : Nat} {I : MI} {L : ML} {out : Int32 × MI} (hf : f_X4_weighStands N a1 a2 n2 v3 I = some out) (hR : ∀ (z : Int32) (I' : MI), out = (z, I') → Q = RetQ G (some (.int z)) X I' L (0, 0)) : Ex G mX4_weighStands rmX4_weighStands Q (0, 0) X I L 0 [(0, .ref (gB G + 91)), (1, .ref (gB G + a1)), (2, .ref (gB G + a2)), (3, .int v3)] [] := by
  unfold f_X4_weighStands at hf
  refine ex_iconst (v := 1) (pc' := 1) dX4_weighStands_0 ic_1 rfl ?_
  refine ex_istore (lv' := [(4, .int 1), (0, .ref (gB G + 91)), (1, .ref (gB G + a1)), (2, .ref (gB G + a2)), (3, .int v3)]) (pc' := 3) dX4_weighStands_1 (Nat.le_of_ble_eq_true rfl) rfl rfl ?_
  refine ex_iconst (v := 0) (pc' := 4) dX4_weighStands_3 ic_0 rfl ?_
  refine ex_istore (lv' := [(5, .int 0), (4, .int 1), (0, .ref (gB G + 91)), (1, .ref (gB G + a1)), (2, .ref (gB G + a2)), (3, .int v3)]) (pc' := 6) dX4_weighStands_4 (Nat.le_of_ble_eq_true rfl) rfl rfl ?_
  refine ex_sub (lv' := [(0, .ref (gB G + 91)), (1, .ref (gB G + a1)), (2, .ref (gB G + a2)), (3, .int v3), (4, .int 1), (5, .int 0)]) [2, 3, 4, 5, 1, 0] rfl ?_
  obtain ⟨x3, hq4, hf⟩ := of_bnd1 hf
  refine k_X4_weighStands_l6 hM h1 h2 (fun x3' he => ?_) _ _ _ hq4
  cases he
  refine ex_aload_n 0 (pc' := 39) dX4_weighStands_38 rfl rfl rfl ?_
  refine ex_getR (pc' := 42) dX4_weighStands_39 fl_X4_24 rfl (sh4_k (sh10_T7 hM)) (sh4_F4 (sh10_T7 hM)) rfl ?_
  refine ex_iconst (v := 0) (pc' := 43) dX4_weighStands_42 ic_0 rfl ?_
  obtain ⟨I5, hq6, hf⟩ := of_bnd1 hf
  refine ex_callS_v (rm' := rmJ7_fill_53178) (st := []) (pc' := 46) [.ref (gB G + 96), .int 0] dX4_weighStands_43 cl_X4_33 (k_J7_fill_53178 G (sh4_T4 (sh10_T7 hM)) hq6) rfl rfl rfl (ROOM_of rfl) (Nat.le_of_ble_eq_true rfl) rfl rfl ?_
  refine ex_iconst (v := 0) (pc' := 47) dX4_weighStands_46 ic_0 rfl ?_
  refine ex_istore (lv' := [(5, .int 0), (0, .ref (gB G + 91)), (1, .ref (gB G + a1)), (2, .ref (gB G + a2)), (3, .int v3), (4, .int x3)]) (pc' := 49) dX4_weighStands_47 (Nat.le_of_ble_eq_true rfl) rfl rfl ?_
  refine ex_sub (lv' := [(0, .ref (gB G + 91)), (1, .ref (gB G + a1)), (2, .ref (gB G + a2)), (3, .int v3), (4, .int x3), (5, .int 0)]) [1, 2, 3, 4, 5, 0] rfl ?_
  obtain ⟨I16, hq17, hf⟩ := of_bnd1 hf
  refine k_X4_weighStands_l49 hM h1 h2 (fun I16' he => ?_) _ _ _ hq17
  cases he
  refine ex_iload 0 (pc' := 99) dX4_weighStands_97 rfl rfl ?_
  exact ex_iret dX4_weighStands_99 rfl (hR _ _ (Option.some.inj hf).symm)
set_option maxRecDepth 100000 in
set_option maxHeartbeats 4000000 in
theorem k_X4_weighStands (G : GX) {X : MX} (hM : shX10 X) {a1 : Nat} {a2 : Nat} {n2 : Nat} {v3 : Int32} (h1 : shX0 X a1) (h2 : X.1 a2 = (2, n2)) {N : Nat} {I : MI} {L : ML} {z : Int32} {I' : MI} (hf : f_X4_weighStands N a1 a2 n2 v3 I = some (z, I')) : Con G mX4_weighStands yX4_weighStands rmX4_weighStands (fun B => [.ref (B + 91), .ref (B + a1), .ref (B + a2), .int v3]) X I L (some (.int z)) X I' L :=
  Con.of (by decide) rfl (fun h => by cases h) (fun B => Nat.le_of_ble_eq_true rfl) (fun G => kb_X4_weighStands hM h1 h2 hf (fun _ _ he => by cases he; rfl))
theorem cl_X4_80 : CLV RX4 80 yX4_weighStands mX4_weighStands (some FieldType.int) 3 := ⟨⟨lwg_at 755 (by decide +kernel) rfl, lwg_at 757 (by decide +kernel) rfl, lwg_at 14 (by decide +kernel) rfl, lwg_at 60 (by decide +kernel) rfl⟩, lwg_at 758 (by decide +kernel) rfl, ⟨by decide +kernel, by decide +kernel, by decide +kernel⟩⟩
theorem al_37 : Int32.ofNat 37 = 37 := by decide
-- X4_listedStand ('RookWords$Rooks', 'listedStand', '(LRookWords$Board;[III)I')
def rmX4_listedStand : RM := ((3, 76, 0, 0), false, (some FieldType.int))
def f_X4_listedStand_b16 (N : Nat) (v5 : Int32) (v6 : Int32) (v7 : Int32) (I : MI) : Option ((Int32 × Int32) ⊕ (Int32 × Int32)) := (if v7 < 37 then if inb v7 37 then (if v6 < (I 96 (Int32.toNatClampNeg v7)) then some (.inr (v6, v7)) else if inb v7 37 then letv (v6 - (I 96 (Int32.toNatClampNeg v7))) fun x8 => some (.inl (x8, v7 + 1)) else none) else none else some (.inr (v6, v7)))
set_option maxRecDepth 100000 in
set_option maxHeartbeats 4000000 in
theorem k_X4_listedStand_b16 {G : GX} {Q : State → Prop} {X : MX} (hM : shX10 X) {v5 : Int32}  {v6 : Int32} {v7 : Int32} {N : Nat} {I : MI} {L : ML} {out : (Int32 × Int32) ⊕ (Int32 × Int32)} (hf : f_X4_listedStand_b16 N v5 v6 v7 I = some out) (hC : ∀ (v6' : Int32) (v7' : Int32), out = .inl (v6', v7') → Ex G mX4_listedStand rmX4_listedStand Q (0, 0) X I L 16 [(0, .ref (gB G + 91)), (5, .int v5), (6, .int v6'), (7, .int v7')] []) (hX : ∀ (w6 : Int32) (w7 : Int32), out = .inr (w6, w7) → Ex G mX4_listedStand rmX4_listedStand Q (0, 0) X I L 56 [(0, .ref (gB G + 91)), (5, .int v5), (6, .int w6), (7, .int w7)] []) : Ex G mX4_listedStand rmX4_listedStand Q (0, 0) X I L 16 [(0, .ref (gB G + 91)), (5, .int v5), (6, .int v6), (7, .int v7)] [] := by
  unfold f_X4_listedStand_b16 at hf
  refine ex_iload 3 (pc' := 18) dX4_listedStand_16 rfl rfl ?_
  refine ex_aload_n 0 (pc' := 19) dX4_listedStand_18 rfl rfl rfl ?_
  refine ex_getR (pc' := 22) dX4_listedStand_19 fl_X4_24 rfl (sh4_k (sh10_T7 hM)) (sh4_F4 (sh10_T7 hM)) rfl ?_
  refine ex_alen (v := 37) (pc' := 23) dX4_listedStand_22 (sh4_T4 (sh10_T7 hM)) (Or.inl rfl) al_37 rfl ?_
  refine ex_icmpge (tgt := 56) (pc' := 26) dX4_listedStand_23 (by decide) rfl (fun hc4 => ?_) (fun hc4 => ?_)
  · replace hf := if_t hc4 hf
    refine ex_iload 2 (pc' := 28) dX4_listedStand_26 rfl rfl ?_
    refine ex_aload_n 0 (pc' := 29) dX4_listedStand_28 rfl rfl rfl ?_
    refine ex_getR (pc' := 32) dX4_listedStand_29 fl_X4_24 rfl (sh4_k (sh10_T7 hM)) (sh4_F4 (sh10_T7 hM)) rfl ?_
    refine ex_iload 3 (pc' := 34) dX4_listedStand_32 rfl rfl ?_
    obtain ⟨hg5, hf⟩ := of_guard hf
    refine ex_iald (pc' := 35) dX4_listedStand_34 (sh4_T4 (sh10_T7 hM)) (inb_in hg5) rfl ?_
    refine ex_icmplt (tgt := 56) (pc' := 38) dX4_listedStand_35 (by decide) rfl (fun hc6 => ?_) (fun hc6 => ?_)
    · replace hf := if_t hc6 hf
      exact ex_sub [0, 1, 2, 3] rfl (hX _ _ (Option.some.inj hf).symm)
    · replace hf := if_f hc6 hf
      refine ex_iload 2 (pc' := 40) dX4_listedStand_38 rfl rfl ?_
      refine ex_aload_n 0 (pc' := 41) dX4_listedStand_40 rfl rfl rfl ?_
      refine ex_getR (pc' := 44) dX4_listedStand_41 fl_X4_24 rfl (sh4_k (sh10_T7 hM)) (sh4_F4 (sh10_T7 hM)) rfl ?_
      refine ex_iload 3 (pc' := 46) dX4_listedStand_44 rfl rfl ?_
      obtain ⟨hg7, hf⟩ := of_guard hf
      refine ex_iald (pc' := 47) dX4_listedStand_46 (sh4_T4 (sh10_T7 hM)) (inb_in hg7) rfl ?_
      refine ex_isub (pc' := 48) dX4_listedStand_47 rfl ?_
      obtain ⟨x8, hx8, hf⟩ := of_let hf
      rw [← hx8]
      refine ex_istore (lv' := [(6, .int x8), (0, .ref (gB G + 91)), (5, .int v5), (7, .int v7)]) (pc' := 50) dX4_listedStand_48 (Nat.le_of_ble_eq_true rfl) rfl rfl ?_
      refine ex_iincc (lv' := [(7, .int (v7 + 1)), (6, .int x8), (0, .ref (gB G + 91)), (5, .int v5)]) 3 (pc' := 53) dX4_listedStand_50 rfl ic_1 (Nat.le_of_ble_eq_true rfl) rfl rfl ?_
      refine ex_goto (tgt := 16) dX4_listedStand_53 (by decide) ?_
      exact ex_sub [2, 3, 1, 0] rfl (hC _ _ (Option.some.inj hf).symm)
  · replace hf := if_f hc4 hf
    exact ex_sub [0, 1, 2, 3] rfl (hX _ _ (Option.some.inj hf).symm)
def f_X4_listedStand_l16 (N : Nat) (v5 : Int32) (v6 : Int32) (v7 : Int32) (I : MI) : Option (Int32 × Int32) := loopN (fun s => f_X4_listedStand_b16 N v5 s.1 s.2 I) N (v6, v7)
set_option maxRecDepth 100000 in
set_option maxHeartbeats 4000000 in
theorem k_X4_listedStand_l16 {G : GX} {Q : State → Prop} {X : MX} (hM : shX10 X) {v5 : Int32}  {N0 : Nat} {I : MI} {L : ML} {out : (Int32 × Int32)} (hX : ∀ (w6 : Int32) (w7 : Int32), out = (w6, w7) → Ex G mX4_listedStand rmX4_listedStand Q (0, 0) X I L 56 [(0, .ref (gB G + 91)), (5, .int v5), (6, .int w6), (7, .int w7)] []) : ∀ (N : Nat) (v6 : Int32) (v7 : Int32), loopN (fun s => f_X4_listedStand_b16 N0 v5 s.1 s.2 I) N (v6, v7) = some out → Ex G mX4_listedStand rmX4_listedStand Q (0, 0) X I L 16 [(0, .ref (gB G + 91)), (5, .int v5), (6, .int v6), (7, .int v7)] [] := by
  intro N
  induction N with
  | zero => intro v6 v7 hf; exact absurd (loopN_zero hf) id
  | succ n ih =>
    intro v6 v7 hf
    rcases loopN_succ hf with ⟨s, hb, hl⟩ | hb
    · obtain ⟨v6', v7'⟩ := s
      refine k_X4_listedStand_b16 hM  hb (fun _ _ he => ?_) (fun _ _ he => by cases he)
      cases he
      exact ih v6' v7' hl
    · exact k_X4_listedStand_b16 hM  hb (fun _ _ he => by cases he) (fun x0 x1 he => hX x0 x1 (Sum.inr.inj he))
def f_X4_listedStand_b71 (N : Nat) (v5 : Int32) (v7 : Int32) (v6 : Int32) (v8 : Int32) (I : MI) : Option ((Int32 × Int32) ⊕ ((Unit) ⊕ (Int32 × MI))) := (if v8 < v5 then if inb v8 625 then (if (I 95 (Int32.toNatClampNeg v8)) = v7 then (if v6 = 0 then some (.inr (.inr (v8, I))) else some (.inl (v6 + (-1), v8 + 1))) else some (.inl (v6, v8 + 1))) else none else some (.inr (.inl ())))
set_option maxRecDepth 100000 in
set_option maxHeartbeats 4000000 in
theorem k_X4_listedStand_b71 {G : GX} {Q : State → Prop} {X : MX} (hM : shX10 X) {v5 : Int32} {v7 : Int32}  {v6 : Int32} {v8 : Int32} {N : Nat} {I : MI} {L : ML} {out : (Int32 × Int32) ⊕ ((Unit) ⊕ (Int32 × MI))} (hf : f_X4_listedStand_b71 N v5 v7 v6 v8 I = some out) (hC : ∀ (v6' : Int32) (v8' : Int32), out = .inl (v6', v8') → Ex G mX4_listedStand rmX4_listedStand Q (0, 0) X I L 71 [(0, .ref (gB G + 91)), (5, .int v5), (6, .int v6'), (7, .int v7), (8, .int v8')] []) (hX : ∀ (u : Unit), out = .inr (.inl u) → Ex G mX4_listedStand rmX4_listedStand Q (0, 0) X I L 107 [] []) (hR : ∀ (z : Int32) (I' : MI), out = .inr (.inr (z, I')) → Q = RetQ G (some (.int z)) X I' L (0, 0)) : Ex G mX4_listedStand rmX4_listedStand Q (0, 0) X I L 71 [(0, .ref (gB G + 91)), (5, .int v5), (6, .int v6), (7, .int v7), (8, .int v8)] [] := by
  unfold f_X4_listedStand_b71 at hf
  refine ex_iload 4 (pc' := 73) dX4_listedStand_71 rfl rfl ?_
  refine ex_iload 1 (pc' := 75) dX4_listedStand_73 rfl rfl ?_
  refine ex_icmpge (tgt := 107) (pc' := 78) dX4_listedStand_75 (by decide) rfl (fun hc13 => ?_) (fun hc13 => ?_)
  · replace hf := if_t hc13 hf
    refine ex_aload_n 0 (pc' := 79) dX4_listedStand_78 rfl rfl rfl ?_
    refine ex_getR (pc' := 82) dX4_listedStand_79 fl_X4_21 rfl (sh4_k (sh10_T7 hM)) (sh4_F3 (sh10_T7 hM)) rfl ?_
    refine ex_iload 4 (pc' := 84) dX4_listedStand_82 rfl rfl ?_
    obtain ⟨hg14, hf⟩ := of_guard hf
    refine ex_iald (pc' := 85) dX4_listedStand_84 (sh4_T3 (sh10_T7 hM)) (inb_in hg14) rfl ?_
    refine ex_iload 3 (pc' := 87) dX4_listedStand_85 rfl rfl ?_
    refine ex_icmpne (tgt := 101) (pc' := 90) dX4_listedStand_87 (by decide) rfl (fun hc15 => ?_) (fun hc15 => ?_)
    · replace hf := if_t hc15 hf
      refine ex_iload 2 (pc' := 92) dX4_listedStand_90 rfl rfl ?_
      refine ex_ifne (tgt := 98) (pc' := 95) dX4_listedStand_92 (by decide) rfl (fun hc16 => ?_) (fun hc16 => ?_)
      · replace hf := if_t hc16 hf
        refine ex_iload 4 (pc' := 97) dX4_listedStand_95 rfl rfl ?_
        exact ex_iret dX4_listedStand_97 rfl (hR _ _ (Option.some.inj hf).symm)
      · replace hf := if_f hc16 hf
        refine ex_iincc (lv' := [(6, .int (v6 + (-1))), (0, .ref (gB G + 91)), (5, .int v5), (7, .int v7), (8, .int v8)]) 2 (pc' := 101) dX4_listedStand_98 rfl ic_m1 (Nat.le_of_ble_eq_true rfl) rfl rfl ?_
        refine ex_iincc (lv' := [(8, .int (v8 + 1)), (6, .int (v6 + (-1))), (0, .ref (gB G + 91)), (5, .int v5), (7, .int v7)]) 4 (pc' := 104) dX4_listedStand_101 rfl ic_1 (Nat.le_of_ble_eq_true rfl) rfl rfl ?_
        refine ex_goto (tgt := 71) dX4_listedStand_104 (by decide) ?_
        exact ex_sub [2, 3, 1, 4, 0] rfl (hC _ _ (Option.some.inj hf).symm)
    · replace hf := if_f hc15 hf
      refine ex_iincc (lv' := [(8, .int (v8 + 1)), (0, .ref (gB G + 91)), (5, .int v5), (6, .int v6), (7, .int v7)]) 4 (pc' := 104) dX4_listedStand_101 rfl ic_1 (Nat.le_of_ble_eq_true rfl) rfl rfl ?_
      refine ex_goto (tgt := 71) dX4_listedStand_104 (by decide) ?_
      exact ex_sub [1, 2, 3, 4, 0] rfl (hC _ _ (Option.some.inj hf).symm)
  · replace hf := if_f hc13 hf
    exact ex_sub [] rfl (hX _ (Option.some.inj hf).symm)
def f_X4_listedStand_l71 (N : Nat) (v5 : Int32) (v7 : Int32) (v6 : Int32) (v8 : Int32) (I : MI) : Option ((Unit) ⊕ (Int32 × MI)) := loopN (fun s => f_X4_listedStand_b71 N v5 v7 s.1 s.2 I) N (v6, v8)
set_option maxRecDepth 100000 in
set_option maxHeartbeats 4000000 in
theorem k_X4_listedStand_l71 {G : GX} {Q : State → Prop} {X : MX} (hM : shX10 X) {v5 : Int32} {v7 : Int32}  {N0 : Nat} {I : MI} {L : ML} {out : ((Unit) ⊕ (Int32 × MI))} (hX : ∀ (u : Unit), out = .inl u → Ex G mX4_listedStand rmX4_listedStand Q (0, 0) X I L 107 [] []) (hR : ∀ (z : Int32) (I' : MI), out = .inr (z, I') → Q = RetQ G (some (.int z)) X I' L (0, 0)) : ∀ (N : Nat) (v6 : Int32) (v8 : Int32), loopN (fun s => f_X4_listedStand_b71 N0 v5 v7 s.1 s.2 I) N (v6, v8) = some out → Ex G mX4_listedStand rmX4_listedStand Q (0, 0) X I L 71 [(0, .ref (gB G + 91)), (5, .int v5), (6, .int v6), (7, .int v7), (8, .int v8)] [] := by
  intro N
  induction N with
  | zero => intro v6 v8 hf; exact absurd (loopN_zero hf) id
  | succ n ih =>
    intro v6 v8 hf
    rcases loopN_succ hf with ⟨s, hb, hl⟩ | hb
    · obtain ⟨v6', v8'⟩ := s
      refine k_X4_listedStand_b71 hM  hb (fun _ _ he => ?_) (fun _ he => by cases he) (fun _ _ he => by cases he)
      cases he
      exact ih v6' v8' hl
    · exact k_X4_listedStand_b71 hM  hb (fun _ _ he => by cases he) (fun x0 he => hX x0 (Sum.inr.inj he)) (fun z0 z1 he => hR z0 z1 (Sum.inr.inj he))
def f_X4_listedStand (N : Nat) (a1 : Nat) (a2 : Nat) (n2 : Nat) (v3 : Int32) (v4 : Int32) (I : MI) : Option (Int32 × MI) := bnd2 (f_X4_weighStands N a1 a2 n2 v3 I) fun r1 I2 => bnd2 (f_X4_listedStand_l16 N r1 v4 0 I2) fun x9 x10 => (if x10 < 37 then bns1 (f_X4_listedStand_l71 N r1 x10 x9 0 I2) (fun u17 => some ((-1), I2)) (fun q19 => some q19) else some ((-1), I2))
set_option maxRecDepth 100000 in
set_option maxHeartbeats 4000000 in
theorem kb_X4_listedStand {G : GX} {Q : State → Prop} {X : MX} (hM : shX10 X) {a1 : Nat} {a2 : Nat} {n2 : Nat} {v3 : Int32} {v4 : Int32} (h1 : shX0 X a1) (h2 : X.1 a2 = (2, n2)) {N : Nat} {I : MI} {L : ML} {out : Int32 × MI} (hf : f_X4_listedStand N a1 a2 n2 v3 v4 I = some out) (hR : ∀ (z : Int32) (I' : MI), out = (z, I') → Q = RetQ G (some (.int z)) X I' L (0, 0)) : Ex G mX4_listedStand rmX4_listedStand Q (0, 0) X I L 0 [(0, .ref (gB G + 91)), (1, .ref (gB G + a1)), (2, .ref (gB G + a2)), (3, .int v3), (4, .int v4)] [] := by
  unfold f_X4_listedStand at hf
  refine ex_aload_n 0 (pc' := 1) dX4_listedStand_0 rfl rfl rfl ?_
  refine ex_aload_n 1 (pc' := 2) dX4_listedStand_1 rfl rfl rfl ?_
  refine ex_aload_n 2 (pc' := 3) dX4_listedStand_2 rfl rfl rfl ?_
  refine ex_iload_n 3 (pc' := 4) dX4_listedStand_3 rfl rfl rfl ?_
  obtain ⟨r1, I2, hq3, hf⟩ := of_bnd2 hf
  refine ex_callV_i (rm' := rmX4_weighStands) (st := []) (pc' := 7) [.ref (gB G + a1), .ref (gB G + a2), .int v3] dX4_listedStand_4 cl_X4_80 (k_X4_weighStands G hM h1 h2 hq3) rfl (sh4_k (sh10_T7 hM)) ⟨_, _, rfl⟩ rfl rfl (ROOM_of rfl) (Nat.le_of_ble_eq_true rfl) rfl rfl ?_
  refine ex_istore (lv' := [(5, .int r1), (0, .ref (gB G + 91)), (1, .ref (gB G + a1)), (2, .ref (gB G + a2)), (3, .int v3), (4, .int v4)]) (pc' := 9) dX4_listedStand_7 (Nat.le_of_ble_eq_true rfl) rfl rfl ?_
  refine ex_iload 5 (pc' := 11) dX4_listedStand_9 rfl rfl ?_
  refine ex_istore (lv' := [(6, .int v4), (5, .int r1), (0, .ref (gB G + 91)), (1, .ref (gB G + a1)), (2, .ref (gB G + a2)), (3, .int v3), (4, .int v4)]) (pc' := 13) dX4_listedStand_11 (Nat.le_of_ble_eq_true rfl) rfl rfl ?_
  refine ex_iconst (v := 0) (pc' := 14) dX4_listedStand_13 ic_0 rfl ?_
  refine ex_istore (lv' := [(7, .int 0), (6, .int v4), (5, .int r1), (0, .ref (gB G + 91)), (1, .ref (gB G + a1)), (2, .ref (gB G + a2)), (3, .int v3), (4, .int v4)]) (pc' := 16) dX4_listedStand_14 (Nat.le_of_ble_eq_true rfl) rfl rfl ?_
  refine ex_sub (lv' := [(0, .ref (gB G + 91)), (5, .int r1), (6, .int v4), (7, .int 0)]) [3, 2, 1, 0] rfl ?_
  obtain ⟨x9, x10, hq11, hf⟩ := of_bnd2 hf
  refine k_X4_listedStand_l16 hM (fun x9' x10' he => ?_) _ _ _ hq11
  cases he
  refine ex_iload 3 (pc' := 58) dX4_listedStand_56 rfl rfl ?_
  refine ex_aload_n 0 (pc' := 59) dX4_listedStand_58 rfl rfl rfl ?_
  refine ex_getR (pc' := 62) dX4_listedStand_59 fl_X4_24 rfl (sh4_k (sh10_T7 hM)) (sh4_F4 (sh10_T7 hM)) rfl ?_
  refine ex_alen (v := 37) (pc' := 63) dX4_listedStand_62 (sh4_T4 (sh10_T7 hM)) (Or.inl rfl) al_37 rfl ?_
  refine ex_icmplt (tgt := 68) (pc' := 66) dX4_listedStand_63 (by decide) rfl (fun hc12 => ?_) (fun hc12 => ?_)
  · replace hf := if_t hc12 hf
    refine ex_iconst (v := 0) (pc' := 69) dX4_listedStand_68 ic_0 rfl ?_
    refine ex_istore (lv' := [(8, .int 0), (0, .ref (gB G + 91)), (5, .int r1), (6, .int x9), (7, .int x10)]) (pc' := 71) dX4_listedStand_69 (Nat.le_of_ble_eq_true rfl) rfl rfl ?_
    refine ex_sub (lv' := [(0, .ref (gB G + 91)), (5, .int r1), (6, .int x9), (7, .int x10), (8, .int 0)]) [1, 2, 3, 4, 0] rfl ?_
    rcases of_bns1 hf with ⟨u17, hq18, hf⟩ | ⟨q19, hq18, hf⟩
    · refine k_X4_listedStand_l71 hM (fun u17' he => ?_) (fun _ _ he => by cases he) _ _ _ hq18
      cases he
      refine ex_iconst (v := (-1)) (pc' := 108) dX4_listedStand_107 ic_m1 rfl ?_
      exact ex_iret dX4_listedStand_108 rfl (hR _ _ (Option.some.inj hf).symm)
    · refine k_X4_listedStand_l71 hM (fun _ he => by cases he) (fun z0 z1 he => ?_) _ _ _ hq18
      refine hR _ _ ?_
      rw [← Option.some.inj hf]
      cases he
      rfl
  · replace hf := if_f hc12 hf
    refine ex_iconst (v := (-1)) (pc' := 67) dX4_listedStand_66 ic_m1 rfl ?_
    exact ex_iret dX4_listedStand_67 rfl (hR _ _ (Option.some.inj hf).symm)
set_option maxRecDepth 100000 in
set_option maxHeartbeats 4000000 in
theorem k_X4_listedStand (G : GX) {X : MX} (hM : shX10 X) {a1 : Nat} {a2 : Nat} {n2 : Nat} {v3 : Int32} {v4 : Int32} (h1 : shX0 X a1) (h2 : X.1 a2 = (2, n2)) {N : Nat} {I : MI} {L : ML} {z : Int32} {I' : MI} (hf : f_X4_listedStand N a1 a2 n2 v3 v4 I = some (z, I')) : Con G mX4_listedStand yX4_listedStand rmX4_listedStand (fun B => [.ref (B + 91), .ref (B + a1), .ref (B + a2), .int v3, .int v4]) X I L (some (.int z)) X I' L :=
  Con.of (by decide) rfl (fun h => by cases h) (fun B => Nat.le_of_ble_eq_true rfl) (fun G => kb_X4_listedStand hM h1 h2 hf (fun _ _ he => by cases he; rfl))
theorem sp_625 : (Int16.ofInt 625).toInt32 = 625 := by decide
-- X4_listedWeight ('RookWords$Rooks', 'listedWeight', '(I)I')
def rmX4_listedWeight : RM := ((0, 0, 0, 0), false, (some FieldType.int))
def f_X4_listedWeight (v1 : Int32) (I : MI) : Option (Int32) := (if v1 < 0 then some (-1) else (if v1 < 625 then if inb v1 625 then some (I 95 (Int32.toNatClampNeg v1)) else none else some (-1)))
set_option maxRecDepth 100000 in
set_option maxHeartbeats 4000000 in
theorem kb_X4_listedWeight {G : GX} {Q : State → Prop} {X : MX} (hM : shX10 X) {v1 : Int32}  {I : MI} {L : ML} {out : Int32} (hf : f_X4_listedWeight v1 I = some out) (hR : ∀ (z : Int32), out = z → Q = RetQ G (some (.int z)) X I L (0, 0)) : Ex G mX4_listedWeight rmX4_listedWeight Q (0, 0) X I L 0 [(0, .ref (gB G + 91)), (1, .int v1)] [] := by
  unfold f_X4_listedWeight at hf
  refine ex_iload_n 1 (pc' := 1) dX4_listedWeight_0 rfl rfl rfl ?_
  refine ex_iflt (tgt := 20) (pc' := 4) dX4_listedWeight_1 (by decide) rfl (fun hc1 => ?_) (fun hc1 => ?_)
  · replace hf := if_t hc1 hf
    refine ex_iconst (v := (-1)) (pc' := 21) dX4_listedWeight_20 ic_m1 rfl ?_
    exact ex_iret dX4_listedWeight_21 rfl (hR _ (Option.some.inj hf).symm)
  · replace hf := if_f hc1 hf
    refine ex_iload_n 1 (pc' := 5) dX4_listedWeight_4 rfl rfl rfl ?_
    refine ex_sipush (v := 625) (pc' := 8) dX4_listedWeight_5 sp_625 rfl ?_
    refine ex_icmpge (tgt := 20) (pc' := 11) dX4_listedWeight_8 (by decide) rfl (fun hc2 => ?_) (fun hc2 => ?_)
    · replace hf := if_t hc2 hf
      refine ex_aload_n 0 (pc' := 12) dX4_listedWeight_11 rfl rfl rfl ?_
      refine ex_getR (pc' := 15) dX4_listedWeight_12 fl_X4_21 rfl (sh4_k (sh10_T7 hM)) (sh4_F3 (sh10_T7 hM)) rfl ?_
      refine ex_iload_n 1 (pc' := 16) dX4_listedWeight_15 rfl rfl rfl ?_
      obtain ⟨hg3, hf⟩ := of_guard hf
      refine ex_iald (pc' := 17) dX4_listedWeight_16 (sh4_T3 (sh10_T7 hM)) (inb_in hg3) rfl ?_
      refine ex_goto (tgt := 21) dX4_listedWeight_17 (by decide) ?_
      exact ex_iret dX4_listedWeight_21 rfl (hR _ (Option.some.inj hf).symm)
    · replace hf := if_f hc2 hf
      refine ex_iconst (v := (-1)) (pc' := 21) dX4_listedWeight_20 ic_m1 rfl ?_
      exact ex_iret dX4_listedWeight_21 rfl (hR _ (Option.some.inj hf).symm)
set_option maxRecDepth 100000 in
set_option maxHeartbeats 4000000 in
theorem k_X4_listedWeight (G : GX) {X : MX} (hM : shX10 X) {v1 : Int32}  {I : MI} {L : ML} {z : Int32} (hf : f_X4_listedWeight v1 I = some z) : Con G mX4_listedWeight yX4_listedWeight rmX4_listedWeight (fun B => [.ref (B + 91), .int v1]) X I L (some (.int z)) X I L :=
  Con.of (by decide) rfl (fun h => by cases h) (fun B => Nat.le_of_ble_eq_true rfl) (fun G => kb_X4_listedWeight hM  hf (fun _ he => by cases he; rfl))
theorem sp_1000 : (Int16.ofInt 1000).toInt32 = 1000 := by decide
theorem cl_X4_59 : CLV RX4 59 yX4_leastFrom mX4_leastFrom (some FieldType.int) 4 := ⟨⟨lwg_at 729 (by decide +kernel) rfl, lwg_at 731 (by decide +kernel) rfl, lwg_at 11 (by decide +kernel) rfl, lwg_at 60 (by decide +kernel) rfl⟩, lwg_at 732 (by decide +kernel) rfl, ⟨by decide +kernel, by decide +kernel, by decide +kernel⟩⟩
-- X4_weighCheapest ('RookWords$Rooks', 'weighCheapest', '(LRookWords$Board;[II)I')
def rmX4_weighCheapest : RM := ((2, 50, 0, 0), false, (some FieldType.int))
def f_X4_weighCheapest_b20 (N : Nat) (a1 : Nat) (a2 : Nat) (n2 : Nat) (v3 : Int32) (v4 : Int32) (v5 : Int32) (v6 : Int32) (I : MI) : Option ((Int32 × MI) ⊕ (MI)) := (if v6 < v4 then bnd1 (f_J6_bitCount_0f7a4 v6) fun r2 => (if r2 = v3 then if inb (v5 + v6) 448 then letv (upI I 94 (Int32.toNatClampNeg (v5 + v6)) 0) fun I6 => some (.inl (v6 + 1, I6)) else none else if inb (v5 + v6) 448 then letv (upI I 94 (Int32.toNatClampNeg (v5 + v6)) 1000) fun I8 => some (.inl (v6 + 1, I8)) else none) else some (.inr I))
set_option maxRecDepth 100000 in
set_option maxHeartbeats 4000000 in
theorem k_X4_weighCheapest_b20 {G : GX} {Q : State → Prop} {X : MX} (hM : shX10 X) {a1 : Nat} {a2 : Nat} {n2 : Nat} {v3 : Int32} {v4 : Int32} {v5 : Int32} (h1 : shX0 X a1) (h2 : X.1 a2 = (2, n2)) {v6 : Int32} {N : Nat} {I : MI} {L : ML} {out : (Int32 × MI) ⊕ (MI)} (hf : f_X4_weighCheapest_b20 N a1 a2 n2 v3 v4 v5 v6 I = some out) (hC : ∀ (v6' : Int32) (I' : MI), out = .inl (v6', I') → Ex G mX4_weighCheapest rmX4_weighCheapest Q (0, 0) X I' L 20 [(0, .ref (gB G + 91)), (1, .ref (gB G + a1)), (2, .ref (gB G + a2)), (3, .int v3), (4, .int v4), (5, .int v5), (6, .int v6')] []) (hX : ∀ (I' : MI), out = .inr I' → Ex G mX4_weighCheapest rmX4_weighCheapest Q (0, 0) X I' L 59 [(0, .ref (gB G + 91)), (1, .ref (gB G + a1)), (2, .ref (gB G + a2)), (4, .int v4)] []) : Ex G mX4_weighCheapest rmX4_weighCheapest Q (0, 0) X I L 20 [(0, .ref (gB G + 91)), (1, .ref (gB G + a1)), (2, .ref (gB G + a2)), (3, .int v3), (4, .int v4), (5, .int v5), (6, .int v6)] [] := by
  unfold f_X4_weighCheapest_b20 at hf
  refine ex_iload 6 (pc' := 22) dX4_weighCheapest_20 rfl rfl ?_
  refine ex_iload 4 (pc' := 24) dX4_weighCheapest_22 rfl rfl ?_
  refine ex_icmpge (tgt := 59) (pc' := 27) dX4_weighCheapest_24 (by decide) rfl (fun hc1 => ?_) (fun hc1 => ?_)
  · replace hf := if_t hc1 hf
    refine ex_aload_n 0 (pc' := 28) dX4_weighCheapest_27 rfl rfl rfl ?_
    refine ex_getR (pc' := 31) dX4_weighCheapest_28 fl_X4_18 rfl (sh4_k (sh10_T7 hM)) (sh4_F2 (sh10_T7 hM)) rfl ?_
    refine ex_iload 5 (pc' := 33) dX4_weighCheapest_31 rfl rfl ?_
    refine ex_iload 6 (pc' := 35) dX4_weighCheapest_33 rfl rfl ?_
    refine ex_iadd (pc' := 36) dX4_weighCheapest_35 rfl ?_
    refine ex_iload 6 (pc' := 38) dX4_weighCheapest_36 rfl rfl ?_
    obtain ⟨r2, hq3, hf⟩ := of_bnd1 hf
    refine ex_callS_i (rm' := rmJ6_bitCount_0f7a4) (st := [.int (v5 + v6), .ref (gB G + 94)]) (pc' := 41) [.int v6] dX4_weighCheapest_38 cl_X4_43 (k_J6_bitCount_0f7a4 G hq3) rfl rfl rfl (ROOM_of rfl) (Nat.le_of_ble_eq_true rfl) rfl rfl ?_
    refine ex_iload_n 3 (pc' := 42) dX4_weighCheapest_41 rfl rfl rfl ?_
    refine ex_icmpne (tgt := 49) (pc' := 45) dX4_weighCheapest_42 (by decide) rfl (fun hc4 => ?_) (fun hc4 => ?_)
    · replace hf := if_t hc4 hf
      refine ex_iconst (v := 0) (pc' := 46) dX4_weighCheapest_45 ic_0 rfl ?_
      refine ex_goto (tgt := 52) dX4_weighCheapest_46 (by decide) ?_
      obtain ⟨hg5, hf⟩ := of_guard hf
      refine ex_iast (pc' := 53) dX4_weighCheapest_52 (sh4_T2 (sh10_T7 hM)) (inb_in hg5) rfl ?_
      obtain ⟨I6, hI6, hf⟩ := of_let hf
      rw [← hI6]
      refine ex_iincc (lv' := [(6, .int (v6 + 1)), (0, .ref (gB G + 91)), (1, .ref (gB G + a1)), (2, .ref (gB G + a2)), (3, .int v3), (4, .int v4), (5, .int v5)]) 6 (pc' := 56) dX4_weighCheapest_53 rfl ic_1 (Nat.le_of_ble_eq_true rfl) rfl rfl ?_
      refine ex_goto (tgt := 20) dX4_weighCheapest_56 (by decide) ?_
      exact ex_sub [1, 2, 3, 4, 5, 6, 0] rfl (hC _ _ (Option.some.inj hf).symm)
    · replace hf := if_f hc4 hf
      refine ex_sipush (v := 1000) (pc' := 52) dX4_weighCheapest_49 sp_1000 rfl ?_
      obtain ⟨hg7, hf⟩ := of_guard hf
      refine ex_iast (pc' := 53) dX4_weighCheapest_52 (sh4_T2 (sh10_T7 hM)) (inb_in hg7) rfl ?_
      obtain ⟨I8, hI8, hf⟩ := of_let hf
      rw [← hI8]
      refine ex_iincc (lv' := [(6, .int (v6 + 1)), (0, .ref (gB G + 91)), (1, .ref (gB G + a1)), (2, .ref (gB G + a2)), (3, .int v3), (4, .int v4), (5, .int v5)]) 6 (pc' := 56) dX4_weighCheapest_53 rfl ic_1 (Nat.le_of_ble_eq_true rfl) rfl rfl ?_
      refine ex_goto (tgt := 20) dX4_weighCheapest_56 (by decide) ?_
      exact ex_sub [1, 2, 3, 4, 5, 6, 0] rfl (hC _ _ (Option.some.inj hf).symm)
  · replace hf := if_f hc1 hf
    exact ex_sub [0, 1, 2, 4] rfl (hX _ (Option.some.inj hf).symm)
def f_X4_weighCheapest_l20 (N : Nat) (a1 : Nat) (a2 : Nat) (n2 : Nat) (v3 : Int32) (v4 : Int32) (v5 : Int32) (v6 : Int32) (I : MI) : Option (MI) := loopN (fun s => f_X4_weighCheapest_b20 N a1 a2 n2 v3 v4 v5 s.1 s.2) N (v6, I)
set_option maxRecDepth 100000 in
set_option maxHeartbeats 4000000 in
theorem k_X4_weighCheapest_l20 {G : GX} {Q : State → Prop} {X : MX} (hM : shX10 X) {a1 : Nat} {a2 : Nat} {n2 : Nat} {v3 : Int32} {v4 : Int32} {v5 : Int32} (h1 : shX0 X a1) (h2 : X.1 a2 = (2, n2)) {N0 : Nat} {L : ML} {out : (MI)} (hX : ∀ (I' : MI), out = I' → Ex G mX4_weighCheapest rmX4_weighCheapest Q (0, 0) X I' L 59 [(0, .ref (gB G + 91)), (1, .ref (gB G + a1)), (2, .ref (gB G + a2)), (4, .int v4)] []) : ∀ (N : Nat) (v6 : Int32) (I : MI), loopN (fun s => f_X4_weighCheapest_b20 N0 a1 a2 n2 v3 v4 v5 s.1 s.2) N (v6, I) = some out → Ex G mX4_weighCheapest rmX4_weighCheapest Q (0, 0) X I L 20 [(0, .ref (gB G + 91)), (1, .ref (gB G + a1)), (2, .ref (gB G + a2)), (3, .int v3), (4, .int v4), (5, .int v5), (6, .int v6)] [] := by
  intro N
  induction N with
  | zero => intro v6 I hf; exact absurd (loopN_zero hf) id
  | succ n ih =>
    intro v6 I hf
    rcases loopN_succ hf with ⟨s, hb, hl⟩ | hb
    · obtain ⟨v6', I'⟩ := s
      refine k_X4_weighCheapest_b20 hM h1 h2 hb (fun _ _ he => ?_) (fun _ he => by cases he)
      cases he
      exact ih v6' I' hl
    · exact k_X4_weighCheapest_b20 hM h1 h2 hb (fun _ _ he => by cases he) (fun x0 he => hX x0 (Sum.inr.inj he))
def f_X4_weighCheapest_b75 (N : Nat) (a1 : Nat) (a2 : Nat) (n2 : Nat) (v4 : Int32) (v6 : Int32) (v7 : Int32) (I : MI) : Option ((Int32 × MI) ⊕ (MI)) := (if v7 < v4 then bnd1 (f_X4_leastFrom N a1 a2 n2 v6 v7 I) fun r13 => if inb ((v6 * 64) + v7) 448 then letv (upI I 94 (Int32.toNatClampNeg ((v6 * 64) + v7)) r13) fun I16 => some (.inl (v7 + 1, I16)) else none else some (.inr I))
set_option maxRecDepth 100000 in
set_option maxHeartbeats 4000000 in
theorem k_X4_weighCheapest_b75 {G : GX} {Q : State → Prop} {X : MX} (hM : shX10 X) {a1 : Nat} {a2 : Nat} {n2 : Nat} {v4 : Int32} {v6 : Int32} (h1 : shX0 X a1) (h2 : X.1 a2 = (2, n2)) {v7 : Int32} {N : Nat} {I : MI} {L : ML} {out : (Int32 × MI) ⊕ (MI)} (hf : f_X4_weighCheapest_b75 N a1 a2 n2 v4 v6 v7 I = some out) (hC : ∀ (v7' : Int32) (I' : MI), out = .inl (v7', I') → Ex G mX4_weighCheapest rmX4_weighCheapest Q (0, 0) X I' L 75 [(0, .ref (gB G + 91)), (1, .ref (gB G + a1)), (2, .ref (gB G + a2)), (4, .int v4), (6, .int v6), (7, .int v7')] []) (hX : ∀ (I' : MI), out = .inr I' → Ex G mX4_weighCheapest rmX4_weighCheapest Q (0, 0) X I' L 111 [(0, .ref (gB G + 91)), (1, .ref (gB G + a1)), (2, .ref (gB G + a2)), (4, .int v4), (6, .int v6)] []) : Ex G mX4_weighCheapest rmX4_weighCheapest Q (0, 0) X I L 75 [(0, .ref (gB G + 91)), (1, .ref (gB G + a1)), (2, .ref (gB G + a2)), (4, .int v4), (6, .int v6), (7, .int v7)] [] := by
  unfold f_X4_weighCheapest_b75 at hf
  refine ex_iload 5 (pc' := 77) dX4_weighCheapest_75 rfl rfl ?_
  refine ex_iload 3 (pc' := 79) dX4_weighCheapest_77 rfl rfl ?_
  refine ex_icmpge (tgt := 111) (pc' := 82) dX4_weighCheapest_79 (by decide) rfl (fun hc12 => ?_) (fun hc12 => ?_)
  · replace hf := if_t hc12 hf
    refine ex_aload_n 0 (pc' := 83) dX4_weighCheapest_82 rfl rfl rfl ?_
    refine ex_getR (pc' := 86) dX4_weighCheapest_83 fl_X4_18 rfl (sh4_k (sh10_T7 hM)) (sh4_F2 (sh10_T7 hM)) rfl ?_
    refine ex_iload 4 (pc' := 88) dX4_weighCheapest_86 rfl rfl ?_
    refine ex_bipush (v := 64) (pc' := 90) dX4_weighCheapest_88 bp_64 rfl ?_
    refine ex_imul (pc' := 91) dX4_weighCheapest_90 rfl ?_
    refine ex_iload 5 (pc' := 93) dX4_weighCheapest_91 rfl rfl ?_
    refine ex_iadd (pc' := 94) dX4_weighCheapest_93 rfl ?_
    refine ex_aload_n 0 (pc' := 95) dX4_weighCheapest_94 rfl rfl rfl ?_
    refine ex_aload_n 1 (pc' := 96) dX4_weighCheapest_95 rfl rfl rfl ?_
    refine ex_aload_n 2 (pc' := 97) dX4_weighCheapest_96 rfl rfl rfl ?_
    refine ex_iload 4 (pc' := 99) dX4_weighCheapest_97 rfl rfl ?_
    refine ex_iload 5 (pc' := 101) dX4_weighCheapest_99 rfl rfl ?_
    obtain ⟨r13, hq14, hf⟩ := of_bnd1 hf
    refine ex_callV_i (rm' := rmX4_leastFrom) (st := [.int ((v6 * 64) + v7), .ref (gB G + 94)]) (pc' := 104) [.ref (gB G + a1), .ref (gB G + a2), .int v6, .int v7] dX4_weighCheapest_101 cl_X4_59 (k_X4_leastFrom G hM h1 h2 hq14) rfl (sh4_k (sh10_T7 hM)) ⟨_, _, rfl⟩ rfl rfl (ROOM_of rfl) (Nat.le_of_ble_eq_true rfl) rfl rfl ?_
    obtain ⟨hg15, hf⟩ := of_guard hf
    refine ex_iast (pc' := 105) dX4_weighCheapest_104 (sh4_T2 (sh10_T7 hM)) (inb_in hg15) rfl ?_
    obtain ⟨I16, hI16, hf⟩ := of_let hf
    rw [← hI16]
    refine ex_iincc (lv' := [(7, .int (v7 + 1)), (0, .ref (gB G + 91)), (1, .ref (gB G + a1)), (2, .ref (gB G + a2)), (4, .int v4), (6, .int v6)]) 5 (pc' := 108) dX4_weighCheapest_105 rfl ic_1 (Nat.le_of_ble_eq_true rfl) rfl rfl ?_
    refine ex_goto (tgt := 75) dX4_weighCheapest_108 (by decide) ?_
    exact ex_sub [1, 2, 3, 4, 5, 0] rfl (hC _ _ (Option.some.inj hf).symm)
  · replace hf := if_f hc12 hf
    exact ex_sub [0, 1, 2, 3, 4] rfl (hX _ (Option.some.inj hf).symm)
def f_X4_weighCheapest_l75 (N : Nat) (a1 : Nat) (a2 : Nat) (n2 : Nat) (v4 : Int32) (v6 : Int32) (v7 : Int32) (I : MI) : Option (MI) := loopN (fun s => f_X4_weighCheapest_b75 N a1 a2 n2 v4 v6 s.1 s.2) N (v7, I)
set_option maxRecDepth 100000 in
set_option maxHeartbeats 4000000 in
theorem k_X4_weighCheapest_l75 {G : GX} {Q : State → Prop} {X : MX} (hM : shX10 X) {a1 : Nat} {a2 : Nat} {n2 : Nat} {v4 : Int32} {v6 : Int32} (h1 : shX0 X a1) (h2 : X.1 a2 = (2, n2)) {N0 : Nat} {L : ML} {out : (MI)} (hX : ∀ (I' : MI), out = I' → Ex G mX4_weighCheapest rmX4_weighCheapest Q (0, 0) X I' L 111 [(0, .ref (gB G + 91)), (1, .ref (gB G + a1)), (2, .ref (gB G + a2)), (4, .int v4), (6, .int v6)] []) : ∀ (N : Nat) (v7 : Int32) (I : MI), loopN (fun s => f_X4_weighCheapest_b75 N0 a1 a2 n2 v4 v6 s.1 s.2) N (v7, I) = some out → Ex G mX4_weighCheapest rmX4_weighCheapest Q (0, 0) X I L 75 [(0, .ref (gB G + 91)), (1, .ref (gB G + a1)), (2, .ref (gB G + a2)), (4, .int v4), (6, .int v6), (7, .int v7)] [] := by
  intro N
  induction N with
  | zero => intro v7 I hf; exact absurd (loopN_zero hf) id
  | succ n ih =>
    intro v7 I hf
    rcases loopN_succ hf with ⟨s, hb, hl⟩ | hb
    · obtain ⟨v7', I'⟩ := s
      refine k_X4_weighCheapest_b75 hM h1 h2 hb (fun _ _ he => ?_) (fun _ he => by cases he)
      cases he
      exact ih v7' I' hl
    · exact k_X4_weighCheapest_b75 hM h1 h2 hb (fun _ _ he => by cases he) (fun x0 he => hX x0 (Sum.inr.inj he))
def f_X4_weighCheapest_b67 (N : Nat) (a1 : Nat) (a2 : Nat) (n2 : Nat) (v4 : Int32) (v6 : Int32) (I : MI) : Option ((Int32 × MI) ⊕ (MI)) := (if v6 < 0 then some (.inr I) else bnd1 (f_X4_weighCheapest_l75 N a1 a2 n2 v4 v6 0 I) fun I17 => some (.inl (v6 + (-1), I17)))
set_option maxRecDepth 100000 in
set_option maxHeartbeats 4000000 in
theorem k_X4_weighCheapest_b67 {G : GX} {Q : State → Prop} {X : MX} (hM : shX10 X) {a1 : Nat} {a2 : Nat} {n2 : Nat} {v4 : Int32} (h1 : shX0 X a1) (h2 : X.1 a2 = (2, n2)) {v6 : Int32} {N : Nat} {I : MI} {L : ML} {out : (Int32 × MI) ⊕ (MI)} (hf : f_X4_weighCheapest_b67 N a1 a2 n2 v4 v6 I = some out) (hC : ∀ (v6' : Int32) (I' : MI), out = .inl (v6', I') → Ex G mX4_weighCheapest rmX4_weighCheapest Q (0, 0) X I' L 67 [(0, .ref (gB G + 91)), (1, .ref (gB G + a1)), (2, .ref (gB G + a2)), (4, .int v4), (6, .int v6')] []) (hX : ∀ (I' : MI), out = .inr I' → Ex G mX4_weighCheapest rmX4_weighCheapest Q (0, 0) X I' L 117 [(0, .ref (gB G + 91))] []) : Ex G mX4_weighCheapest rmX4_weighCheapest Q (0, 0) X I L 67 [(0, .ref (gB G + 91)), (1, .ref (gB G + a1)), (2, .ref (gB G + a2)), (4, .int v4), (6, .int v6)] [] := by
  unfold f_X4_weighCheapest_b67 at hf
  refine ex_iload 4 (pc' := 69) dX4_weighCheapest_67 rfl rfl ?_
  refine ex_iflt (tgt := 117) (pc' := 72) dX4_weighCheapest_69 (by decide) rfl (fun hc11 => ?_) (fun hc11 => ?_)
  · replace hf := if_t hc11 hf
    exact ex_sub [0] rfl (hX _ (Option.some.inj hf).symm)
  · replace hf := if_f hc11 hf
    refine ex_iconst (v := 0) (pc' := 73) dX4_weighCheapest_72 ic_0 rfl ?_
    refine ex_istore (lv' := [(7, .int 0), (0, .ref (gB G + 91)), (1, .ref (gB G + a1)), (2, .ref (gB G + a2)), (4, .int v4), (6, .int v6)]) (pc' := 75) dX4_weighCheapest_73 (Nat.le_of_ble_eq_true rfl) rfl rfl ?_
    refine ex_sub (lv' := [(0, .ref (gB G + 91)), (1, .ref (gB G + a1)), (2, .ref (gB G + a2)), (4, .int v4), (6, .int v6), (7, .int 0)]) [1, 2, 3, 4, 5, 0] rfl ?_
    obtain ⟨I17, hq18, hf⟩ := of_bnd1 hf
    refine k_X4_weighCheapest_l75 hM h1 h2 (fun I17' he => ?_) _ _ _ hq18
    cases he
    refine ex_iincc (lv' := [(6, .int (v6 + (-1))), (0, .ref (gB G + 91)), (1, .ref (gB G + a1)), (2, .ref (gB G + a2)), (4, .int v4)]) 4 (pc' := 114) dX4_weighCheapest_111 rfl ic_m1 (Nat.le_of_ble_eq_true rfl) rfl rfl ?_
    refine ex_goto (tgt := 67) dX4_weighCheapest_114 (by decide) ?_
    exact ex_sub [1, 2, 3, 4, 0] rfl (hC _ _ (Option.some.inj hf).symm)
def f_X4_weighCheapest_l67 (N : Nat) (a1 : Nat) (a2 : Nat) (n2 : Nat) (v4 : Int32) (v6 : Int32) (I : MI) : Option (MI) := loopN (fun s => f_X4_weighCheapest_b67 N a1 a2 n2 v4 s.1 s.2) N (v6, I)
set_option maxRecDepth 100000 in
set_option maxHeartbeats 4000000 in
theorem k_X4_weighCheapest_l67 {G : GX} {Q : State → Prop} {X : MX} (hM : shX10 X) {a1 : Nat} {a2 : Nat} {n2 : Nat} {v4 : Int32} (h1 : shX0 X a1) (h2 : X.1 a2 = (2, n2)) {N0 : Nat} {L : ML} {out : (MI)} (hX : ∀ (I' : MI), out = I' → Ex G mX4_weighCheapest rmX4_weighCheapest Q (0, 0) X I' L 117 [(0, .ref (gB G + 91))] []) : ∀ (N : Nat) (v6 : Int32) (I : MI), loopN (fun s => f_X4_weighCheapest_b67 N0 a1 a2 n2 v4 s.1 s.2) N (v6, I) = some out → Ex G mX4_weighCheapest rmX4_weighCheapest Q (0, 0) X I L 67 [(0, .ref (gB G + 91)), (1, .ref (gB G + a1)), (2, .ref (gB G + a2)), (4, .int v4), (6, .int v6)] [] := by
  intro N
  induction N with
  | zero => intro v6 I hf; exact absurd (loopN_zero hf) id
  | succ n ih =>
    intro v6 I hf
    rcases loopN_succ hf with ⟨s, hb, hl⟩ | hb
    · obtain ⟨v6', I'⟩ := s
      refine k_X4_weighCheapest_b67 hM h1 h2 hb (fun _ _ he => ?_) (fun _ he => by cases he)
      cases he
      exact ih v6' I' hl
    · exact k_X4_weighCheapest_b67 hM h1 h2 hb (fun _ _ he => by cases he) (fun x0 he => hX x0 (Sum.inr.inj he))
def f_X4_weighCheapest (N : Nat) (a1 : Nat) (a2 : Nat) (n2 : Nat) (v3 : Int32) (I : MI) : Option (Int32 × MI) := bnd1 (f_X4_weighCheapest_l20 N a1 a2 n2 v3 (jshl 1 (I a1 0)) ((I a1 0) * 64) 0 I) fun I9 => bnd1 (f_X4_weighCheapest_l67 N a1 a2 n2 (jshl 1 (I a1 0)) ((I9 a1 0) - 1) I9) fun I19 => if inb 0 448 then some (I19 94 (Int32.toNatClampNeg 0), I19) else none
set_option maxRecDepth 100000 in
set_option maxHeartbeats 4000000 in
theorem kb_X4_weighCheapest {G : GX} {Q : State → Prop} {X : MX} (hM : shX10 X) {a1 : Nat} {a2 : Nat} {n2 : Nat} {v3 : Int32} (h1 : shX0 X a1) (h2 : X.1 a2 = (2, n2)) {N : Nat} {I : MI} {L : ML} {out : Int32 × MI} (hf : f_X4_weighCheapest N a1 a2 n2 v3 I = some out) (hR : ∀ (z : Int32) (I' : MI), out = (z, I') → Q = RetQ G (some (.int z)) X I' L (0, 0)) : Ex G mX4_weighCheapest rmX4_weighCheapest Q (0, 0) X I L 0 [(0, .ref (gB G + 91)), (1, .ref (gB G + a1)), (2, .ref (gB G + a2)), (3, .int v3)] [] := by
  unfold f_X4_weighCheapest at hf
  refine ex_iconst (v := 1) (pc' := 1) dX4_weighCheapest_0 ic_1 rfl ?_
  refine ex_aload_n 1 (pc' := 2) dX4_weighCheapest_1 rfl rfl rfl ?_
  refine ex_getI (pc' := 5) dX4_weighCheapest_2 fl_X4_27 rfl (sh0_k h1) rfl ?_
  refine ex_ishl (pc' := 6) dX4_weighCheapest_5 rfl ?_
  refine ex_istore (lv' := [(4, .int (jshl 1 (I a1 0))), (0, .ref (gB G + 91)), (1, .ref (gB G + a1)), (2, .ref (gB G + a2)), (3, .int v3)]) (pc' := 8) dX4_weighCheapest_6 (Nat.le_of_ble_eq_true rfl) rfl rfl ?_
  refine ex_aload_n 2 (pc' := 9) dX4_weighCheapest_8 rfl rfl rfl ?_
  refine ex_getI (pc' := 12) dX4_weighCheapest_9 fl_X4_27 rfl (sh0_k h1) rfl ?_
  refine ex_bipush (v := 64) (pc' := 14) dX4_weighCheapest_12 bp_64 rfl ?_
  refine ex_imul (pc' := 15) dX4_weighCheapest_14 rfl ?_
  refine ex_istore (lv' := [(5, .int ((I a1 0) * 64)), (4, .int (jshl 1 (I a1 0))), (0, .ref (gB G + 91)), (1, .ref (gB G + a1)), (2, .ref (gB G + a2)), (3, .int v3)]) (pc' := 17) dX4_weighCheapest_15 (Nat.le_of_ble_eq_true rfl) rfl rfl ?_
  refine ex_iconst (v := 0) (pc' := 18) dX4_weighCheapest_17 ic_0 rfl ?_
  refine ex_istore (lv' := [(6, .int 0), (5, .int ((I a1 0) * 64)), (4, .int (jshl 1 (I a1 0))), (0, .ref (gB G + 91)), (1, .ref (gB G + a1)), (2, .ref (gB G + a2)), (3, .int v3)]) (pc' := 20) dX4_weighCheapest_18 (Nat.le_of_ble_eq_true rfl) rfl rfl ?_
  refine ex_sub (lv' := [(0, .ref (gB G + 91)), (1, .ref (gB G + a1)), (2, .ref (gB G + a2)), (3, .int v3), (4, .int (jshl 1 (I a1 0))), (5, .int ((I a1 0) * 64)), (6, .int 0)]) [3, 4, 5, 6, 2, 1, 0] rfl ?_
  obtain ⟨I9, hq10, hf⟩ := of_bnd1 hf
  refine k_X4_weighCheapest_l20 hM h1 h2 (fun I9' he => ?_) _ _ _ hq10
  cases he
  refine ex_aload_n 1 (pc' := 60) dX4_weighCheapest_59 rfl rfl rfl ?_
  refine ex_getI (pc' := 63) dX4_weighCheapest_60 fl_X4_27 rfl (sh0_k h1) rfl ?_
  refine ex_iconst (v := 1) (pc' := 64) dX4_weighCheapest_63 ic_1 rfl ?_
  refine ex_isub (pc' := 65) dX4_weighCheapest_64 rfl ?_
  refine ex_istore (lv' := [(6, .int ((I9 a1 0) - 1)), (0, .ref (gB G + 91)), (1, .ref (gB G + a1)), (2, .ref (gB G + a2)), (4, .int (jshl 1 (I a1 0)))]) (pc' := 67) dX4_weighCheapest_65 (Nat.le_of_ble_eq_true rfl) rfl rfl ?_
  refine ex_sub (lv' := [(0, .ref (gB G + 91)), (1, .ref (gB G + a1)), (2, .ref (gB G + a2)), (4, .int (jshl 1 (I a1 0))), (6, .int ((I9 a1 0) - 1))]) [1, 2, 3, 4, 0] rfl ?_
  obtain ⟨I19, hq20, hf⟩ := of_bnd1 hf
  refine k_X4_weighCheapest_l67 hM h1 h2 (fun I19' he => ?_) _ _ _ hq20
  cases he
  refine ex_aload_n 0 (pc' := 118) dX4_weighCheapest_117 rfl rfl rfl ?_
  refine ex_getR (pc' := 121) dX4_weighCheapest_118 fl_X4_18 rfl (sh4_k (sh10_T7 hM)) (sh4_F2 (sh10_T7 hM)) rfl ?_
  refine ex_iconst (v := 0) (pc' := 122) dX4_weighCheapest_121 ic_0 rfl ?_
  obtain ⟨hg21, hf⟩ := of_guard hf
  refine ex_iald (pc' := 123) dX4_weighCheapest_122 (sh4_T2 (sh10_T7 hM)) (inb_in hg21) rfl ?_
  exact ex_iret dX4_weighCheapest_123 rfl (hR _ _ (Option.some.inj hf).symm)
set_option maxRecDepth 100000 in
set_option maxHeartbeats 4000000 in
theorem k_X4_weighCheapest (G : GX) {X : MX} (hM : shX10 X) {a1 : Nat} {a2 : Nat} {n2 : Nat} {v3 : Int32} (h1 : shX0 X a1) (h2 : X.1 a2 = (2, n2)) {N : Nat} {I : MI} {L : ML} {z : Int32} {I' : MI} (hf : f_X4_weighCheapest N a1 a2 n2 v3 I = some (z, I')) : Con G mX4_weighCheapest yX4_weighCheapest rmX4_weighCheapest (fun B => [.ref (B + 91), .ref (B + a1), .ref (B + a2), .int v3]) X I L (some (.int z)) X I' L :=
  Con.of (by decide) rfl (fun h => by cases h) (fun B => Nat.le_of_ble_eq_true rfl) (fun G => kb_X4_weighCheapest hM h1 h2 hf (fun _ _ he => by cases he; rfl))
theorem fl_X5_71 : FLD RX5 71 5 6 false := ⟨RX5, TX5, 7, rfl, inX5, by decide, lwg_at 154 (by decide +kernel) rfl, nmX5, tyX5_ok, rfl, rfl⟩
theorem fl_X5_34 : FLD RX5 34 5 4 true := ⟨RX5, TX5, 7, rfl, inX5, by decide, lwg_at 150 (by decide +kernel) rfl, nmX5, tyX5_ok, rfl, rfl⟩
theorem cl_X5_78 : CLS RX5 78 yX2_countInKey mX2_countInKey (some FieldType.int) 2 := ⟨⟨lwg_at 711 (by decide +kernel) rfl, lwg_at 712 (by decide +kernel) rfl, lwg_at 65 (by decide +kernel) rfl⟩, lwg_at 713 (by decide +kernel) rfl, ⟨by decide +kernel, by decide +kernel, by decide +kernel⟩⟩
theorem fl_X5_37 : FLD RX5 37 5 5 true := ⟨RX5, TX5, 7, rfl, inX5, by decide, lwg_at 152 (by decide +kernel) rfl, nmX5, tyX5_ok, rfl, rfl⟩
-- X5_agreesWithSeen ('RookWords$State', 'agreesWithSeen', '(J)Z')
def rmX5_agreesWithSeen : RM := ((1, 22, 0, 0), false, (some FieldType.boolean))
def f_X5_agreesWithSeen_b2 (N : Nat) (a0 : Nat) (v1 : Int64) (v3 : Int32) (I : MI) : Option ((Int32) ⊕ ((Unit) ⊕ (Int32))) := (if v3 < (I a0 6) then (if v3 < 4 then if inb v3 4 then bnd1 (f_X2_countInKey v1 (I (a0 + 7) (Int32.toNatClampNeg v3)) I) fun r4 => if inb v3 4 then (if r4 = (I (a0 + 8) (Int32.toNatClampNeg v3)) then some (.inl (v3 + 1)) else some (.inr (.inr 0))) else none else none else some (.inr (.inl ()))) else some (.inr (.inl ())))
set_option maxRecDepth 100000 in
set_option maxHeartbeats 4000000 in
theorem k_X5_agreesWithSeen_b2 {G : GX} {Q : State → Prop} {X : MX} {a0 : Nat} {v1 : Int64} (h0 : shX5 X a0) {v3 : Int32} {N : Nat} {I : MI} {L : ML} {out : (Int32) ⊕ ((Unit) ⊕ (Int32))} (hf : f_X5_agreesWithSeen_b2 N a0 v1 v3 I = some out) (hC : ∀ (v3' : Int32), out = .inl v3' → Ex G mX5_agreesWithSeen rmX5_agreesWithSeen Q (0, 0) X I L 2 [(0, .ref (gB G + a0)), (1, .long v1), (3, .int v3')] []) (hX : ∀ (u : Unit), out = .inr (.inl u) → Ex G mX5_agreesWithSeen rmX5_agreesWithSeen Q (0, 0) X I L 42 [] []) (hR : ∀ (z : Int32), out = .inr (.inr z) → Q = RetQ G (some (.int z)) X I L (0, 0)) : Ex G mX5_agreesWithSeen rmX5_agreesWithSeen Q (0, 0) X I L 2 [(0, .ref (gB G + a0)), (1, .long v1), (3, .int v3)] [] := by
  unfold f_X5_agreesWithSeen_b2 at hf
  refine ex_iload_n 2 (pc' := 3) dX5_agreesWithSeen_2 rfl rfl rfl ?_
  refine ex_aload_n 0 (pc' := 4) dX5_agreesWithSeen_3 rfl rfl rfl ?_
  refine ex_getI (pc' := 7) dX5_agreesWithSeen_4 fl_X5_71 rfl (sh5_k h0) rfl ?_
  refine ex_icmpge (tgt := 42) (pc' := 10) dX5_agreesWithSeen_7 (by decide) rfl (fun hc1 => ?_) (fun hc1 => ?_)
  · replace hf := if_t hc1 hf
    refine ex_iload_n 2 (pc' := 11) dX5_agreesWithSeen_10 rfl rfl rfl ?_
    refine ex_iconst (v := 4) (pc' := 12) dX5_agreesWithSeen_11 ic_4 rfl ?_
    refine ex_icmpge (tgt := 42) (pc' := 15) dX5_agreesWithSeen_12 (by decide) rfl (fun hc2 => ?_) (fun hc2 => ?_)
    · replace hf := if_t hc2 hf
      refine ex_lload_n 1 (pc' := 16) dX5_agreesWithSeen_15 rfl rfl rfl ?_
      refine ex_aload_n 0 (pc' := 17) dX5_agreesWithSeen_16 rfl rfl rfl ?_
      refine ex_getR (pc' := 20) dX5_agreesWithSeen_17 fl_X5_34 rfl (sh5_k h0) (sh5_F4 h0) rfl ?_
      refine ex_iload_n 2 (pc' := 21) dX5_agreesWithSeen_20 rfl rfl rfl ?_
      obtain ⟨hg3, hf⟩ := of_guard hf
      refine ex_iald (pc' := 22) dX5_agreesWithSeen_21 (sh5_T4 h0) (inb_in hg3) rfl ?_
      obtain ⟨r4, hq5, hf⟩ := of_bnd1 hf
      refine ex_callS_i (rm' := rmX2_countInKey) (st := []) (pc' := 25) [.long v1, .int (I (a0 + 7) (Int32.toNatClampNeg v3))] dX5_agreesWithSeen_22 cl_X5_78 (k_X2_countInKey G hq5) rfl rfl rfl (ROOM_of rfl) (Nat.le_of_ble_eq_true rfl) rfl rfl ?_
      refine ex_aload_n 0 (pc' := 26) dX5_agreesWithSeen_25 rfl rfl rfl ?_
      refine ex_getR (pc' := 29) dX5_agreesWithSeen_26 fl_X5_37 rfl (sh5_k h0) (sh5_F5 h0) rfl ?_
      refine ex_iload_n 2 (pc' := 30) dX5_agreesWithSeen_29 rfl rfl rfl ?_
      obtain ⟨hg6, hf⟩ := of_guard hf
      refine ex_iald (pc' := 31) dX5_agreesWithSeen_30 (sh5_T5 h0) (inb_in hg6) rfl ?_
      refine ex_icmpeq (tgt := 36) (pc' := 34) dX5_agreesWithSeen_31 (by decide) rfl (fun hc7 => ?_) (fun hc7 => ?_)
      · replace hf := if_t hc7 hf
        refine ex_iincc (lv' := [(3, .int (v3 + 1)), (0, .ref (gB G + a0)), (1, .long v1)]) 2 (pc' := 39) dX5_agreesWithSeen_36 rfl ic_1 (Nat.le_of_ble_eq_true rfl) rfl rfl ?_
        refine ex_goto (tgt := 2) dX5_agreesWithSeen_39 (by decide) ?_
        exact ex_sub [1, 2, 0] rfl (hC _ (Option.some.inj hf).symm)
      · replace hf := if_f hc7 hf
        refine ex_iconst (v := 0) (pc' := 35) dX5_agreesWithSeen_34 ic_0 rfl ?_
        exact ex_zret dX5_agreesWithSeen_35 rfl (Or.inl rfl) (hR _ (Option.some.inj hf).symm)
    · replace hf := if_f hc2 hf
      exact ex_sub [] rfl (hX _ (Option.some.inj hf).symm)
  · replace hf := if_f hc1 hf
    exact ex_sub [] rfl (hX _ (Option.some.inj hf).symm)
def f_X5_agreesWithSeen_l2 (N : Nat) (a0 : Nat) (v1 : Int64) (v3 : Int32) (I : MI) : Option ((Unit) ⊕ (Int32)) := loopN (fun s => f_X5_agreesWithSeen_b2 N a0 v1 s I) N v3
set_option maxRecDepth 100000 in
set_option maxHeartbeats 4000000 in
theorem k_X5_agreesWithSeen_l2 {G : GX} {Q : State → Prop} {X : MX} {a0 : Nat} {v1 : Int64} (h0 : shX5 X a0) {N0 : Nat} {I : MI} {L : ML} {out : ((Unit) ⊕ (Int32))} (hX : ∀ (u : Unit), out = .inl u → Ex G mX5_agreesWithSeen rmX5_agreesWithSeen Q (0, 0) X I L 42 [] []) (hR : ∀ (z : Int32), out = .inr z → Q = RetQ G (some (.int z)) X I L (0, 0)) : ∀ (N : Nat) (v3 : Int32), loopN (fun s => f_X5_agreesWithSeen_b2 N0 a0 v1 s I) N v3 = some out → Ex G mX5_agreesWithSeen rmX5_agreesWithSeen Q (0, 0) X I L 2 [(0, .ref (gB G + a0)), (1, .long v1), (3, .int v3)] [] := by
  intro N
  induction N with
  | zero => intro v3 hf; exact absurd (loopN_zero hf) id
  | succ n ih =>
    intro v3 hf
    rcases loopN_succ hf with ⟨s, hb, hl⟩ | hb
    · skip
      refine k_X5_agreesWithSeen_b2 h0 hb (fun _ he => ?_) (fun _ he => by cases he) (fun _ he => by cases he)
      cases he
      exact ih s hl
    · exact k_X5_agreesWithSeen_b2 h0 hb (fun _ he => by cases he) (fun x0 he => hX x0 (Sum.inr.inj he)) (fun z0 he => hR z0 (Sum.inr.inj he))
def f_X5_agreesWithSeen (N : Nat) (a0 : Nat) (v1 : Int64) (I : MI) : Option (Int32) := bns1 (f_X5_agreesWithSeen_l2 N a0 v1 0 I) (fun u8 => some 1) (fun q10 => some q10)
set_option maxRecDepth 100000 in
set_option maxHeartbeats 4000000 in
theorem kb_X5_agreesWithSeen {G : GX} {Q : State → Prop} {X : MX} {a0 : Nat} {v1 : Int64} (h0 : shX5 X a0) {N : Nat} {I : MI} {L : ML} {out : Int32} (hf : f_X5_agreesWithSeen N a0 v1 I = some out) (hR : ∀ (z : Int32), out = z → Q = RetQ G (some (.int z)) X I L (0, 0)) : Ex G mX5_agreesWithSeen rmX5_agreesWithSeen Q (0, 0) X I L 0 [(0, .ref (gB G + a0)), (1, .long v1)] [] := by
  unfold f_X5_agreesWithSeen at hf
  refine ex_iconst (v := 0) (pc' := 1) dX5_agreesWithSeen_0 ic_0 rfl ?_
  refine ex_istore_n (lv' := [(3, .int 0), (0, .ref (gB G + a0)), (1, .long v1)]) (pc' := 2) dX5_agreesWithSeen_1 rfl (Nat.le_of_ble_eq_true rfl) rfl rfl ?_
  refine ex_sub (lv' := [(0, .ref (gB G + a0)), (1, .long v1), (3, .int 0)]) [1, 2, 0] rfl ?_
  rcases of_bns1 hf with ⟨u8, hq9, hf⟩ | ⟨q10, hq9, hf⟩
  · refine k_X5_agreesWithSeen_l2 h0 (fun u8' he => ?_) (fun _ he => by cases he) _ _ hq9
    cases he
    refine ex_iconst (v := 1) (pc' := 43) dX5_agreesWithSeen_42 ic_1 rfl ?_
    exact ex_zret dX5_agreesWithSeen_43 rfl (Or.inr rfl) (hR _ (Option.some.inj hf).symm)
  · refine k_X5_agreesWithSeen_l2 h0 (fun _ he => by cases he) (fun z0 he => ?_) _ _ hq9
    refine hR _ ?_
    rw [← Option.some.inj hf]
    cases he
    rfl
set_option maxRecDepth 100000 in
set_option maxHeartbeats 4000000 in
theorem k_X5_agreesWithSeen (G : GX) {X : MX} {a0 : Nat} {v1 : Int64} (h0 : shX5 X a0) {N : Nat} {I : MI} {L : ML} {z : Int32} (hf : f_X5_agreesWithSeen N a0 v1 I = some z) : Con G mX5_agreesWithSeen yX5_agreesWithSeen rmX5_agreesWithSeen (fun B => [.ref (B + a0), .long v1]) X I L (some (.int z)) X I L :=
  Con.of (by decide) rfl (fun h => by cases h) (fun B => Nat.le_of_ble_eq_true rfl) (fun G => kb_X5_agreesWithSeen h0 hf (fun _ he => by cases he; rfl))
theorem fl_X5_26 : FLD RX5 26 5 2 true := ⟨RX5, TX5, 7, rfl, inX5, by decide, lwg_at 144 (by decide +kernel) rfl, nmX5, tyX5_ok, rfl, rfl⟩
theorem cl_X5_74 : CLV RX5 74 yX0_cells mX0_cells (some FieldType.int) 0 := ⟨⟨lwg_at 893 (by decide +kernel) rfl, lwg_at 488 (by decide +kernel) rfl, lwg_at 489 (by decide +kernel) rfl, lwg_at 54 (by decide +kernel) rfl⟩, lwg_at 490 (by decide +kernel) rfl, ⟨by decide +kernel, by decide +kernel, by decide +kernel⟩⟩
-- X5_allCells ('RookWords$State', 'allCells', '()I')
def rmX5_allCells : RM := ((2, 42, 0, 0), false, (some FieldType.int))
def f_X5_allCells_b4 (N : Nat) (a0 : Nat) (v1 : Int32) (v2 : Int32) (I : MI) : Option ((Int32 × Int32) ⊕ (Int32)) := (if v2 < 6 then if inb v2 6 then bnd1 (f_X0_cells N (a0 + 11 + 4 * (Int32.toNatClampNeg v2)) I) fun r3 => some (.inl (v1 + r3, v2 + 1)) else none else some (.inr v1))
set_option maxRecDepth 100000 in
set_option maxHeartbeats 4000000 in
theorem k_X5_allCells_b4 {G : GX} {Q : State → Prop} {X : MX} {a0 : Nat} (h0 : shX5 X a0) {v1 : Int32} {v2 : Int32} {N : Nat} {I : MI} {L : ML} {out : (Int32 × Int32) ⊕ (Int32)} (hf : f_X5_allCells_b4 N a0 v1 v2 I = some out) (hC : ∀ (v1' : Int32) (v2' : Int32), out = .inl (v1', v2') → Ex G mX5_allCells rmX5_allCells Q (0, 0) X I L 4 [(0, .ref (gB G + a0)), (1, .int v1'), (2, .int v2')] []) (hX : ∀ (w1 : Int32), out = .inr w1 → Ex G mX5_allCells rmX5_allCells Q (0, 0) X I L 28 [(1, .int w1)] []) : Ex G mX5_allCells rmX5_allCells Q (0, 0) X I L 4 [(0, .ref (gB G + a0)), (1, .int v1), (2, .int v2)] [] := by
  unfold f_X5_allCells_b4 at hf
  refine ex_iload_n 2 (pc' := 5) dX5_allCells_4 rfl rfl rfl ?_
  refine ex_bipush (v := 6) (pc' := 7) dX5_allCells_5 bp_6 rfl ?_
  refine ex_icmpge (tgt := 28) (pc' := 10) dX5_allCells_7 (by decide) rfl (fun hc1 => ?_) (fun hc1 => ?_)
  · replace hf := if_t hc1 hf
    refine ex_iload_n 1 (pc' := 11) dX5_allCells_10 rfl rfl rfl ?_
    refine ex_aload_n 0 (pc' := 12) dX5_allCells_11 rfl rfl rfl ?_
    refine ex_getR (pc' := 15) dX5_allCells_12 fl_X5_26 rfl (sh5_k h0) (sh5_F2 h0) rfl ?_
    refine ex_iload_n 2 (pc' := 16) dX5_allCells_15 rfl rfl rfl ?_
    obtain ⟨hg2, hf⟩ := of_guard hf
    refine ex_aaldS (pc' := 17) dX5_allCells_16 (sh5_T2 h0) (by decide) (by decide) (inb_in hg2) (sh5_E2 h0 _ (inb_lt hg2)) rfl ?_
    obtain ⟨r3, hq4, hf⟩ := of_bnd1 hf
    refine ex_callV_i (rm' := rmX0_cells) (st := [.int v1]) (pc' := 20) [] dX5_allCells_17 cl_X5_74 (k_X0_cells G (sh5_O2 h0 _ (inb_lt hg2)) hq4) rfl (sh0_k (sh5_O2 h0 _ (inb_lt hg2))) ⟨_, _, rfl⟩ rfl rfl (ROOM_of rfl) (Nat.le_of_ble_eq_true rfl) rfl rfl ?_
    refine ex_iadd (pc' := 21) dX5_allCells_20 rfl ?_
    refine ex_istore_n (lv' := [(1, .int (v1 + r3)), (0, .ref (gB G + a0)), (2, .int v2)]) (pc' := 22) dX5_allCells_21 rfl (Nat.le_of_ble_eq_true rfl) rfl rfl ?_
    refine ex_iincc (lv' := [(2, .int (v2 + 1)), (1, .int (v1 + r3)), (0, .ref (gB G + a0))]) 2 (pc' := 25) dX5_allCells_22 rfl ic_1 (Nat.le_of_ble_eq_true rfl) rfl rfl ?_
    refine ex_goto (tgt := 4) dX5_allCells_25 (by decide) ?_
    exact ex_sub [2, 1, 0] rfl (hC _ _ (Option.some.inj hf).symm)
  · replace hf := if_f hc1 hf
    exact ex_sub [1] rfl (hX _ (Option.some.inj hf).symm)
def f_X5_allCells_l4 (N : Nat) (a0 : Nat) (v1 : Int32) (v2 : Int32) (I : MI) : Option (Int32) := loopN (fun s => f_X5_allCells_b4 N a0 s.1 s.2 I) N (v1, v2)
set_option maxRecDepth 100000 in
set_option maxHeartbeats 4000000 in
theorem k_X5_allCells_l4 {G : GX} {Q : State → Prop} {X : MX} {a0 : Nat} (h0 : shX5 X a0) {N0 : Nat} {I : MI} {L : ML} {out : (Int32)} (hX : ∀ (w1 : Int32), out = w1 → Ex G mX5_allCells rmX5_allCells Q (0, 0) X I L 28 [(1, .int w1)] []) : ∀ (N : Nat) (v1 : Int32) (v2 : Int32), loopN (fun s => f_X5_allCells_b4 N0 a0 s.1 s.2 I) N (v1, v2) = some out → Ex G mX5_allCells rmX5_allCells Q (0, 0) X I L 4 [(0, .ref (gB G + a0)), (1, .int v1), (2, .int v2)] [] := by
  intro N
  induction N with
  | zero => intro v1 v2 hf; exact absurd (loopN_zero hf) id
  | succ n ih =>
    intro v1 v2 hf
    rcases loopN_succ hf with ⟨s, hb, hl⟩ | hb
    · obtain ⟨v1', v2'⟩ := s
      refine k_X5_allCells_b4 h0 hb (fun _ _ he => ?_) (fun _ he => by cases he)
      cases he
      exact ih v1' v2' hl
    · exact k_X5_allCells_b4 h0 hb (fun _ _ he => by cases he) (fun x0 he => hX x0 (Sum.inr.inj he))
def f_X5_allCells (N : Nat) (a0 : Nat) (I : MI) : Option (Int32) := bnd1 (f_X5_allCells_l4 N a0 0 0 I) fun x5 => some x5
set_option maxRecDepth 100000 in
set_option maxHeartbeats 4000000 in
theorem kb_X5_allCells {G : GX} {Q : State → Prop} {X : MX} {a0 : Nat} (h0 : shX5 X a0) {N : Nat} {I : MI} {L : ML} {out : Int32} (hf : f_X5_allCells N a0 I = some out) (hR : ∀ (z : Int32), out = z → Q = RetQ G (some (.int z)) X I L (0, 0)) : Ex G mX5_allCells rmX5_allCells Q (0, 0) X I L 0 [(0, .ref (gB G + a0))] [] := by
  unfold f_X5_allCells at hf
  refine ex_iconst (v := 0) (pc' := 1) dX5_allCells_0 ic_0 rfl ?_
  refine ex_istore_n (lv' := [(1, .int 0), (0, .ref (gB G + a0))]) (pc' := 2) dX5_allCells_1 rfl (Nat.le_of_ble_eq_true rfl) rfl rfl ?_
  refine ex_iconst (v := 0) (pc' := 3) dX5_allCells_2 ic_0 rfl ?_
  refine ex_istore_n (lv' := [(2, .int 0), (1, .int 0), (0, .ref (gB G + a0))]) (pc' := 4) dX5_allCells_3 rfl (Nat.le_of_ble_eq_true rfl) rfl rfl ?_
  refine ex_sub (lv' := [(0, .ref (gB G + a0)), (1, .int 0), (2, .int 0)]) [2, 1, 0] rfl ?_
  obtain ⟨x5, hq6, hf⟩ := of_bnd1 hf
  refine k_X5_allCells_l4 h0 (fun x5' he => ?_) _ _ _ hq6
  cases he
  refine ex_iload_n 0 (pc' := 29) dX5_allCells_28 rfl rfl rfl ?_
  exact ex_iret dX5_allCells_29 rfl (hR _ (Option.some.inj hf).symm)
set_option maxRecDepth 100000 in
set_option maxHeartbeats 4000000 in
theorem k_X5_allCells (G : GX) {X : MX} {a0 : Nat} (h0 : shX5 X a0) {N : Nat} {I : MI} {L : ML} {z : Int32} (hf : f_X5_allCells N a0 I = some z) : Con G mX5_allCells yX5_allCells rmX5_allCells (fun B => [.ref (B + a0)]) X I L (some (.int z)) X I L :=
  Con.of (by decide) rfl (fun h => by cases h) (fun B => Nat.le_of_ble_eq_true rfl) (fun G => kb_X5_allCells h0 hf (fun _ he => by cases he; rfl))
theorem fl_X5_11 : FLD RX5 11 5 0 true := ⟨RX5, TX5, 7, rfl, inX5, by decide, lwg_at 140 (by decide +kernel) rfl, nmX5, tyX5_ok, rfl, rfl⟩
theorem fl_X5_51 : FLD RX5 51 9 1 false := ⟨RX9, TX9, 2, rfl, inX9, by decide, lwg_at 111 (by decide +kernel) rfl, nmX9, tyX9_ok, rfl, rfl⟩
-- X5_allLetters ('RookWords$State', 'allLetters', '()I')
def rmX5_allLetters : RM := ((0, 0, 0, 0), false, (some FieldType.int))
def f_X5_allLetters_b4 (N : Nat) (a0 : Nat) (v1 : Int32) (v2 : Int32) (I : MI) : Option ((Int32 × Int32) ⊕ (Int32)) := (if v2 < 6 then if inb v2 6 then letv (v1 + (I (a0 + 9 + 4 * (Int32.toNatClampNeg v2)) 1)) fun x3 => some (.inl (x3, v2 + 1)) else none else some (.inr v1))
set_option maxRecDepth 100000 in
set_option maxHeartbeats 4000000 in
theorem k_X5_allLetters_b4 {G : GX} {Q : State → Prop} {X : MX} {a0 : Nat} (h0 : shX5 X a0) {v1 : Int32} {v2 : Int32} {N : Nat} {I : MI} {L : ML} {out : (Int32 × Int32) ⊕ (Int32)} (hf : f_X5_allLetters_b4 N a0 v1 v2 I = some out) (hC : ∀ (v1' : Int32) (v2' : Int32), out = .inl (v1', v2') → Ex G mX5_allLetters rmX5_allLetters Q (0, 0) X I L 4 [(0, .ref (gB G + a0)), (1, .int v1'), (2, .int v2')] []) (hX : ∀ (w1 : Int32), out = .inr w1 → Ex G mX5_allLetters rmX5_allLetters Q (0, 0) X I L 28 [(1, .int w1)] []) : Ex G mX5_allLetters rmX5_allLetters Q (0, 0) X I L 4 [(0, .ref (gB G + a0)), (1, .int v1), (2, .int v2)] [] := by
  unfold f_X5_allLetters_b4 at hf
  refine ex_iload_n 2 (pc' := 5) dX5_allLetters_4 rfl rfl rfl ?_
  refine ex_bipush (v := 6) (pc' := 7) dX5_allLetters_5 bp_6 rfl ?_
  refine ex_icmpge (tgt := 28) (pc' := 10) dX5_allLetters_7 (by decide) rfl (fun hc1 => ?_) (fun hc1 => ?_)
  · replace hf := if_t hc1 hf
    refine ex_iload_n 1 (pc' := 11) dX5_allLetters_10 rfl rfl rfl ?_
    refine ex_aload_n 0 (pc' := 12) dX5_allLetters_11 rfl rfl rfl ?_
    refine ex_getR (pc' := 15) dX5_allLetters_12 fl_X5_11 rfl (sh5_k h0) (sh5_F0 h0) rfl ?_
    refine ex_iload_n 2 (pc' := 16) dX5_allLetters_15 rfl rfl rfl ?_
    obtain ⟨hg2, hf⟩ := of_guard hf
    refine ex_aaldS (pc' := 17) dX5_allLetters_16 (sh5_T0 h0) (by decide) (by decide) (inb_in hg2) (sh5_E0 h0 _ (inb_lt hg2)) rfl ?_
    refine ex_getI (pc' := 20) dX5_allLetters_17 fl_X5_51 rfl (sh9_k (sh5_O0 h0 _ (inb_lt hg2))) rfl ?_
    refine ex_iadd (pc' := 21) dX5_allLetters_20 rfl ?_
    obtain ⟨x3, hx3, hf⟩ := of_let hf
    rw [← hx3]
    refine ex_istore_n (lv' := [(1, .int x3), (0, .ref (gB G + a0)), (2, .int v2)]) (pc' := 22) dX5_allLetters_21 rfl (Nat.le_of_ble_eq_true rfl) rfl rfl ?_
    refine ex_iincc (lv' := [(2, .int (v2 + 1)), (1, .int x3), (0, .ref (gB G + a0))]) 2 (pc' := 25) dX5_allLetters_22 rfl ic_1 (Nat.le_of_ble_eq_true rfl) rfl rfl ?_
    refine ex_goto (tgt := 4) dX5_allLetters_25 (by decide) ?_
    exact ex_sub [2, 1, 0] rfl (hC _ _ (Option.some.inj hf).symm)
  · replace hf := if_f hc1 hf
    exact ex_sub [1] rfl (hX _ (Option.some.inj hf).symm)
def f_X5_allLetters_l4 (N : Nat) (a0 : Nat) (v1 : Int32) (v2 : Int32) (I : MI) : Option (Int32) := loopN (fun s => f_X5_allLetters_b4 N a0 s.1 s.2 I) N (v1, v2)
set_option maxRecDepth 100000 in
set_option maxHeartbeats 4000000 in
theorem k_X5_allLetters_l4 {G : GX} {Q : State → Prop} {X : MX} {a0 : Nat} (h0 : shX5 X a0) {N0 : Nat} {I : MI} {L : ML} {out : (Int32)} (hX : ∀ (w1 : Int32), out = w1 → Ex G mX5_allLetters rmX5_allLetters Q (0, 0) X I L 28 [(1, .int w1)] []) : ∀ (N : Nat) (v1 : Int32) (v2 : Int32), loopN (fun s => f_X5_allLetters_b4 N0 a0 s.1 s.2 I) N (v1, v2) = some out → Ex G mX5_allLetters rmX5_allLetters Q (0, 0) X I L 4 [(0, .ref (gB G + a0)), (1, .int v1), (2, .int v2)] [] := by
  intro N
  induction N with
  | zero => intro v1 v2 hf; exact absurd (loopN_zero hf) id
  | succ n ih =>
    intro v1 v2 hf
    rcases loopN_succ hf with ⟨s, hb, hl⟩ | hb
    · obtain ⟨v1', v2'⟩ := s
      refine k_X5_allLetters_b4 h0 hb (fun _ _ he => ?_) (fun _ he => by cases he)
      cases he
      exact ih v1' v2' hl
    · exact k_X5_allLetters_b4 h0 hb (fun _ _ he => by cases he) (fun x0 he => hX x0 (Sum.inr.inj he))
def f_X5_allLetters (N : Nat) (a0 : Nat) (I : MI) : Option (Int32) := bnd1 (f_X5_allLetters_l4 N a0 0 0 I) fun x4 => some x4
set_option maxRecDepth 100000 in
set_option maxHeartbeats 4000000 in
theorem kb_X5_allLetters {G : GX} {Q : State → Prop} {X : MX} {a0 : Nat} (h0 : shX5 X a0) {N : Nat} {I : MI} {L : ML} {out : Int32} (hf : f_X5_allLetters N a0 I = some out) (hR : ∀ (z : Int32), out = z → Q = RetQ G (some (.int z)) X I L (0, 0)) : Ex G mX5_allLetters rmX5_allLetters Q (0, 0) X I L 0 [(0, .ref (gB G + a0))] [] := by
  unfold f_X5_allLetters at hf
  refine ex_iconst (v := 0) (pc' := 1) dX5_allLetters_0 ic_0 rfl ?_
  refine ex_istore_n (lv' := [(1, .int 0), (0, .ref (gB G + a0))]) (pc' := 2) dX5_allLetters_1 rfl (Nat.le_of_ble_eq_true rfl) rfl rfl ?_
  refine ex_iconst (v := 0) (pc' := 3) dX5_allLetters_2 ic_0 rfl ?_
  refine ex_istore_n (lv' := [(2, .int 0), (1, .int 0), (0, .ref (gB G + a0))]) (pc' := 4) dX5_allLetters_3 rfl (Nat.le_of_ble_eq_true rfl) rfl rfl ?_
  refine ex_sub (lv' := [(0, .ref (gB G + a0)), (1, .int 0), (2, .int 0)]) [2, 1, 0] rfl ?_
  obtain ⟨x4, hq5, hf⟩ := of_bnd1 hf
  refine k_X5_allLetters_l4 h0 (fun x4' he => ?_) _ _ _ hq5
  cases he
  refine ex_iload_n 0 (pc' := 29) dX5_allLetters_28 rfl rfl rfl ?_
  exact ex_iret dX5_allLetters_29 rfl (hR _ (Option.some.inj hf).symm)
set_option maxRecDepth 100000 in
set_option maxHeartbeats 4000000 in
theorem k_X5_allLetters (G : GX) {X : MX} {a0 : Nat} (h0 : shX5 X a0) {N : Nat} {I : MI} {L : ML} {z : Int32} (hf : f_X5_allLetters N a0 I = some z) : Con G mX5_allLetters yX5_allLetters rmX5_allLetters (fun B => [.ref (B + a0)]) X I L (some (.int z)) X I L :=
  Con.of (by decide) rfl (fun h => by cases h) (fun B => Nat.le_of_ble_eq_true rfl) (fun G => kb_X5_allLetters h0 hf (fun _ he => by cases he; rfl))
theorem bp_12 : (Int8.ofInt 12).toInt32 = 12 := by decide
-- X9_push ('RookWords$Word', 'push', '(II)V')
def rmX9_push : RM := ((0, 0, 0, 0), false, none)
def f_X9_push_b2 (N : Nat) (a0 : Nat) (v1 : Int32) (v2 : Int32) (v3 : Int32) (I : MI) : Option ((Int32 × MI) ⊕ (MI)) := (if v3 < v2 then (if (I a0 1) < 12 then if inb (I a0 1) 12 then letv (upI I (a0 + 1) (Int32.toNatClampNeg (I a0 1)) v1) fun I4 => letv (upI I4 a0 1 ((I4 a0 1) + 1)) fun I5 => some (.inl (v3 + 1, I5)) else none else some (.inr I)) else some (.inr I))
set_option maxRecDepth 100000 in
set_option maxHeartbeats 4000000 in
theorem k_X9_push_b2 {G : GX} {Q : State → Prop} {X : MX} {a0 : Nat} {v1 : Int32} {v2 : Int32} (h0 : shX9 X a0) {v3 : Int32} {N : Nat} {I : MI} {L : ML} {out : (Int32 × MI) ⊕ (MI)} (hf : f_X9_push_b2 N a0 v1 v2 v3 I = some out) (hC : ∀ (v3' : Int32) (I' : MI), out = .inl (v3', I') → Ex G mX9_push rmX9_push Q (0, 0) X I' L 2 [(0, .ref (gB G + a0)), (1, .int v1), (2, .int v2), (3, .int v3')] []) (hX : ∀ (I' : MI), out = .inr I' → Ex G mX9_push rmX9_push Q (0, 0) X I' L 42 [] []) : Ex G mX9_push rmX9_push Q (0, 0) X I L 2 [(0, .ref (gB G + a0)), (1, .int v1), (2, .int v2), (3, .int v3)] [] := by
  unfold f_X9_push_b2 at hf
  refine ex_iload_n 3 (pc' := 3) dX9_push_2 rfl rfl rfl ?_
  refine ex_iload_n 2 (pc' := 4) dX9_push_3 rfl rfl rfl ?_
  refine ex_icmpge (tgt := 42) (pc' := 7) dX9_push_4 (by decide) rfl (fun hc1 => ?_) (fun hc1 => ?_)
  · replace hf := if_t hc1 hf
    refine ex_aload_n 0 (pc' := 8) dX9_push_7 rfl rfl rfl ?_
    refine ex_getI (pc' := 11) dX9_push_8 fl_X9_15 rfl (sh9_k h0) rfl ?_
    refine ex_bipush (v := 12) (pc' := 13) dX9_push_11 bp_12 rfl ?_
    refine ex_icmpge (tgt := 42) (pc' := 16) dX9_push_13 (by decide) rfl (fun hc2 => ?_) (fun hc2 => ?_)
    · replace hf := if_t hc2 hf
      refine ex_aload_n 0 (pc' := 17) dX9_push_16 rfl rfl rfl ?_
      refine ex_getR (pc' := 20) dX9_push_17 fl_X9_9 rfl (sh9_k h0) (sh9_F0 h0) rfl ?_
      refine ex_aload_n 0 (pc' := 21) dX9_push_20 rfl rfl rfl ?_
      refine ex_getI (pc' := 24) dX9_push_21 fl_X9_15 rfl (sh9_k h0) rfl ?_
      refine ex_iload_n 1 (pc' := 25) dX9_push_24 rfl rfl rfl ?_
      obtain ⟨hg3, hf⟩ := of_guard hf
      refine ex_iast (pc' := 26) dX9_push_25 (sh9_T0 h0) (inb_in hg3) rfl ?_
      obtain ⟨I4, hI4, hf⟩ := of_let hf
      rw [← hI4]
      refine ex_aload_n 0 (pc' := 27) dX9_push_26 rfl rfl rfl ?_
      refine ex_dup (pc' := 28) dX9_push_27 rfl rfl ?_
      refine ex_getI (pc' := 31) dX9_push_28 fl_X9_15 rfl (sh9_k h0) rfl ?_
      refine ex_iconst (v := 1) (pc' := 32) dX9_push_31 ic_1 rfl ?_
      refine ex_iadd (pc' := 33) dX9_push_32 rfl ?_
      refine ex_putI (pc' := 36) dX9_push_33 fl_X9_15 rfl (sh9_k h0) rfl ?_
      obtain ⟨I5, hI5, hf⟩ := of_let hf
      rw [← hI5]
      refine ex_iincc (lv' := [(3, .int (v3 + 1)), (0, .ref (gB G + a0)), (1, .int v1), (2, .int v2)]) 3 (pc' := 39) dX9_push_36 rfl ic_1 (Nat.le_of_ble_eq_true rfl) rfl rfl ?_
      refine ex_goto (tgt := 2) dX9_push_39 (by decide) ?_
      exact ex_sub [1, 2, 3, 0] rfl (hC _ _ (Option.some.inj hf).symm)
    · replace hf := if_f hc2 hf
      exact ex_sub [] rfl (hX _ (Option.some.inj hf).symm)
  · replace hf := if_f hc1 hf
    exact ex_sub [] rfl (hX _ (Option.some.inj hf).symm)
def f_X9_push_l2 (N : Nat) (a0 : Nat) (v1 : Int32) (v2 : Int32) (v3 : Int32) (I : MI) : Option (MI) := loopN (fun s => f_X9_push_b2 N a0 v1 v2 s.1 s.2) N (v3, I)
set_option maxRecDepth 100000 in
set_option maxHeartbeats 4000000 in
theorem k_X9_push_l2 {G : GX} {Q : State → Prop} {X : MX} {a0 : Nat} {v1 : Int32} {v2 : Int32} (h0 : shX9 X a0) {N0 : Nat} {L : ML} {out : (MI)} (hX : ∀ (I' : MI), out = I' → Ex G mX9_push rmX9_push Q (0, 0) X I' L 42 [] []) : ∀ (N : Nat) (v3 : Int32) (I : MI), loopN (fun s => f_X9_push_b2 N0 a0 v1 v2 s.1 s.2) N (v3, I) = some out → Ex G mX9_push rmX9_push Q (0, 0) X I L 2 [(0, .ref (gB G + a0)), (1, .int v1), (2, .int v2), (3, .int v3)] [] := by
  intro N
  induction N with
  | zero => intro v3 I hf; exact absurd (loopN_zero hf) id
  | succ n ih =>
    intro v3 I hf
    rcases loopN_succ hf with ⟨s, hb, hl⟩ | hb
    · obtain ⟨v3', I'⟩ := s
      refine k_X9_push_b2 h0 hb (fun _ _ he => ?_) (fun _ he => by cases he)
      cases he
      exact ih v3' I' hl
    · exact k_X9_push_b2 h0 hb (fun _ _ he => by cases he) (fun x0 he => hX x0 (Sum.inr.inj he))
def f_X9_push (N : Nat) (a0 : Nat) (v1 : Int32) (v2 : Int32) (I : MI) : Option (MI) := bnd1 (f_X9_push_l2 N a0 v1 v2 0 I) fun I6 => some I6
set_option maxRecDepth 100000 in
set_option maxHeartbeats 4000000 in
theorem kb_X9_push {G : GX} {Q : State → Prop} {X : MX} {a0 : Nat} {v1 : Int32} {v2 : Int32} (h0 : shX9 X a0) {N : Nat} {I : MI} {L : ML} {out : MI} (hf : f_X9_push N a0 v1 v2 I = some out) (hR : ∀ (I' : MI), out = I' → Q = RetQ G none X I' L (0, 0)) : Ex G mX9_push rmX9_push Q (0, 0) X I L 0 [(0, .ref (gB G + a0)), (1, .int v1), (2, .int v2)] [] := by
  unfold f_X9_push at hf
  refine ex_iconst (v := 0) (pc' := 1) dX9_push_0 ic_0 rfl ?_
  refine ex_istore_n (lv' := [(3, .int 0), (0, .ref (gB G + a0)), (1, .int v1), (2, .int v2)]) (pc' := 2) dX9_push_1 rfl (Nat.le_of_ble_eq_true rfl) rfl rfl ?_
  refine ex_sub (lv' := [(0, .ref (gB G + a0)), (1, .int v1), (2, .int v2), (3, .int 0)]) [1, 2, 3, 0] rfl ?_
  obtain ⟨I6, hq7, hf⟩ := of_bnd1 hf
  refine k_X9_push_l2 h0 (fun I6' he => ?_) _ _ _ hq7
  cases he
  exact ex_vret dX9_push_42 rfl (hR _ (Option.some.inj hf).symm)
set_option maxRecDepth 100000 in
set_option maxHeartbeats 4000000 in
theorem k_X9_push (G : GX) {X : MX} {a0 : Nat} {v1 : Int32} {v2 : Int32} (h0 : shX9 X a0) {N : Nat} {I : MI} {L : ML} {I' : MI} (hf : f_X9_push N a0 v1 v2 I = some I') : Con G mX9_push yX9_push rmX9_push (fun B => [.ref (B + a0), .int v1, .int v2]) X I L none X I' L :=
  Con.of (by decide) rfl (fun h => by cases h) (fun B => Nat.le_of_ble_eq_true rfl) (fun G => kb_X9_push h0 hf (fun _ he => by cases he; rfl))
theorem cl_X9_19 : CLV RX9 19 yX9_push mX9_push none 2 := ⟨⟨lwg_at 332 (by decide +kernel) rfl, lwg_at 317 (by decide +kernel) rfl, lwg_at 318 (by decide +kernel) rfl, lwg_at 53 (by decide +kernel) rfl⟩, lwg_at 319 (by decide +kernel) rfl, ⟨by decide +kernel, by decide +kernel, by decide +kernel⟩⟩
-- X9_becomeLetters ('RookWords$Word', 'becomeLetters', '([II)V')
def rmX9_becomeLetters : RM := ((1, 23, 0, 0), false, none)
def f_X9_becomeLetters_b7 (N : Nat) (a0 : Nat) (a1 : Nat) (n1 : Nat) (v2 : Int32) (v3 : Int32) (I : MI) : Option ((Int32 × MI) ⊕ (MI)) := (if v3 < v2 then (if v3 < (Int32.ofNat n1) then if inb v3 n1 then bnd1 (f_X9_push N a0 (I a1 (Int32.toNatClampNeg v3)) 1 I) fun I5 => some (.inl (v3 + 1, I5)) else none else some (.inr I)) else some (.inr I))
set_option maxRecDepth 100000 in
set_option maxHeartbeats 4000000 in
theorem k_X9_becomeLetters_b7 {G : GX} {Q : State → Prop} {X : MX} {a0 : Nat} {a1 : Nat} {n1 : Nat} {v2 : Int32} (h0 : shX9 X a0) (h1 : X.1 a1 = (2, n1)) {v3 : Int32} {N : Nat} {I : MI} {L : ML} {out : (Int32 × MI) ⊕ (MI)} (hf : f_X9_becomeLetters_b7 N a0 a1 n1 v2 v3 I = some out) (hC : ∀ (v3' : Int32) (I' : MI), out = .inl (v3', I') → Ex G mX9_becomeLetters rmX9_becomeLetters Q (0, 0) X I' L 7 [(0, .ref (gB G + a0)), (1, .ref (gB G + a1)), (2, .int v2), (3, .int v3')] []) (hX : ∀ (I' : MI), out = .inr I' → Ex G mX9_becomeLetters rmX9_becomeLetters Q (0, 0) X I' L 32 [] []) : Ex G mX9_becomeLetters rmX9_becomeLetters Q (0, 0) X I L 7 [(0, .ref (gB G + a0)), (1, .ref (gB G + a1)), (2, .int v2), (3, .int v3)] [] := by
  unfold f_X9_becomeLetters_b7 at hf
  refine ex_iload_n 3 (pc' := 8) dX9_becomeLetters_7 rfl rfl rfl ?_
  refine ex_iload_n 2 (pc' := 9) dX9_becomeLetters_8 rfl rfl rfl ?_
  refine ex_icmpge (tgt := 32) (pc' := 12) dX9_becomeLetters_9 (by decide) rfl (fun hc2 => ?_) (fun hc2 => ?_)
  · replace hf := if_t hc2 hf
    refine ex_iload_n 3 (pc' := 13) dX9_becomeLetters_12 rfl rfl rfl ?_
    refine ex_aload_n 1 (pc' := 14) dX9_becomeLetters_13 rfl rfl rfl ?_
    refine ex_alen (pc' := 15) dX9_becomeLetters_14 h1 (Or.inl rfl) rfl rfl ?_
    refine ex_icmpge (tgt := 32) (pc' := 18) dX9_becomeLetters_15 (by decide) rfl (fun hc3 => ?_) (fun hc3 => ?_)
    · replace hf := if_t hc3 hf
      refine ex_aload_n 0 (pc' := 19) dX9_becomeLetters_18 rfl rfl rfl ?_
      refine ex_aload_n 1 (pc' := 20) dX9_becomeLetters_19 rfl rfl rfl ?_
      refine ex_iload_n 3 (pc' := 21) dX9_becomeLetters_20 rfl rfl rfl ?_
      obtain ⟨hg4, hf⟩ := of_guard hf
      refine ex_iald (pc' := 22) dX9_becomeLetters_21 h1 (inb_in hg4) rfl ?_
      refine ex_iconst (v := 1) (pc' := 23) dX9_becomeLetters_22 ic_1 rfl ?_
      obtain ⟨I5, hq6, hf⟩ := of_bnd1 hf
      refine ex_callV_v (rm' := rmX9_push) (st := []) (pc' := 26) [.int (I a1 (Int32.toNatClampNeg v3)), .int 1] dX9_becomeLetters_23 cl_X9_19 (k_X9_push G h0 hq6) rfl (sh9_k h0) ⟨_, _, rfl⟩ rfl rfl (ROOM_of rfl) (Nat.le_of_ble_eq_true rfl) rfl rfl ?_
      refine ex_iincc (lv' := [(3, .int (v3 + 1)), (0, .ref (gB G + a0)), (1, .ref (gB G + a1)), (2, .int v2)]) 3 (pc' := 29) dX9_becomeLetters_26 rfl ic_1 (Nat.le_of_ble_eq_true rfl) rfl rfl ?_
      refine ex_goto (tgt := 7) dX9_becomeLetters_29 (by decide) ?_
      exact ex_sub [1, 2, 3, 0] rfl (hC _ _ (Option.some.inj hf).symm)
    · replace hf := if_f hc3 hf
      exact ex_sub [] rfl (hX _ (Option.some.inj hf).symm)
  · replace hf := if_f hc2 hf
    exact ex_sub [] rfl (hX _ (Option.some.inj hf).symm)
def f_X9_becomeLetters_l7 (N : Nat) (a0 : Nat) (a1 : Nat) (n1 : Nat) (v2 : Int32) (v3 : Int32) (I : MI) : Option (MI) := loopN (fun s => f_X9_becomeLetters_b7 N a0 a1 n1 v2 s.1 s.2) N (v3, I)
set_option maxRecDepth 100000 in
set_option maxHeartbeats 4000000 in
theorem k_X9_becomeLetters_l7 {G : GX} {Q : State → Prop} {X : MX} {a0 : Nat} {a1 : Nat} {n1 : Nat} {v2 : Int32} (h0 : shX9 X a0) (h1 : X.1 a1 = (2, n1)) {N0 : Nat} {L : ML} {out : (MI)} (hX : ∀ (I' : MI), out = I' → Ex G mX9_becomeLetters rmX9_becomeLetters Q (0, 0) X I' L 32 [] []) : ∀ (N : Nat) (v3 : Int32) (I : MI), loopN (fun s => f_X9_becomeLetters_b7 N0 a0 a1 n1 v2 s.1 s.2) N (v3, I) = some out → Ex G mX9_becomeLetters rmX9_becomeLetters Q (0, 0) X I L 7 [(0, .ref (gB G + a0)), (1, .ref (gB G + a1)), (2, .int v2), (3, .int v3)] [] := by
  intro N
  induction N with
  | zero => intro v3 I hf; exact absurd (loopN_zero hf) id
  | succ n ih =>
    intro v3 I hf
    rcases loopN_succ hf with ⟨s, hb, hl⟩ | hb
    · obtain ⟨v3', I'⟩ := s
      refine k_X9_becomeLetters_b7 h0 h1 hb (fun _ _ he => ?_) (fun _ he => by cases he)
      cases he
      exact ih v3' I' hl
    · exact k_X9_becomeLetters_b7 h0 h1 hb (fun _ _ he => by cases he) (fun x0 he => hX x0 (Sum.inr.inj he))
def f_X9_becomeLetters (N : Nat) (a0 : Nat) (a1 : Nat) (n1 : Nat) (v2 : Int32) (I : MI) : Option (MI) := letv (upI I a0 1 0) fun I1 => bnd1 (f_X9_becomeLetters_l7 N a0 a1 n1 v2 0 I1) fun I7 => some I7
set_option maxRecDepth 100000 in
set_option maxHeartbeats 4000000 in
theorem kb_X9_becomeLetters {G : GX} {Q : State → Prop} {X : MX} {a0 : Nat} {a1 : Nat} {n1 : Nat} {v2 : Int32} (h0 : shX9 X a0) (h1 : X.1 a1 = (2, n1)) {N : Nat} {I : MI} {L : ML} {out : MI} (hf : f_X9_becomeLetters N a0 a1 n1 v2 I = some out) (hR : ∀ (I' : MI), out = I' → Q = RetQ G none X I' L (0, 0)) : Ex G mX9_becomeLetters rmX9_becomeLetters Q (0, 0) X I L 0 [(0, .ref (gB G + a0)), (1, .ref (gB G + a1)), (2, .int v2)] [] := by
  unfold f_X9_becomeLetters at hf
  refine ex_aload_n 0 (pc' := 1) dX9_becomeLetters_0 rfl rfl rfl ?_
  refine ex_iconst (v := 0) (pc' := 2) dX9_becomeLetters_1 ic_0 rfl ?_
  refine ex_putI (pc' := 5) dX9_becomeLetters_2 fl_X9_15 rfl (sh9_k h0) rfl ?_
  obtain ⟨I1, hI1, hf⟩ := of_let hf
  rw [← hI1]
  refine ex_iconst (v := 0) (pc' := 6) dX9_becomeLetters_5 ic_0 rfl ?_
  refine ex_istore_n (lv' := [(3, .int 0), (0, .ref (gB G + a0)), (1, .ref (gB G + a1)), (2, .int v2)]) (pc' := 7) dX9_becomeLetters_6 rfl (Nat.le_of_ble_eq_true rfl) rfl rfl ?_
  refine ex_sub (lv' := [(0, .ref (gB G + a0)), (1, .ref (gB G + a1)), (2, .int v2), (3, .int 0)]) [1, 2, 3, 0] rfl ?_
  obtain ⟨I7, hq8, hf⟩ := of_bnd1 hf
  refine k_X9_becomeLetters_l7 h0 h1 (fun I7' he => ?_) _ _ _ hq8
  cases he
  exact ex_vret dX9_becomeLetters_32 rfl (hR _ (Option.some.inj hf).symm)
set_option maxRecDepth 100000 in
set_option maxHeartbeats 4000000 in
theorem k_X9_becomeLetters (G : GX) {X : MX} {a0 : Nat} {a1 : Nat} {n1 : Nat} {v2 : Int32} (h0 : shX9 X a0) (h1 : X.1 a1 = (2, n1)) {N : Nat} {I : MI} {L : ML} {I' : MI} (hf : f_X9_becomeLetters N a0 a1 n1 v2 I = some I') : Con G mX9_becomeLetters yX9_becomeLetters rmX9_becomeLetters (fun B => [.ref (B + a0), .ref (B + a1), .int v2]) X I L none X I' L :=
  Con.of (by decide) rfl (fun h => by cases h) (fun B => Nat.le_of_ble_eq_true rfl) (fun G => kb_X9_becomeLetters h0 h1 hf (fun _ he => by cases he; rfl))
theorem fl_X6_11 : FLD RX6 11 6 0 true := ⟨RX6, TX6, 2, rfl, inX6, by decide, lwg_at 88 (by decide +kernel) rfl, nmX6, tyX6_ok, rfl, rfl⟩
theorem al_169 : Int32.ofNat 169 = 169 := by decide
theorem cl_X6_24 : CPW RX6 24 := ⟨lwg_at 411 (by decide +kernel) rfl, lwg_at 413 (by decide +kernel) rfl, lwg_at 412 (by decide +kernel) rfl, lwg_at 63 (by decide +kernel) rfl⟩
-- X6_becomeLike ('RookWords$Sum', 'becomeLike', '(LRookWords$Sum;)V')
def rmX6_becomeLike : RM := ((1, 26, 0, 0), false, none)
def f_X6_becomeLike (a0 : Nat) (a1 : Nat) (L : ML) : Option (ML) := if cpok 0 0 169 169 169 then letv (cpL L (a1 + 1) (a0 + 1) (Int32.toNatClampNeg 0) (Int32.toNatClampNeg 0) (Int32.toNatClampNeg 169)) fun L2 => some L2 else none
set_option maxRecDepth 100000 in
set_option maxHeartbeats 4000000 in
theorem kb_X6_becomeLike {G : GX} {Q : State → Prop} {X : MX} {a0 : Nat} {a1 : Nat} (h0 : shX6 X a0) (h1 : shX6 X a1) {I : MI} {L : ML} {out : ML} (hf : f_X6_becomeLike a0 a1 L = some out) (hR : ∀ (L' : ML), out = L' → Q = RetQ G none X I L' (0, 0)) : Ex G mX6_becomeLike rmX6_becomeLike Q (0, 0) X I L 0 [(0, .ref (gB G + a0)), (1, .ref (gB G + a1))] [] := by
  unfold f_X6_becomeLike at hf
  refine ex_aload_n 1 (pc' := 1) dX6_becomeLike_0 rfl rfl rfl ?_
  refine ex_getR (pc' := 4) dX6_becomeLike_1 fl_X6_11 rfl (sh6_k h1) (sh6_F0 h1) rfl ?_
  refine ex_iconst (v := 0) (pc' := 5) dX6_becomeLike_4 ic_0 rfl ?_
  refine ex_aload_n 0 (pc' := 6) dX6_becomeLike_5 rfl rfl rfl ?_
  refine ex_getR (pc' := 9) dX6_becomeLike_6 fl_X6_11 rfl (sh6_k h0) (sh6_F0 h0) rfl ?_
  refine ex_iconst (v := 0) (pc' := 10) dX6_becomeLike_9 ic_0 rfl ?_
  refine ex_aload_n 0 (pc' := 11) dX6_becomeLike_10 rfl rfl rfl ?_
  refine ex_getR (pc' := 14) dX6_becomeLike_11 fl_X6_11 rfl (sh6_k h0) (sh6_F0 h0) rfl ?_
  refine ex_alen (v := 169) (pc' := 15) dX6_becomeLike_14 (sh6_T0 h0) (Or.inr rfl) al_169 rfl ?_
  obtain ⟨hg1, hf⟩ := of_guard hf
  refine ex_copyL (pc' := 18) dX6_becomeLike_15 cl_X6_24 (sh6_T0 h1) (sh6_T0 h0) (cpok_ok hg1) ⟨Nat.le_of_ble_eq_true rfl, Nat.le_of_ble_eq_true rfl⟩ rfl ?_
  obtain ⟨L2, hL2, hf⟩ := of_let hf
  rw [← hL2]
  exact ex_vret dX6_becomeLike_18 rfl (hR _ (Option.some.inj hf).symm)
set_option maxRecDepth 100000 in
set_option maxHeartbeats 4000000 in
theorem k_X6_becomeLike (G : GX) {X : MX} {a0 : Nat} {a1 : Nat} (h0 : shX6 X a0) (h1 : shX6 X a1) {I : MI} {L : ML} {L' : ML} (hf : f_X6_becomeLike a0 a1 L = some L') : Con G mX6_becomeLike yX6_becomeLike rmX6_becomeLike (fun B => [.ref (B + a0), .ref (B + a1)]) X I L none X I L' :=
  Con.of (by decide) rfl (fun h => by cases h) (fun B => Nat.le_of_ble_eq_true rfl) (fun G => kb_X6_becomeLike h0 h1 hf (fun _ he => by cases he; rfl))
theorem fl_X5_48 : FLD RX5 48 9 0 true := ⟨RX9, TX9, 2, rfl, inX9, by decide, lwg_at 104 (by decide +kernel) rfl, nmX9, tyX9_ok, rfl, rfl⟩
theorem cl_X5_55 : CLV RX5 55 yX9_becomeLetters mX9_becomeLetters none 2 := ⟨⟨lwg_at 866 (by decide +kernel) rfl, lwg_at 830 (by decide +kernel) rfl, lwg_at 831 (by decide +kernel) rfl, lwg_at 53 (by decide +kernel) rfl⟩, lwg_at 832 (by decide +kernel) rfl, ⟨by decide +kernel, by decide +kernel, by decide +kernel⟩⟩
theorem cl_X5_58 : CLV RX5 58 yX0_becomeLike mX0_becomeLike none 1 := ⟨⟨lwg_at 867 (by decide +kernel) rfl, lwg_at 868 (by decide +kernel) rfl, lwg_at 869 (by decide +kernel) rfl, lwg_at 54 (by decide +kernel) rfl⟩, lwg_at 870 (by decide +kernel) rfl, ⟨by decide +kernel, by decide +kernel, by decide +kernel⟩⟩
theorem fl_X5_20 : FLD RX5 20 5 1 true := ⟨RX5, TX5, 7, rfl, inX5, by decide, lwg_at 142 (by decide +kernel) rfl, nmX5, tyX5_ok, rfl, rfl⟩
theorem cl_X5_62 : CLV RX5 62 yX6_becomeLike mX6_becomeLike none 1 := ⟨⟨lwg_at 872 (by decide +kernel) rfl, lwg_at 873 (by decide +kernel) rfl, lwg_at 874 (by decide +kernel) rfl, lwg_at 52 (by decide +kernel) rfl⟩, lwg_at 875 (by decide +kernel) rfl, ⟨by decide +kernel, by decide +kernel, by decide +kernel⟩⟩
theorem fl_X5_30 : FLD RX5 30 5 3 true := ⟨RX5, TX5, 7, rfl, inX5, by decide, lwg_at 147 (by decide +kernel) rfl, nmX5, tyX5_ok, rfl, rfl⟩
theorem al_36 : Int32.ofNat 36 = 36 := by decide
theorem cl_X5_65 : CPW RX5 65 := ⟨lwg_at 876 (by decide +kernel) rfl, lwg_at 413 (by decide +kernel) rfl, lwg_at 412 (by decide +kernel) rfl, lwg_at 63 (by decide +kernel) rfl⟩
-- X5_becomeLike ('RookWords$State', 'becomeLike', '(LRookWords$State;)V')
def rmX5_becomeLike : RM := ((2, 47, 0, 0), false, none)
def f_X5_becomeLike_b2 (N : Nat) (a0 : Nat) (a1 : Nat) (v2 : Int32) (I : MI) : Option ((Int32 × MI) ⊕ (MI)) := (if v2 < 6 then if inb v2 6 then if inb v2 6 then if inb v2 6 then bnd1 (f_X9_becomeLetters N (a0 + 9 + 4 * (Int32.toNatClampNeg v2)) (a1 + 9 + 4 * (Int32.toNatClampNeg v2) + 1) 12 (I (a1 + 9 + 4 * (Int32.toNatClampNeg v2)) 1) I) fun I5 => if inb v2 6 then if inb v2 6 then bnd1 (f_X0_becomeLike (a0 + 11 + 4 * (Int32.toNatClampNeg v2)) (a1 + 11 + 4 * (Int32.toNatClampNeg v2)) I5) fun I9 => some (.inl (v2 + 1, I9)) else none else none else none else none else none else some (.inr I))
set_option maxRecDepth 100000 in
set_option maxHeartbeats 4000000 in
theorem k_X5_becomeLike_b2 {G : GX} {Q : State → Prop} {X : MX} {a0 : Nat} {a1 : Nat} (h0 : shX5 X a0) (h1 : shX5 X a1) {v2 : Int32} {N : Nat} {I : MI} {L : ML} {out : (Int32 × MI) ⊕ (MI)} (hf : f_X5_becomeLike_b2 N a0 a1 v2 I = some out) (hC : ∀ (v2' : Int32) (I' : MI), out = .inl (v2', I') → Ex G mX5_becomeLike rmX5_becomeLike Q (0, 0) X I' L 2 [(0, .ref (gB G + a0)), (1, .ref (gB G + a1)), (2, .int v2')] []) (hX : ∀ (I' : MI), out = .inr I' → Ex G mX5_becomeLike rmX5_becomeLike Q (0, 0) X I' L 56 [(0, .ref (gB G + a0)), (1, .ref (gB G + a1))] []) : Ex G mX5_becomeLike rmX5_becomeLike Q (0, 0) X I L 2 [(0, .ref (gB G + a0)), (1, .ref (gB G + a1)), (2, .int v2)] [] := by
  unfold f_X5_becomeLike_b2 at hf
  refine ex_iload_n 2 (pc' := 3) dX5_becomeLike_2 rfl rfl rfl ?_
  refine ex_bipush (v := 6) (pc' := 5) dX5_becomeLike_3 bp_6 rfl ?_
  refine ex_icmpge (tgt := 56) (pc' := 8) dX5_becomeLike_5 (by decide) rfl (fun hc1 => ?_) (fun hc1 => ?_)
  · replace hf := if_t hc1 hf
    refine ex_aload_n 0 (pc' := 9) dX5_becomeLike_8 rfl rfl rfl ?_
    refine ex_getR (pc' := 12) dX5_becomeLike_9 fl_X5_11 rfl (sh5_k h0) (sh5_F0 h0) rfl ?_
    refine ex_iload_n 2 (pc' := 13) dX5_becomeLike_12 rfl rfl rfl ?_
    obtain ⟨hg2, hf⟩ := of_guard hf
    refine ex_aaldS (pc' := 14) dX5_becomeLike_13 (sh5_T0 h0) (by decide) (by decide) (inb_in hg2) (sh5_E0 h0 _ (inb_lt hg2)) rfl ?_
    refine ex_aload_n 1 (pc' := 15) dX5_becomeLike_14 rfl rfl rfl ?_
    refine ex_getR (pc' := 18) dX5_becomeLike_15 fl_X5_11 rfl (sh5_k h1) (sh5_F0 h1) rfl ?_
    refine ex_iload_n 2 (pc' := 19) dX5_becomeLike_18 rfl rfl rfl ?_
    obtain ⟨hg3, hf⟩ := of_guard hf
    refine ex_aaldS (pc' := 20) dX5_becomeLike_19 (sh5_T0 h1) (by decide) (by decide) (inb_in hg3) (sh5_E0 h1 _ (inb_lt hg3)) rfl ?_
    refine ex_getR (pc' := 23) dX5_becomeLike_20 fl_X5_48 rfl (sh9_k (sh5_O0 h1 _ (inb_lt hg3))) (sh9_F0 (sh5_O0 h1 _ (inb_lt hg3))) rfl ?_
    refine ex_aload_n 1 (pc' := 24) dX5_becomeLike_23 rfl rfl rfl ?_
    refine ex_getR (pc' := 27) dX5_becomeLike_24 fl_X5_11 rfl (sh5_k h1) (sh5_F0 h1) rfl ?_
    refine ex_iload_n 2 (pc' := 28) dX5_becomeLike_27 rfl rfl rfl ?_
    obtain ⟨hg4, hf⟩ := of_guard hf
    refine ex_aaldS (pc' := 29) dX5_becomeLike_28 (sh5_T0 h1) (by decide) (by decide) (inb_in hg4) (sh5_E0 h1 _ (inb_lt hg4)) rfl ?_
    refine ex_getI (pc' := 32) dX5_becomeLike_29 fl_X5_51 rfl (sh9_k (sh5_O0 h1 _ (inb_lt hg4))) rfl ?_
    obtain ⟨I5, hq6, hf⟩ := of_bnd1 hf
    refine ex_callV_v (rm' := rmX9_becomeLetters) (st := []) (pc' := 35) [.ref (gB G + (a1 + 9 + 4 * (Int32.toNatClampNeg v2) + 1)), .int (I (a1 + 9 + 4 * (Int32.toNatClampNeg v2)) 1)] dX5_becomeLike_32 cl_X5_55 (k_X9_becomeLetters G (sh5_O0 h0 _ (inb_lt hg2)) (sh9_T0 (sh5_O0 h1 _ (inb_lt hg3))) hq6) rfl (sh9_k (sh5_O0 h0 _ (inb_lt hg2))) ⟨_, _, rfl⟩ rfl rfl (ROOM_of rfl) (Nat.le_of_ble_eq_true rfl) rfl rfl ?_
    refine ex_aload_n 0 (pc' := 36) dX5_becomeLike_35 rfl rfl rfl ?_
    refine ex_getR (pc' := 39) dX5_becomeLike_36 fl_X5_26 rfl (sh5_k h0) (sh5_F2 h0) rfl ?_
    refine ex_iload_n 2 (pc' := 40) dX5_becomeLike_39 rfl rfl rfl ?_
    obtain ⟨hg7, hf⟩ := of_guard hf
    refine ex_aaldS (pc' := 41) dX5_becomeLike_40 (sh5_T2 h0) (by decide) (by decide) (inb_in hg7) (sh5_E2 h0 _ (inb_lt hg7)) rfl ?_
    refine ex_aload_n 1 (pc' := 42) dX5_becomeLike_41 rfl rfl rfl ?_
    refine ex_getR (pc' := 45) dX5_becomeLike_42 fl_X5_26 rfl (sh5_k h1) (sh5_F2 h1) rfl ?_
    refine ex_iload_n 2 (pc' := 46) dX5_becomeLike_45 rfl rfl rfl ?_
    obtain ⟨hg8, hf⟩ := of_guard hf
    refine ex_aaldS (pc' := 47) dX5_becomeLike_46 (sh5_T2 h1) (by decide) (by decide) (inb_in hg8) (sh5_E2 h1 _ (inb_lt hg8)) rfl ?_
    obtain ⟨I9, hq10, hf⟩ := of_bnd1 hf
    refine ex_callV_v (rm' := rmX0_becomeLike) (st := []) (pc' := 50) [.ref (gB G + (a1 + 11 + 4 * (Int32.toNatClampNeg v2)))] dX5_becomeLike_47 cl_X5_58 (k_X0_becomeLike G (sh5_O2 h0 _ (inb_lt hg7)) (sh5_O2 h1 _ (inb_lt hg8)) hq10) rfl (sh0_k (sh5_O2 h0 _ (inb_lt hg7))) ⟨_, _, rfl⟩ rfl rfl (ROOM_of rfl) (Nat.le_of_ble_eq_true rfl) rfl rfl ?_
    refine ex_iincc (lv' := [(2, .int (v2 + 1)), (0, .ref (gB G + a0)), (1, .ref (gB G + a1))]) 2 (pc' := 53) dX5_becomeLike_50 rfl ic_1 (Nat.le_of_ble_eq_true rfl) rfl rfl ?_
    refine ex_goto (tgt := 2) dX5_becomeLike_53 (by decide) ?_
    exact ex_sub [1, 2, 0] rfl (hC _ _ (Option.some.inj hf).symm)
  · replace hf := if_f hc1 hf
    exact ex_sub [0, 1] rfl (hX _ (Option.some.inj hf).symm)
def f_X5_becomeLike_l2 (N : Nat) (a0 : Nat) (a1 : Nat) (v2 : Int32) (I : MI) : Option (MI) := loopN (fun s => f_X5_becomeLike_b2 N a0 a1 s.1 s.2) N (v2, I)
set_option maxRecDepth 100000 in
set_option maxHeartbeats 4000000 in
theorem k_X5_becomeLike_l2 {G : GX} {Q : State → Prop} {X : MX} {a0 : Nat} {a1 : Nat} (h0 : shX5 X a0) (h1 : shX5 X a1) {N0 : Nat} {L : ML} {out : (MI)} (hX : ∀ (I' : MI), out = I' → Ex G mX5_becomeLike rmX5_becomeLike Q (0, 0) X I' L 56 [(0, .ref (gB G + a0)), (1, .ref (gB G + a1))] []) : ∀ (N : Nat) (v2 : Int32) (I : MI), loopN (fun s => f_X5_becomeLike_b2 N0 a0 a1 s.1 s.2) N (v2, I) = some out → Ex G mX5_becomeLike rmX5_becomeLike Q (0, 0) X I L 2 [(0, .ref (gB G + a0)), (1, .ref (gB G + a1)), (2, .int v2)] [] := by
  intro N
  induction N with
  | zero => intro v2 I hf; exact absurd (loopN_zero hf) id
  | succ n ih =>
    intro v2 I hf
    rcases loopN_succ hf with ⟨s, hb, hl⟩ | hb
    · obtain ⟨v2', I'⟩ := s
      refine k_X5_becomeLike_b2 h0 h1 hb (fun _ _ he => ?_) (fun _ he => by cases he)
      cases he
      exact ih v2' I' hl
    · exact k_X5_becomeLike_b2 h0 h1 hb (fun _ _ he => by cases he) (fun x0 he => hX x0 (Sum.inr.inj he))
def f_X5_becomeLike (N : Nat) (a0 : Nat) (a1 : Nat) (I : MI) (L : ML) : Option (MI × ML) := bnd1 (f_X5_becomeLike_l2 N a0 a1 0 I) fun I11 => bnd1 (f_X6_becomeLike (a0 + 2) (a1 + 2) L) fun L13 => if cpok 0 0 36 36 36 then letv (cpI I11 (a1 + 6) (a0 + 6) (Int32.toNatClampNeg 0) (Int32.toNatClampNeg 0) (Int32.toNatClampNeg 36)) fun I16 => if cpok 0 0 4 4 4 then letv (cpI I16 (a1 + 7) (a0 + 7) (Int32.toNatClampNeg 0) (Int32.toNatClampNeg 0) (Int32.toNatClampNeg 4)) fun I18 => if cpok 0 0 4 4 4 then letv (cpI I18 (a1 + 8) (a0 + 8) (Int32.toNatClampNeg 0) (Int32.toNatClampNeg 0) (Int32.toNatClampNeg 4)) fun I20 => letv (upI I20 a0 6 (I20 a1 6)) fun I21 => some (I21, L13) else none else none else none
set_option maxRecDepth 100000 in
set_option maxHeartbeats 4000000 in
theorem kb_X5_becomeLike {G : GX} {Q : State → Prop} {X : MX} {a0 : Nat} {a1 : Nat} (h0 : shX5 X a0) (h1 : shX5 X a1) {N : Nat} {I : MI} {L : ML} {out : MI × ML} (hf : f_X5_becomeLike N a0 a1 I L = some out) (hR : ∀ (I' : MI) (L' : ML), out = (I', L') → Q = RetQ G none X I' L' (0, 0)) : Ex G mX5_becomeLike rmX5_becomeLike Q (0, 0) X I L 0 [(0, .ref (gB G + a0)), (1, .ref (gB G + a1))] [] := by
  unfold f_X5_becomeLike at hf
  refine ex_iconst (v := 0) (pc' := 1) dX5_becomeLike_0 ic_0 rfl ?_
  refine ex_istore_n (lv' := [(2, .int 0), (0, .ref (gB G + a0)), (1, .ref (gB G + a1))]) (pc' := 2) dX5_becomeLike_1 rfl (Nat.le_of_ble_eq_true rfl) rfl rfl ?_
  refine ex_sub (lv' := [(0, .ref (gB G + a0)), (1, .ref (gB G + a1)), (2, .int 0)]) [1, 2, 0] rfl ?_
  obtain ⟨I11, hq12, hf⟩ := of_bnd1 hf
  refine k_X5_becomeLike_l2 h0 h1 (fun I11' he => ?_) _ _ _ hq12
  cases he
  refine ex_aload_n 0 (pc' := 57) dX5_becomeLike_56 rfl rfl rfl ?_
  refine ex_getR (pc' := 60) dX5_becomeLike_57 fl_X5_20 rfl (sh5_k h0) (sh5_F1 h0) rfl ?_
  refine ex_aload_n 1 (pc' := 61) dX5_becomeLike_60 rfl rfl rfl ?_
  refine ex_getR (pc' := 64) dX5_becomeLike_61 fl_X5_20 rfl (sh5_k h1) (sh5_F1 h1) rfl ?_
  obtain ⟨L13, hq14, hf⟩ := of_bnd1 hf
  refine ex_callV_v (rm' := rmX6_becomeLike) (st := []) (pc' := 67) [.ref (gB G + (a1 + 2))] dX5_becomeLike_64 cl_X5_62 (k_X6_becomeLike G (sh5_T1 h0) (sh5_T1 h1) hq14) rfl (sh6_k (sh5_T1 h0)) ⟨_, _, rfl⟩ rfl rfl (ROOM_of rfl) (Nat.le_of_ble_eq_true rfl) rfl rfl ?_
  refine ex_aload_n 1 (pc' := 68) dX5_becomeLike_67 rfl rfl rfl ?_
  refine ex_getR (pc' := 71) dX5_becomeLike_68 fl_X5_30 rfl (sh5_k h1) (sh5_F3 h1) rfl ?_
  refine ex_iconst (v := 0) (pc' := 72) dX5_becomeLike_71 ic_0 rfl ?_
  refine ex_aload_n 0 (pc' := 73) dX5_becomeLike_72 rfl rfl rfl ?_
  refine ex_getR (pc' := 76) dX5_becomeLike_73 fl_X5_30 rfl (sh5_k h0) (sh5_F3 h0) rfl ?_
  refine ex_iconst (v := 0) (pc' := 77) dX5_becomeLike_76 ic_0 rfl ?_
  refine ex_aload_n 0 (pc' := 78) dX5_becomeLike_77 rfl rfl rfl ?_
  refine ex_getR (pc' := 81) dX5_becomeLike_78 fl_X5_30 rfl (sh5_k h0) (sh5_F3 h0) rfl ?_
  refine ex_alen (v := 36) (pc' := 82) dX5_becomeLike_81 (sh5_T3 h0) (Or.inl rfl) al_36 rfl ?_
  obtain ⟨hg15, hf⟩ := of_guard hf
  refine ex_copyI (pc' := 85) dX5_becomeLike_82 cl_X5_65 (sh5_T3 h1) (sh5_T3 h0) (cpok_ok hg15) ⟨Nat.le_of_ble_eq_true rfl, Nat.le_of_ble_eq_true rfl⟩ rfl ?_
  obtain ⟨I16, hI16, hf⟩ := of_let hf
  rw [← hI16]
  refine ex_aload_n 1 (pc' := 86) dX5_becomeLike_85 rfl rfl rfl ?_
  refine ex_getR (pc' := 89) dX5_becomeLike_86 fl_X5_34 rfl (sh5_k h1) (sh5_F4 h1) rfl ?_
  refine ex_iconst (v := 0) (pc' := 90) dX5_becomeLike_89 ic_0 rfl ?_
  refine ex_aload_n 0 (pc' := 91) dX5_becomeLike_90 rfl rfl rfl ?_
  refine ex_getR (pc' := 94) dX5_becomeLike_91 fl_X5_34 rfl (sh5_k h0) (sh5_F4 h0) rfl ?_
  refine ex_iconst (v := 0) (pc' := 95) dX5_becomeLike_94 ic_0 rfl ?_
  refine ex_iconst (v := 4) (pc' := 96) dX5_becomeLike_95 ic_4 rfl ?_
  obtain ⟨hg17, hf⟩ := of_guard hf
  refine ex_copyI (pc' := 99) dX5_becomeLike_96 cl_X5_65 (sh5_T4 h1) (sh5_T4 h0) (cpok_ok hg17) ⟨Nat.le_of_ble_eq_true rfl, Nat.le_of_ble_eq_true rfl⟩ rfl ?_
  obtain ⟨I18, hI18, hf⟩ := of_let hf
  rw [← hI18]
  refine ex_aload_n 1 (pc' := 100) dX5_becomeLike_99 rfl rfl rfl ?_
  refine ex_getR (pc' := 103) dX5_becomeLike_100 fl_X5_37 rfl (sh5_k h1) (sh5_F5 h1) rfl ?_
  refine ex_iconst (v := 0) (pc' := 104) dX5_becomeLike_103 ic_0 rfl ?_
  refine ex_aload_n 0 (pc' := 105) dX5_becomeLike_104 rfl rfl rfl ?_
  refine ex_getR (pc' := 108) dX5_becomeLike_105 fl_X5_37 rfl (sh5_k h0) (sh5_F5 h0) rfl ?_
  refine ex_iconst (v := 0) (pc' := 109) dX5_becomeLike_108 ic_0 rfl ?_
  refine ex_iconst (v := 4) (pc' := 110) dX5_becomeLike_109 ic_4 rfl ?_
  obtain ⟨hg19, hf⟩ := of_guard hf
  refine ex_copyI (pc' := 113) dX5_becomeLike_110 cl_X5_65 (sh5_T5 h1) (sh5_T5 h0) (cpok_ok hg19) ⟨Nat.le_of_ble_eq_true rfl, Nat.le_of_ble_eq_true rfl⟩ rfl ?_
  obtain ⟨I20, hI20, hf⟩ := of_let hf
  rw [← hI20]
  refine ex_aload_n 0 (pc' := 114) dX5_becomeLike_113 rfl rfl rfl ?_
  refine ex_aload_n 1 (pc' := 115) dX5_becomeLike_114 rfl rfl rfl ?_
  refine ex_getI (pc' := 118) dX5_becomeLike_115 fl_X5_71 rfl (sh5_k h1) rfl ?_
  refine ex_putI (pc' := 121) dX5_becomeLike_118 fl_X5_71 rfl (sh5_k h0) rfl ?_
  obtain ⟨I21, hI21, hf⟩ := of_let hf
  rw [← hI21]
  exact ex_vret dX5_becomeLike_121 rfl (hR _ _ (Option.some.inj hf).symm)
set_option maxRecDepth 100000 in
set_option maxHeartbeats 4000000 in
theorem k_X5_becomeLike (G : GX) {X : MX} {a0 : Nat} {a1 : Nat} (h0 : shX5 X a0) (h1 : shX5 X a1) {N : Nat} {I : MI} {L : ML} {I' : MI} {L' : ML} (hf : f_X5_becomeLike N a0 a1 I L = some (I', L')) : Con G mX5_becomeLike yX5_becomeLike rmX5_becomeLike (fun B => [.ref (B + a0), .ref (B + a1)]) X I L none X I' L' :=
  Con.of (by decide) rfl (fun h => by cases h) (fun B => Nat.le_of_ble_eq_true rfl) (fun G => kb_X5_becomeLike h0 h1 hf (fun _ _ he => by cases he; rfl))
theorem lc_0 : Int64.ofNat ((0 : Fin 2) : Nat) = 0 := by decide
theorem bp_13 : (Int8.ofInt 13).toInt32 = 13 := by decide
-- X6_at ('RookWords$Sum', 'at', '(II)J')
def rmX6_at : RM := ((0, 0, 0, 0), false, (some FieldType.long))
def f_X6_at (a0 : Nat) (v1 : Int32) (v2 : Int32) (L : ML) : Option (Int64) := (if v1 < 0 then some 0 else (if v1 < 13 then (if v2 < 0 then some 0 else (if v2 < 13 then if inb ((v1 * 13) + v2) 169 then some (L (a0 + 1) (Int32.toNatClampNeg ((v1 * 13) + v2))) else none else some 0)) else some 0))
set_option maxRecDepth 100000 in
set_option maxHeartbeats 4000000 in
theorem kb_X6_at {G : GX} {Q : State → Prop} {X : MX} {a0 : Nat} {v1 : Int32} {v2 : Int32} (h0 : shX6 X a0) {I : MI} {L : ML} {out : Int64} (hf : f_X6_at a0 v1 v2 L = some out) (hR : ∀ (z : Int64), out = z → Q = RetQ G (some (.long z)) X I L (0, 0)) : Ex G mX6_at rmX6_at Q (0, 0) X I L 0 [(0, .ref (gB G + a0)), (1, .int v1), (2, .int v2)] [] := by
  unfold f_X6_at at hf
  refine ex_iload_n 1 (pc' := 1) dX6_at_0 rfl rfl rfl ?_
  refine ex_iflt (tgt := 34) (pc' := 4) dX6_at_1 (by decide) rfl (fun hc1 => ?_) (fun hc1 => ?_)
  · replace hf := if_t hc1 hf
    refine ex_lconst (v := 0) (pc' := 35) dX6_at_34 lc_0 rfl ?_
    exact ex_lret dX6_at_35 rfl (hR _ (Option.some.inj hf).symm)
  · replace hf := if_f hc1 hf
    refine ex_iload_n 1 (pc' := 5) dX6_at_4 rfl rfl rfl ?_
    refine ex_bipush (v := 13) (pc' := 7) dX6_at_5 bp_13 rfl ?_
    refine ex_icmpge (tgt := 34) (pc' := 10) dX6_at_7 (by decide) rfl (fun hc2 => ?_) (fun hc2 => ?_)
    · replace hf := if_t hc2 hf
      refine ex_iload_n 2 (pc' := 11) dX6_at_10 rfl rfl rfl ?_
      refine ex_iflt (tgt := 34) (pc' := 14) dX6_at_11 (by decide) rfl (fun hc3 => ?_) (fun hc3 => ?_)
      · replace hf := if_t hc3 hf
        refine ex_lconst (v := 0) (pc' := 35) dX6_at_34 lc_0 rfl ?_
        exact ex_lret dX6_at_35 rfl (hR _ (Option.some.inj hf).symm)
      · replace hf := if_f hc3 hf
        refine ex_iload_n 2 (pc' := 15) dX6_at_14 rfl rfl rfl ?_
        refine ex_bipush (v := 13) (pc' := 17) dX6_at_15 bp_13 rfl ?_
        refine ex_icmpge (tgt := 34) (pc' := 20) dX6_at_17 (by decide) rfl (fun hc4 => ?_) (fun hc4 => ?_)
        · replace hf := if_t hc4 hf
          refine ex_aload_n 0 (pc' := 21) dX6_at_20 rfl rfl rfl ?_
          refine ex_getR (pc' := 24) dX6_at_21 fl_X6_11 rfl (sh6_k h0) (sh6_F0 h0) rfl ?_
          refine ex_iload_n 1 (pc' := 25) dX6_at_24 rfl rfl rfl ?_
          refine ex_bipush (v := 13) (pc' := 27) dX6_at_25 bp_13 rfl ?_
          refine ex_imul (pc' := 28) dX6_at_27 rfl ?_
          refine ex_iload_n 2 (pc' := 29) dX6_at_28 rfl rfl rfl ?_
          refine ex_iadd (pc' := 30) dX6_at_29 rfl ?_
          obtain ⟨hg5, hf⟩ := of_guard hf
          refine ex_lald (pc' := 31) dX6_at_30 (sh6_T0 h0) (inb_in hg5) rfl ?_
          refine ex_goto (tgt := 35) dX6_at_31 (by decide) ?_
          exact ex_lret dX6_at_35 rfl (hR _ (Option.some.inj hf).symm)
        · replace hf := if_f hc4 hf
          refine ex_lconst (v := 0) (pc' := 35) dX6_at_34 lc_0 rfl ?_
          exact ex_lret dX6_at_35 rfl (hR _ (Option.some.inj hf).symm)
    · replace hf := if_f hc2 hf
      refine ex_lconst (v := 0) (pc' := 35) dX6_at_34 lc_0 rfl ?_
      exact ex_lret dX6_at_35 rfl (hR _ (Option.some.inj hf).symm)
set_option maxRecDepth 100000 in
set_option maxHeartbeats 4000000 in
theorem k_X6_at (G : GX) {X : MX} {a0 : Nat} {v1 : Int32} {v2 : Int32} (h0 : shX6 X a0) {I : MI} {L : ML} {z : Int64} (hf : f_X6_at a0 v1 v2 L = some z) : Con G mX6_at yX6_at rmX6_at (fun B => [.ref (B + a0), .int v1, .int v2]) X I L (some (.long z)) X I L :=
  Con.of (by decide) rfl (fun h => by cases h) (fun B => Nat.le_of_ble_eq_true rfl) (fun G => kb_X6_at h0 hf (fun _ he => by cases he; rfl))
theorem fl_X6_15 : FLD RX6 15 6 1 true := ⟨RX6, TX6, 2, rfl, inX6, by decide, lwg_at 89 (by decide +kernel) rfl, nmX6, tyX6_ok, rfl, rfl⟩
-- X6_begin ('RookWords$Sum', 'begin', '()V')
def rmX6_begin : RM := ((1, 26, 0, 0), false, none)
def f_X6_begin (a0 : Nat) (L : ML) : Option (ML) := if cpok 0 0 169 169 169 then letv (cpL L (a0 + 1) (a0 + 2) (Int32.toNatClampNeg 0) (Int32.toNatClampNeg 0) (Int32.toNatClampNeg 169)) fun L2 => some L2 else none
set_option maxRecDepth 100000 in
set_option maxHeartbeats 4000000 in
theorem kb_X6_begin {G : GX} {Q : State → Prop} {X : MX} {a0 : Nat} (h0 : shX6 X a0) {I : MI} {L : ML} {out : ML} (hf : f_X6_begin a0 L = some out) (hR : ∀ (L' : ML), out = L' → Q = RetQ G none X I L' (0, 0)) : Ex G mX6_begin rmX6_begin Q (0, 0) X I L 0 [(0, .ref (gB G + a0))] [] := by
  unfold f_X6_begin at hf
  refine ex_aload_n 0 (pc' := 1) dX6_begin_0 rfl rfl rfl ?_
  refine ex_getR (pc' := 4) dX6_begin_1 fl_X6_11 rfl (sh6_k h0) (sh6_F0 h0) rfl ?_
  refine ex_iconst (v := 0) (pc' := 5) dX6_begin_4 ic_0 rfl ?_
  refine ex_aload_n 0 (pc' := 6) dX6_begin_5 rfl rfl rfl ?_
  refine ex_getR (pc' := 9) dX6_begin_6 fl_X6_15 rfl (sh6_k h0) (sh6_F1 h0) rfl ?_
  refine ex_iconst (v := 0) (pc' := 10) dX6_begin_9 ic_0 rfl ?_
  refine ex_aload_n 0 (pc' := 11) dX6_begin_10 rfl rfl rfl ?_
  refine ex_getR (pc' := 14) dX6_begin_11 fl_X6_11 rfl (sh6_k h0) (sh6_F0 h0) rfl ?_
  refine ex_alen (v := 169) (pc' := 15) dX6_begin_14 (sh6_T0 h0) (Or.inr rfl) al_169 rfl ?_
  obtain ⟨hg1, hf⟩ := of_guard hf
  refine ex_copyL (pc' := 18) dX6_begin_15 cl_X6_24 (sh6_T0 h0) (sh6_T1 h0) (cpok_ok hg1) ⟨Nat.le_of_ble_eq_true rfl, Nat.le_of_ble_eq_true rfl⟩ rfl ?_
  obtain ⟨L2, hL2, hf⟩ := of_let hf
  rw [← hL2]
  exact ex_vret dX6_begin_18 rfl (hR _ (Option.some.inj hf).symm)
set_option maxRecDepth 100000 in
set_option maxHeartbeats 4000000 in
theorem k_X6_begin (G : GX) {X : MX} {a0 : Nat} (h0 : shX6 X a0) {I : MI} {L : ML} {L' : ML} (hf : f_X6_begin a0 L = some L') : Con G mX6_begin yX6_begin rmX6_begin (fun B => [.ref (B + a0)]) X I L none X I L' :=
  Con.of (by decide) rfl (fun h => by cases h) (fun B => Nat.le_of_ble_eq_true rfl) (fun G => kb_X6_begin h0 hf (fun _ he => by cases he; rfl))
-- X6_comingByDown ('RookWords$Sum', 'comingByDown', '()Z')
def rmX6_comingByDown : RM := ((1, 26, 0, 0), false, (some FieldType.boolean))
def f_X6_comingByDown_b2 (N : Nat) (a0 : Nat) (v1 : Int32) (L : ML) : Option ((Int32 × ML) ⊕ ((ML) ⊕ (Int32 × ML))) := (if v1 < 13 then if inb ((v1 * 13) + 12) 169 then (if (L (a0 + 2) (Int32.toNatClampNeg ((v1 * 13) + 12))) = 0 then if cpok (v1 * 13) ((v1 * 13) + 1) 12 169 169 then letv (cpL L (a0 + 2) (a0 + 2) (Int32.toNatClampNeg (v1 * 13)) (Int32.toNatClampNeg ((v1 * 13) + 1)) (Int32.toNatClampNeg 12)) fun L5 => if inb (v1 * 13) 169 then letv (upL L5 (a0 + 2) (Int32.toNatClampNeg (v1 * 13)) 0) fun L7 => some (.inl (v1 + 1, L7)) else none else none else some (.inr (.inr (0, L)))) else none else some (.inr (.inl L)))
set_option maxRecDepth 100000 in
set_option maxHeartbeats 4000000 in
theorem k_X6_comingByDown_b2 {G : GX} {Q : State → Prop} {X : MX} {a0 : Nat} (h0 : shX6 X a0) {v1 : Int32} {N : Nat} {I : MI} {L : ML} {out : (Int32 × ML) ⊕ ((ML) ⊕ (Int32 × ML))} (hf : f_X6_comingByDown_b2 N a0 v1 L = some out) (hC : ∀ (v1' : Int32) (L' : ML), out = .inl (v1', L') → Ex G mX6_comingByDown rmX6_comingByDown Q (0, 0) X I L' 2 [(0, .ref (gB G + a0)), (1, .int v1')] []) (hX : ∀ (L' : ML), out = .inr (.inl L') → Ex G mX6_comingByDown rmX6_comingByDown Q (0, 0) X I L' 59 [] []) (hR : ∀ (z : Int32) (L' : ML), out = .inr (.inr (z, L')) → Q = RetQ G (some (.int z)) X I L' (0, 0)) : Ex G mX6_comingByDown rmX6_comingByDown Q (0, 0) X I L 2 [(0, .ref (gB G + a0)), (1, .int v1)] [] := by
  unfold f_X6_comingByDown_b2 at hf
  refine ex_iload_n 1 (pc' := 3) dX6_comingByDown_2 rfl rfl rfl ?_
  refine ex_bipush (v := 13) (pc' := 5) dX6_comingByDown_3 bp_13 rfl ?_
  refine ex_icmpge (tgt := 59) (pc' := 8) dX6_comingByDown_5 (by decide) rfl (fun hc1 => ?_) (fun hc1 => ?_)
  · replace hf := if_t hc1 hf
    refine ex_iload_n 1 (pc' := 9) dX6_comingByDown_8 rfl rfl rfl ?_
    refine ex_bipush (v := 13) (pc' := 11) dX6_comingByDown_9 bp_13 rfl ?_
    refine ex_imul (pc' := 12) dX6_comingByDown_11 rfl ?_
    refine ex_istore_n (lv' := [(2, .int (v1 * 13)), (0, .ref (gB G + a0)), (1, .int v1)]) (pc' := 13) dX6_comingByDown_12 rfl (Nat.le_of_ble_eq_true rfl) rfl rfl ?_
    refine ex_aload_n 1 (pc' := 14) dX6_comingByDown_13 rfl rfl rfl ?_
    refine ex_getR (pc' := 17) dX6_comingByDown_14 fl_X6_15 rfl (sh6_k h0) (sh6_F1 h0) rfl ?_
    refine ex_iload_n 0 (pc' := 18) dX6_comingByDown_17 rfl rfl rfl ?_
    refine ex_bipush (v := 12) (pc' := 20) dX6_comingByDown_18 bp_12 rfl ?_
    refine ex_iadd (pc' := 21) dX6_comingByDown_20 rfl ?_
    obtain ⟨hg2, hf⟩ := of_guard hf
    refine ex_lald (pc' := 22) dX6_comingByDown_21 (sh6_T1 h0) (inb_in hg2) rfl ?_
    refine ex_lconst (v := 0) (pc' := 23) dX6_comingByDown_22 lc_0 rfl ?_
    refine ex_lcmp (pc' := 24) dX6_comingByDown_23 rfl ?_
    refine ex_lifeq (tgt := 29) (pc' := 27) dX6_comingByDown_24 (by decide) rfl (fun hc3 => ?_) (fun hc3 => ?_)
    · replace hf := if_t hc3 hf
      refine ex_aload_n 1 (pc' := 30) dX6_comingByDown_29 rfl rfl rfl ?_
      refine ex_getR (pc' := 33) dX6_comingByDown_30 fl_X6_15 rfl (sh6_k h0) (sh6_F1 h0) rfl ?_
      refine ex_iload_n 0 (pc' := 34) dX6_comingByDown_33 rfl rfl rfl ?_
      refine ex_aload_n 1 (pc' := 35) dX6_comingByDown_34 rfl rfl rfl ?_
      refine ex_getR (pc' := 38) dX6_comingByDown_35 fl_X6_15 rfl (sh6_k h0) (sh6_F1 h0) rfl ?_
      refine ex_iload_n 0 (pc' := 39) dX6_comingByDown_38 rfl rfl rfl ?_
      refine ex_iconst (v := 1) (pc' := 40) dX6_comingByDown_39 ic_1 rfl ?_
      refine ex_iadd (pc' := 41) dX6_comingByDown_40 rfl ?_
      refine ex_bipush (v := 12) (pc' := 43) dX6_comingByDown_41 bp_12 rfl ?_
      obtain ⟨hg4, hf⟩ := of_guard hf
      refine ex_copyL (pc' := 46) dX6_comingByDown_43 cl_X6_24 (sh6_T1 h0) (sh6_T1 h0) (cpok_ok hg4) ⟨Nat.le_of_ble_eq_true rfl, Nat.le_of_ble_eq_true rfl⟩ rfl ?_
      obtain ⟨L5, hL5, hf⟩ := of_let hf
      rw [← hL5]
      refine ex_aload_n 1 (pc' := 47) dX6_comingByDown_46 rfl rfl rfl ?_
      refine ex_getR (pc' := 50) dX6_comingByDown_47 fl_X6_15 rfl (sh6_k h0) (sh6_F1 h0) rfl ?_
      refine ex_iload_n 0 (pc' := 51) dX6_comingByDown_50 rfl rfl rfl ?_
      refine ex_lconst (v := 0) (pc' := 52) dX6_comingByDown_51 lc_0 rfl ?_
      obtain ⟨hg6, hf⟩ := of_guard hf
      refine ex_last (pc' := 53) dX6_comingByDown_52 (sh6_T1 h0) (inb_in hg6) rfl ?_
      obtain ⟨L7, hL7, hf⟩ := of_let hf
      rw [← hL7]
      refine ex_iincc (lv' := [(1, .int (v1 + 1)), (2, .int (v1 * 13)), (0, .ref (gB G + a0))]) 2 (pc' := 56) dX6_comingByDown_53 rfl ic_1 (Nat.le_of_ble_eq_true rfl) rfl rfl ?_
      refine ex_goto (tgt := 2) dX6_comingByDown_56 (by decide) ?_
      exact ex_sub [2, 0] rfl (hC _ _ (Option.some.inj hf).symm)
    · replace hf := if_f hc3 hf
      refine ex_iconst (v := 0) (pc' := 28) dX6_comingByDown_27 ic_0 rfl ?_
      exact ex_zret dX6_comingByDown_28 rfl (Or.inl rfl) (hR _ _ (Option.some.inj hf).symm)
  · replace hf := if_f hc1 hf
    exact ex_sub [] rfl (hX _ (Option.some.inj hf).symm)
def f_X6_comingByDown_l2 (N : Nat) (a0 : Nat) (v1 : Int32) (L : ML) : Option ((ML) ⊕ (Int32 × ML)) := loopN (fun s => f_X6_comingByDown_b2 N a0 s.1 s.2) N (v1, L)
set_option maxRecDepth 100000 in
set_option maxHeartbeats 4000000 in
theorem k_X6_comingByDown_l2 {G : GX} {Q : State → Prop} {X : MX} {a0 : Nat} (h0 : shX6 X a0) {N0 : Nat} {I : MI} {out : ((ML) ⊕ (Int32 × ML))} (hX : ∀ (L' : ML), out = .inl L' → Ex G mX6_comingByDown rmX6_comingByDown Q (0, 0) X I L' 59 [] []) (hR : ∀ (z : Int32) (L' : ML), out = .inr (z, L') → Q = RetQ G (some (.int z)) X I L' (0, 0)) : ∀ (N : Nat) (v1 : Int32) (L : ML), loopN (fun s => f_X6_comingByDown_b2 N0 a0 s.1 s.2) N (v1, L) = some out → Ex G mX6_comingByDown rmX6_comingByDown Q (0, 0) X I L 2 [(0, .ref (gB G + a0)), (1, .int v1)] [] := by
  intro N
  induction N with
  | zero => intro v1 L hf; exact absurd (loopN_zero hf) id
  | succ n ih =>
    intro v1 L hf
    rcases loopN_succ hf with ⟨s, hb, hl⟩ | hb
    · obtain ⟨v1', L'⟩ := s
      refine k_X6_comingByDown_b2 h0 hb (fun _ _ he => ?_) (fun _ he => by cases he) (fun _ _ he => by cases he)
      cases he
      exact ih v1' L' hl
    · exact k_X6_comingByDown_b2 h0 hb (fun _ _ he => by cases he) (fun x0 he => hX x0 (Sum.inr.inj he)) (fun z0 z1 he => hR z0 z1 (Sum.inr.inj he))
def f_X6_comingByDown (N : Nat) (a0 : Nat) (L : ML) : Option (Int32 × ML) := bns1 (f_X6_comingByDown_l2 N a0 0 L) (fun L8 => some (1, L8)) (fun q10 => some q10)
set_option maxRecDepth 100000 in
set_option maxHeartbeats 4000000 in
theorem kb_X6_comingByDown {G : GX} {Q : State → Prop} {X : MX} {a0 : Nat} (h0 : shX6 X a0) {N : Nat} {I : MI} {L : ML} {out : Int32 × ML} (hf : f_X6_comingByDown N a0 L = some out) (hR : ∀ (z : Int32) (L' : ML), out = (z, L') → Q = RetQ G (some (.int z)) X I L' (0, 0)) : Ex G mX6_comingByDown rmX6_comingByDown Q (0, 0) X I L 0 [(0, .ref (gB G + a0))] [] := by
  unfold f_X6_comingByDown at hf
  refine ex_iconst (v := 0) (pc' := 1) dX6_comingByDown_0 ic_0 rfl ?_
  refine ex_istore_n (lv' := [(1, .int 0), (0, .ref (gB G + a0))]) (pc' := 2) dX6_comingByDown_1 rfl (Nat.le_of_ble_eq_true rfl) rfl rfl ?_
  refine ex_sub (lv' := [(0, .ref (gB G + a0)), (1, .int 0)]) [1, 0] rfl ?_
  rcases of_bns1 hf with ⟨L8, hq9, hf⟩ | ⟨q10, hq9, hf⟩
  · refine k_X6_comingByDown_l2 h0 (fun L8' he => ?_) (fun _ _ he => by cases he) _ _ _ hq9
    cases he
    refine ex_iconst (v := 1) (pc' := 60) dX6_comingByDown_59 ic_1 rfl ?_
    exact ex_zret dX6_comingByDown_60 rfl (Or.inr rfl) (hR _ _ (Option.some.inj hf).symm)
  · refine k_X6_comingByDown_l2 h0 (fun _ he => by cases he) (fun z0 z1 he => ?_) _ _ _ hq9
    refine hR _ _ ?_
    rw [← Option.some.inj hf]
    cases he
    rfl
set_option maxRecDepth 100000 in
set_option maxHeartbeats 4000000 in
theorem k_X6_comingByDown (G : GX) {X : MX} {a0 : Nat} (h0 : shX6 X a0) {N : Nat} {I : MI} {L : ML} {z : Int32} {L' : ML} (hf : f_X6_comingByDown N a0 L = some (z, L')) : Con G mX6_comingByDown yX6_comingByDown rmX6_comingByDown (fun B => [.ref (B + a0)]) X I L (some (.int z)) X I L' :=
  Con.of (by decide) rfl (fun h => by cases h) (fun B => Nat.le_of_ble_eq_true rfl) (fun G => kb_X6_comingByDown h0 hf (fun _ _ he => by cases he; rfl))
