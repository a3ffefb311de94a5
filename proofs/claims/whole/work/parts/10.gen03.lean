theorem fl_X10_52 : FLD RX10 52 10 7 true := ⟨RX10, TX10, 10, rfl, inX10, by decide, lwg_at 281 (by decide +kernel) rfl, nmX10, tyX10_ok, rfl, rfl⟩
theorem fl_X10_268 : FLD RX10 268 5 3 true := ⟨RX5, TX5, 7, rfl, inX5, by decide, lwg_at 149 (by decide +kernel) rfl, nmX5, tyX5_ok, rfl, rfl⟩
theorem cl_X10_271 : CLV RX10 271 yX4_weighCheapest mX4_weighCheapest (some FieldType.int) 3 := ⟨⟨lwg_at 725 (by decide +kernel) rfl, lwg_at 726 (by decide +kernel) rfl, lwg_at 727 (by decide +kernel) rfl, lwg_at 60 (by decide +kernel) rfl⟩, lwg_at 728 (by decide +kernel) rfl, ⟨by decide +kernel, by decide +kernel, by decide +kernel⟩⟩
theorem cl_X10_275 : CLV RX10 275 yX4_cheapestColumn mX4_cheapestColumn (some FieldType.int) 3 := ⟨⟨lwg_at 739 (by decide +kernel) rfl, lwg_at 740 (by decide +kernel) rfl, lwg_at 741 (by decide +kernel) rfl, lwg_at 60 (by decide +kernel) rfl⟩, lwg_at 742 (by decide +kernel) rfl, ⟨by decide +kernel, by decide +kernel, by decide +kernel⟩⟩
-- X10_cheapest ('RookWords', 'cheapest', '(III)I')
def rmX10_cheapest : RM := ((3, 77, 0, 0), false, (some FieldType.int))
def f_X10_cheapest (N : Nat) (v1 : Int32) (v2 : Int32) (v3 : Int32) (I : MI) : Option (Int32 × MI) := bnd1 (f_X10_isPiece v1) fun r1 => (if r1 = 0 then some ((-1), I) else (if v3 < (-1) then some ((-1), I) else if inb v1 6 then (if v3 < (I (12 + 4 * (Int32.toNatClampNeg v1)) 0) then (if v2 < 0 then some ((-2), I) else if inb v1 6 then bnd2 (f_X4_weighCheapest N (12 + 4 * (Int32.toNatClampNeg v1)) 7 36 v2 I) fun r9 I10 => (if r9 < 1000 then (if v3 = (-1) then some (r9, I10) else if inb v1 6 then bnd1 (f_X4_cheapestColumn N (12 + 4 * (Int32.toNatClampNeg v1)) 7 36 v3 I10) fun r15 => some (r15, I10) else none) else some ((-5), I10)) else none) else some ((-1), I)) else none))
set_option maxRecDepth 100000 in
set_option maxHeartbeats 4000000 in
theorem kb_X10_cheapest {G : GX} {Q : State → Prop} {X : MX} (hM : shX10 X) {v1 : Int32} {v2 : Int32} {v3 : Int32}  {N : Nat} {I : MI} {L : ML} {out : Int32 × MI} (hf : f_X10_cheapest N v1 v2 v3 I = some out) (hR : ∀ (z : Int32) (I' : MI), out = (z, I') → Q = RetQ G (some (.int z)) X I' L (0, 0)) : Ex G mX10_cheapest rmX10_cheapest Q (0, 0) X I L 0 [(0, .ref (gB G + 0)), (1, .int v1), (2, .int v2), (3, .int v3)] [] := by
  unfold f_X10_cheapest at hf
  refine ex_iload_n 1 (pc' := 1) dX10_cheapest_0 rfl rfl rfl ?_
  obtain ⟨r1, hq2, hf⟩ := of_bnd1 hf
  refine ex_callS_i (rm' := rmX10_isPiece) (st := []) (pc' := 4) [.int v1] dX10_cheapest_1 cl_X10_66 (k_X10_isPiece G hq2) rfl rfl rfl (ROOM_of rfl) (Nat.le_of_ble_eq_true rfl) rfl rfl ?_
  refine ex_ifeq (tgt := 28) (pc' := 7) dX10_cheapest_4 (by decide) rfl (fun hc3 => ?_) (fun hc3 => ?_)
  · replace hf := if_t hc3 hf
    refine ex_iconst (v := (-1)) (pc' := 29) dX10_cheapest_28 ic_m1 rfl ?_
    exact ex_iret dX10_cheapest_29 rfl (hR _ _ (Option.some.inj hf).symm)
  · replace hf := if_f hc3 hf
    refine ex_iload_n 3 (pc' := 8) dX10_cheapest_7 rfl rfl rfl ?_
    refine ex_iconst (v := (-1)) (pc' := 9) dX10_cheapest_8 ic_m1 rfl ?_
    refine ex_icmplt (tgt := 28) (pc' := 12) dX10_cheapest_9 (by decide) rfl (fun hc4 => ?_) (fun hc4 => ?_)
    · replace hf := if_t hc4 hf
      refine ex_iconst (v := (-1)) (pc' := 29) dX10_cheapest_28 ic_m1 rfl ?_
      exact ex_iret dX10_cheapest_29 rfl (hR _ _ (Option.some.inj hf).symm)
    · replace hf := if_f hc4 hf
      refine ex_iload_n 3 (pc' := 13) dX10_cheapest_12 rfl rfl rfl ?_
      refine ex_aload_n 0 (pc' := 14) dX10_cheapest_13 rfl rfl rfl ?_
      refine ex_getR (pc' := 17) dX10_cheapest_14 fl_X10_12 rfl (sh10_k hM) (sh10_F0 hM) rfl ?_
      refine ex_getR (pc' := 20) dX10_cheapest_17 fl_X10_143 rfl (sh5_k (sh10_T0 hM)) (sh5_F2 (sh10_T0 hM)) rfl ?_
      refine ex_iload_n 1 (pc' := 21) dX10_cheapest_20 rfl rfl rfl ?_
      obtain ⟨hg5, hf⟩ := of_guard hf
      refine ex_aaldS (pc' := 22) dX10_cheapest_21 (sh5_T2 (sh10_T0 hM)) (by decide) (by decide) (inb_in hg5) (sh5_E2 (sh10_T0 hM) _ (inb_lt hg5)) rfl ?_
      refine ex_getI (pc' := 25) dX10_cheapest_22 fl_X10_147 rfl (sh0_k (sh5_O2 (sh10_T0 hM) _ (inb_lt hg5))) rfl ?_
      refine ex_icmplt (tgt := 30) (pc' := 28) dX10_cheapest_25 (by decide) rfl (fun hc6 => ?_) (fun hc6 => ?_)
      · replace hf := if_t hc6 hf
        refine ex_iload_n 2 (pc' := 31) dX10_cheapest_30 rfl rfl rfl ?_
        refine ex_ifge (tgt := 37) (pc' := 34) dX10_cheapest_31 (by decide) rfl (fun hc7 => ?_) (fun hc7 => ?_)
        · replace hf := if_t hc7 hf
          refine ex_bipush (v := (-2)) (pc' := 36) dX10_cheapest_34 bp_m2 rfl ?_
          exact ex_iret dX10_cheapest_36 rfl (hR _ _ (Option.some.inj hf).symm)
        · replace hf := if_f hc7 hf
          refine ex_aload_n 0 (pc' := 38) dX10_cheapest_37 rfl rfl rfl ?_
          refine ex_getR (pc' := 41) dX10_cheapest_38 fl_X10_52 rfl (sh10_k hM) (sh10_F7 hM) rfl ?_
          refine ex_aload_n 0 (pc' := 42) dX10_cheapest_41 rfl rfl rfl ?_
          refine ex_getR (pc' := 45) dX10_cheapest_42 fl_X10_12 rfl (sh10_k hM) (sh10_F0 hM) rfl ?_
          refine ex_getR (pc' := 48) dX10_cheapest_45 fl_X10_143 rfl (sh5_k (sh10_T0 hM)) (sh5_F2 (sh10_T0 hM)) rfl ?_
          refine ex_iload_n 1 (pc' := 49) dX10_cheapest_48 rfl rfl rfl ?_
          obtain ⟨hg8, hf⟩ := of_guard hf
          refine ex_aaldS (pc' := 50) dX10_cheapest_49 (sh5_T2 (sh10_T0 hM)) (by decide) (by decide) (inb_in hg8) (sh5_E2 (sh10_T0 hM) _ (inb_lt hg8)) rfl ?_
          refine ex_aload_n 0 (pc' := 51) dX10_cheapest_50 rfl rfl rfl ?_
          refine ex_getR (pc' := 54) dX10_cheapest_51 fl_X10_12 rfl (sh10_k hM) (sh10_F0 hM) rfl ?_
          refine ex_getR (pc' := 57) dX10_cheapest_54 fl_X10_268 rfl (sh5_k (sh10_T0 hM)) (sh5_F3 (sh10_T0 hM)) rfl ?_
          refine ex_iload_n 2 (pc' := 58) dX10_cheapest_57 rfl rfl rfl ?_
          obtain ⟨r9, I10, hq11, hf⟩ := of_bnd2 hf
          refine ex_callV_i (rm' := rmX4_weighCheapest) (st := []) (pc' := 61) [.ref (gB G + (12 + 4 * (Int32.toNatClampNeg v1))), .ref (gB G + 7), .int v2] dX10_cheapest_58 cl_X10_271 (k_X4_weighCheapest G hM (sh5_O2 (sh10_T0 hM) _ (inb_lt hg8)) (sh5_T3 (sh10_T0 hM)) hq11) rfl (sh4_k (sh10_T7 hM)) ⟨_, _, rfl⟩ rfl rfl (ROOM_of rfl) (Nat.le_of_ble_eq_true rfl) rfl rfl ?_
          refine ex_istore (lv' := [(4, .int r9), (0, .ref (gB G + 0)), (1, .int v1), (2, .int v2), (3, .int v3)]) (pc' := 63) dX10_cheapest_61 (Nat.le_of_ble_eq_true rfl) rfl rfl ?_
          refine ex_iload 0 (pc' := 65) dX10_cheapest_63 rfl rfl ?_
          refine ex_sipush (v := 1000) (pc' := 68) dX10_cheapest_65 sp_1000 rfl ?_
          refine ex_icmplt (tgt := 74) (pc' := 71) dX10_cheapest_68 (by decide) rfl (fun hc12 => ?_) (fun hc12 => ?_)
          · replace hf := if_t hc12 hf
            refine ex_iload_n 4 (pc' := 75) dX10_cheapest_74 rfl rfl rfl ?_
            refine ex_iconst (v := (-1)) (pc' := 76) dX10_cheapest_75 ic_m1 rfl ?_
            refine ex_icmpne (tgt := 84) (pc' := 79) dX10_cheapest_76 (by decide) rfl (fun hc13 => ?_) (fun hc13 => ?_)
            · replace hf := if_t hc13 hf
              refine ex_iload 0 (pc' := 81) dX10_cheapest_79 rfl rfl ?_
              refine ex_goto (tgt := 108) dX10_cheapest_81 (by decide) ?_
              exact ex_iret dX10_cheapest_108 rfl (hR _ _ (Option.some.inj hf).symm)
            · replace hf := if_f hc13 hf
              refine ex_aload_n 1 (pc' := 85) dX10_cheapest_84 rfl rfl rfl ?_
              refine ex_getR (pc' := 88) dX10_cheapest_85 fl_X10_52 rfl (sh10_k hM) (sh10_F7 hM) rfl ?_
              refine ex_aload_n 1 (pc' := 89) dX10_cheapest_88 rfl rfl rfl ?_
              refine ex_getR (pc' := 92) dX10_cheapest_89 fl_X10_12 rfl (sh10_k hM) (sh10_F0 hM) rfl ?_
              refine ex_getR (pc' := 95) dX10_cheapest_92 fl_X10_143 rfl (sh5_k (sh10_T0 hM)) (sh5_F2 (sh10_T0 hM)) rfl ?_
              refine ex_iload_n 2 (pc' := 96) dX10_cheapest_95 rfl rfl rfl ?_
              obtain ⟨hg14, hf⟩ := of_guard hf
              refine ex_aaldS (pc' := 97) dX10_cheapest_96 (sh5_T2 (sh10_T0 hM)) (by decide) (by decide) (inb_in hg14) (sh5_E2 (sh10_T0 hM) _ (inb_lt hg14)) rfl ?_
              refine ex_aload_n 1 (pc' := 98) dX10_cheapest_97 rfl rfl rfl ?_
              refine ex_getR (pc' := 101) dX10_cheapest_98 fl_X10_12 rfl (sh10_k hM) (sh10_F0 hM) rfl ?_
              refine ex_getR (pc' := 104) dX10_cheapest_101 fl_X10_268 rfl (sh5_k (sh10_T0 hM)) (sh5_F3 (sh10_T0 hM)) rfl ?_
              refine ex_iload_n 4 (pc' := 105) dX10_cheapest_104 rfl rfl rfl ?_
              obtain ⟨r15, hq16, hf⟩ := of_bnd1 hf
              refine ex_callV_i (rm' := rmX4_cheapestColumn) (st := []) (pc' := 108) [.ref (gB G + (12 + 4 * (Int32.toNatClampNeg v1))), .ref (gB G + 7), .int v3] dX10_cheapest_105 cl_X10_275 (k_X4_cheapestColumn G hM (sh5_O2 (sh10_T0 hM) _ (inb_lt hg14)) (sh5_T3 (sh10_T0 hM)) hq16) rfl (sh4_k (sh10_T7 hM)) ⟨_, _, rfl⟩ rfl rfl (ROOM_of rfl) (Nat.le_of_ble_eq_true rfl) rfl rfl ?_
              exact ex_iret dX10_cheapest_108 rfl (hR _ _ (Option.some.inj hf).symm)
          · replace hf := if_f hc12 hf
            refine ex_bipush (v := (-5)) (pc' := 73) dX10_cheapest_71 bp_m5 rfl ?_
            exact ex_iret dX10_cheapest_73 rfl (hR _ _ (Option.some.inj hf).symm)
      · replace hf := if_f hc6 hf
        refine ex_iconst (v := (-1)) (pc' := 29) dX10_cheapest_28 ic_m1 rfl ?_
        exact ex_iret dX10_cheapest_29 rfl (hR _ _ (Option.some.inj hf).symm)
set_option maxRecDepth 100000 in
set_option maxHeartbeats 4000000 in
theorem k_X10_cheapest (G : GX) {X : MX} (hM : shX10 X) {v1 : Int32} {v2 : Int32} {v3 : Int32}  {N : Nat} {I : MI} {L : ML} {z : Int32} {I' : MI} (hf : f_X10_cheapest N v1 v2 v3 I = some (z, I')) : Con G mX10_cheapest yX10_cheapest rmX10_cheapest (fun B => [.ref (B + 0), .int v1, .int v2, .int v3]) X I L (some (.int z)) X I' L :=
  Con.of (by decide) rfl (fun h => by cases h) (fun B => Nat.le_of_ble_eq_true rfl) (fun G => kb_X10_cheapest hM  hf (fun _ _ he => by cases he; rfl))
theorem cl_X10_122 : CLV RX10 122 yX6_wipe mX6_wipe none 0 := ⟨⟨lwg_at 389 (by decide +kernel) rfl, lwg_at 390 (by decide +kernel) rfl, lwg_at 391 (by decide +kernel) rfl, lwg_at 52 (by decide +kernel) rfl⟩, lwg_at 392 (by decide +kernel) rfl, ⟨by decide +kernel, by decide +kernel, by decide +kernel⟩⟩
-- X10_clear ('RookWords', 'clear', '()I')
def rmX10_clear : RM := ((2, 44, 0, 0), false, (some FieldType.int))
def f_X10_clear (N : Nat)  (L : ML) : Option (Int32 × ML) := bnd1 (f_X6_notZero N 3 L) fun r1 => bnd1 (f_X6_wipe N 3 L) fun L3 => some (r1, L3)
set_option maxRecDepth 100000 in
set_option maxHeartbeats 4000000 in
theorem kb_X10_clear {G : GX} {Q : State → Prop} {X : MX} (hM : shX10 X)   {N : Nat} {I : MI} {L : ML} {out : Int32 × ML} (hf : f_X10_clear N L = some out) (hR : ∀ (z : Int32) (L' : ML), out = (z, L') → Q = RetQ G (some (.int z)) X I L' (0, 0)) : Ex G mX10_clear rmX10_clear Q (0, 0) X I L 0 [(0, .ref (gB G + 0))] [] := by
  unfold f_X10_clear at hf
  refine ex_aload_n 0 (pc' := 1) dX10_clear_0 rfl rfl rfl ?_
  refine ex_getR (pc' := 4) dX10_clear_1 fl_X10_12 rfl (sh10_k hM) (sh10_F0 hM) rfl ?_
  refine ex_getR (pc' := 7) dX10_clear_4 fl_X10_113 rfl (sh5_k (sh10_T0 hM)) (sh5_F1 (sh10_T0 hM)) rfl ?_
  obtain ⟨r1, hq2, hf⟩ := of_bnd1 hf
  refine ex_callV_i (rm' := rmX6_notZero) (st := []) (pc' := 10) [] dX10_clear_7 cl_X10_117 (k_X6_notZero G (sh5_T1 (sh10_T0 hM)) hq2) rfl (sh6_k (sh5_T1 (sh10_T0 hM))) ⟨_, _, rfl⟩ rfl rfl (ROOM_of rfl) (Nat.le_of_ble_eq_true rfl) rfl rfl ?_
  refine ex_istore_n (lv' := [(1, .int r1), (0, .ref (gB G + 0))]) (pc' := 11) dX10_clear_10 rfl (Nat.le_of_ble_eq_true rfl) rfl rfl ?_
  refine ex_aload_n 1 (pc' := 12) dX10_clear_11 rfl rfl rfl ?_
  refine ex_getR (pc' := 15) dX10_clear_12 fl_X10_12 rfl (sh10_k hM) (sh10_F0 hM) rfl ?_
  refine ex_getR (pc' := 18) dX10_clear_15 fl_X10_113 rfl (sh5_k (sh10_T0 hM)) (sh5_F1 (sh10_T0 hM)) rfl ?_
  obtain ⟨L3, hq4, hf⟩ := of_bnd1 hf
  refine ex_callV_v (rm' := rmX6_wipe) (st := []) (pc' := 21) [] dX10_clear_18 cl_X10_122 (k_X6_wipe G (sh5_T1 (sh10_T0 hM)) hq4) rfl (sh6_k (sh5_T1 (sh10_T0 hM))) ⟨_, _, rfl⟩ rfl rfl (ROOM_of rfl) (Nat.le_of_ble_eq_true rfl) rfl rfl ?_
  refine ex_iload_n 0 (pc' := 22) dX10_clear_21 rfl rfl rfl ?_
  exact ex_iret dX10_clear_22 rfl (hR _ _ (Option.some.inj hf).symm)
set_option maxRecDepth 100000 in
set_option maxHeartbeats 4000000 in
theorem k_X10_clear (G : GX) {X : MX} (hM : shX10 X)   {N : Nat} {I : MI} {L : ML} {z : Int32} {L' : ML} (hf : f_X10_clear N L = some (z, L')) : Con G mX10_clear yX10_clear rmX10_clear (fun B => [.ref (B + 0)]) X I L (some (.int z)) X I L' :=
  Con.of (by decide) rfl (fun h => by cases h) (fun B => Nat.le_of_ble_eq_true rfl) (fun G => kb_X10_clear hM  hf (fun _ _ he => by cases he; rfl))
theorem cl_X10_210 : CLV RX10 210 yX4_countsOf mX4_countsOf (some (FieldType.array FieldType.int)) 1 := ⟨⟨lwg_at 640 (by decide +kernel) rfl, lwg_at 641 (by decide +kernel) rfl, lwg_at 642 (by decide +kernel) rfl, lwg_at 60 (by decide +kernel) rfl⟩, lwg_at 643 (by decide +kernel) rfl, ⟨by decide +kernel, by decide +kernel, by decide +kernel⟩⟩
-- X10_count ('RookWords', 'count', '(II)I')
def rmX10_count : RM := ((2, 49, 0, 0), false, (some FieldType.int))
def f_X10_count (N : Nat) (v1 : Int32) (v2 : Int32) (I : MI) : Option (Int32 × MI) := bnd1 (f_X10_isPiece v1) fun r1 => (if r1 = 0 then some ((-1), I) else (if v2 < 0 then some ((-1), I) else (if 6 < v2 then some (0, I) else if inb v1 6 then bnd1 (f_X4_countsOf N (12 + 4 * (Int32.toNatClampNeg v1)) I) fun I7 => if inb v2 7 then some (I7 93 (Int32.toNatClampNeg v2), I7) else none else none)))
set_option maxRecDepth 100000 in
set_option maxHeartbeats 4000000 in
theorem kb_X10_count {G : GX} {Q : State → Prop} {X : MX} (hM : shX10 X) {v1 : Int32} {v2 : Int32}  {N : Nat} {I : MI} {L : ML} {out : Int32 × MI} (hf : f_X10_count N v1 v2 I = some out) (hR : ∀ (z : Int32) (I' : MI), out = (z, I') → Q = RetQ G (some (.int z)) X I' L (0, 0)) : Ex G mX10_count rmX10_count Q (0, 0) X I L 0 [(0, .ref (gB G + 0)), (1, .int v1), (2, .int v2)] [] := by
  unfold f_X10_count at hf
  refine ex_iload_n 1 (pc' := 1) dX10_count_0 rfl rfl rfl ?_
  obtain ⟨r1, hq2, hf⟩ := of_bnd1 hf
  refine ex_callS_i (rm' := rmX10_isPiece) (st := []) (pc' := 4) [.int v1] dX10_count_1 cl_X10_66 (k_X10_isPiece G hq2) rfl rfl rfl (ROOM_of rfl) (Nat.le_of_ble_eq_true rfl) rfl rfl ?_
  refine ex_ifeq (tgt := 11) (pc' := 7) dX10_count_4 (by decide) rfl (fun hc3 => ?_) (fun hc3 => ?_)
  · replace hf := if_t hc3 hf
    refine ex_iconst (v := (-1)) (pc' := 12) dX10_count_11 ic_m1 rfl ?_
    exact ex_iret dX10_count_12 rfl (hR _ _ (Option.some.inj hf).symm)
  · replace hf := if_f hc3 hf
    refine ex_iload_n 2 (pc' := 8) dX10_count_7 rfl rfl rfl ?_
    refine ex_ifge (tgt := 13) (pc' := 11) dX10_count_8 (by decide) rfl (fun hc4 => ?_) (fun hc4 => ?_)
    · replace hf := if_t hc4 hf
      refine ex_iconst (v := (-1)) (pc' := 12) dX10_count_11 ic_m1 rfl ?_
      exact ex_iret dX10_count_12 rfl (hR _ _ (Option.some.inj hf).symm)
    · replace hf := if_f hc4 hf
      refine ex_iload_n 2 (pc' := 14) dX10_count_13 rfl rfl rfl ?_
      refine ex_bipush (v := 6) (pc' := 16) dX10_count_14 bp_6 rfl ?_
      refine ex_icmple (tgt := 21) (pc' := 19) dX10_count_16 (by decide) rfl (fun hc5 => ?_) (fun hc5 => ?_)
      · replace hf := if_t hc5 hf
        refine ex_iconst (v := 0) (pc' := 20) dX10_count_19 ic_0 rfl ?_
        exact ex_iret dX10_count_20 rfl (hR _ _ (Option.some.inj hf).symm)
      · replace hf := if_f hc5 hf
        refine ex_aload_n 0 (pc' := 22) dX10_count_21 rfl rfl rfl ?_
        refine ex_getR (pc' := 25) dX10_count_22 fl_X10_52 rfl (sh10_k hM) (sh10_F7 hM) rfl ?_
        refine ex_aload_n 0 (pc' := 26) dX10_count_25 rfl rfl rfl ?_
        refine ex_getR (pc' := 29) dX10_count_26 fl_X10_12 rfl (sh10_k hM) (sh10_F0 hM) rfl ?_
        refine ex_getR (pc' := 32) dX10_count_29 fl_X10_143 rfl (sh5_k (sh10_T0 hM)) (sh5_F2 (sh10_T0 hM)) rfl ?_
        refine ex_iload_n 1 (pc' := 33) dX10_count_32 rfl rfl rfl ?_
        obtain ⟨hg6, hf⟩ := of_guard hf
        refine ex_aaldS (pc' := 34) dX10_count_33 (sh5_T2 (sh10_T0 hM)) (by decide) (by decide) (inb_in hg6) (sh5_E2 (sh10_T0 hM) _ (inb_lt hg6)) rfl ?_
        obtain ⟨I7, hq8, hf⟩ := of_bnd1 hf
        refine ex_callV_r (rm' := rmX4_countsOf) (st := []) (pc' := 37) [.ref (gB G + (12 + 4 * (Int32.toNatClampNeg v1)))] dX10_count_34 cl_X10_210 (k_X4_countsOf G hM (sh5_O2 (sh10_T0 hM) _ (inb_lt hg6)) hq8) rfl (sh4_k (sh10_T7 hM)) ⟨_, _, rfl⟩ rfl rfl (ROOM_of rfl) (Nat.le_of_ble_eq_true rfl) rfl rfl ?_
        refine ex_iload_n 2 (pc' := 38) dX10_count_37 rfl rfl rfl ?_
        obtain ⟨hg9, hf⟩ := of_guard hf
        refine ex_iald (pc' := 39) dX10_count_38 (sh4_T1 (sh10_T7 hM)) (inb_in hg9) rfl ?_
        exact ex_iret dX10_count_39 rfl (hR _ _ (Option.some.inj hf).symm)
set_option maxRecDepth 100000 in
set_option maxHeartbeats 4000000 in
theorem k_X10_count (G : GX) {X : MX} (hM : shX10 X) {v1 : Int32} {v2 : Int32}  {N : Nat} {I : MI} {L : ML} {z : Int32} {I' : MI} (hf : f_X10_count N v1 v2 I = some (z, I')) : Con G mX10_count yX10_count rmX10_count (fun B => [.ref (B + 0), .int v1, .int v2]) X I L (some (.int z)) X I' L :=
  Con.of (by decide) rfl (fun h => by cases h) (fun B => Nat.le_of_ble_eq_true rfl) (fun G => kb_X10_count hM  hf (fun _ _ he => by cases he; rfl))
-- X10_empty ('RookWords', 'empty', '(I)I')
def rmX10_empty : RM := ((1, 20, 0, 0), false, (some FieldType.int))
def f_X10_empty (v1 : Int32) (I : MI) : Option (Int32 × MI) := bnd1 (f_X10_isPiece v1) fun r1 => (if r1 = 0 then some ((-1), I) else if inb v1 6 then letv (I (10 + 4 * (Int32.toNatClampNeg v1)) 1) fun x5 => letv (upI I (10 + 4 * (Int32.toNatClampNeg v1)) 1 0) fun I6 => some (x5, I6) else none)
set_option maxRecDepth 100000 in
set_option maxHeartbeats 4000000 in
theorem kb_X10_empty {G : GX} {Q : State → Prop} {X : MX} (hM : shX10 X) {v1 : Int32}  {I : MI} {L : ML} {out : Int32 × MI} (hf : f_X10_empty v1 I = some out) (hR : ∀ (z : Int32) (I' : MI), out = (z, I') → Q = RetQ G (some (.int z)) X I' L (0, 0)) : Ex G mX10_empty rmX10_empty Q (0, 0) X I L 0 [(0, .ref (gB G + 0)), (1, .int v1)] [] := by
  unfold f_X10_empty at hf
  refine ex_iload_n 1 (pc' := 1) dX10_empty_0 rfl rfl rfl ?_
  obtain ⟨r1, hq2, hf⟩ := of_bnd1 hf
  refine ex_callS_i (rm' := rmX10_isPiece) (st := []) (pc' := 4) [.int v1] dX10_empty_1 cl_X10_66 (k_X10_isPiece G hq2) rfl rfl rfl (ROOM_of rfl) (Nat.le_of_ble_eq_true rfl) rfl rfl ?_
  refine ex_ifne (tgt := 9) (pc' := 7) dX10_empty_4 (by decide) rfl (fun hc3 => ?_) (fun hc3 => ?_)
  · replace hf := if_t hc3 hf
    refine ex_iconst (v := (-1)) (pc' := 8) dX10_empty_7 ic_m1 rfl ?_
    exact ex_iret dX10_empty_8 rfl (hR _ _ (Option.some.inj hf).symm)
  · replace hf := if_f hc3 hf
    refine ex_aload_n 0 (pc' := 10) dX10_empty_9 rfl rfl rfl ?_
    refine ex_getR (pc' := 13) dX10_empty_10 fl_X10_12 rfl (sh10_k hM) (sh10_F0 hM) rfl ?_
    refine ex_getR (pc' := 16) dX10_empty_13 fl_X10_70 rfl (sh5_k (sh10_T0 hM)) (sh5_F0 (sh10_T0 hM)) rfl ?_
    refine ex_iload_n 1 (pc' := 17) dX10_empty_16 rfl rfl rfl ?_
    obtain ⟨hg4, hf⟩ := of_guard hf
    refine ex_aaldS (pc' := 18) dX10_empty_17 (sh5_T0 (sh10_T0 hM)) (by decide) (by decide) (inb_in hg4) (sh5_E0 (sh10_T0 hM) _ (inb_lt hg4)) rfl ?_
    refine ex_astore_n (lv' := [(2, .ref (gB G + (10 + 4 * (Int32.toNatClampNeg v1)))), (0, .ref (gB G + 0)), (1, .int v1)]) (pc' := 19) dX10_empty_18 rfl (Nat.le_of_ble_eq_true rfl) rfl rfl ?_
    refine ex_aload_n 0 (pc' := 20) dX10_empty_19 rfl rfl rfl ?_
    refine ex_getI (pc' := 23) dX10_empty_20 fl_X10_83 rfl (sh9_k (sh5_O0 (sh10_T0 hM) _ (inb_lt hg4))) rfl ?_
    obtain ⟨x5, hx5, hf⟩ := of_let hf
    rw [← hx5]
    refine ex_istore_n (lv' := [(3, .int x5), (2, .ref (gB G + (10 + 4 * (Int32.toNatClampNeg v1)))), (0, .ref (gB G + 0)), (1, .int v1)]) (pc' := 24) dX10_empty_23 rfl (Nat.le_of_ble_eq_true rfl) rfl rfl ?_
    refine ex_aload_n 1 (pc' := 25) dX10_empty_24 rfl rfl rfl ?_
    refine ex_iconst (v := 0) (pc' := 26) dX10_empty_25 ic_0 rfl ?_
    refine ex_putI (pc' := 29) dX10_empty_26 fl_X10_83 rfl (sh9_k (sh5_O0 (sh10_T0 hM) _ (inb_lt hg4))) rfl ?_
    obtain ⟨I6, hI6, hf⟩ := of_let hf
    rw [← hI6]
    refine ex_iload_n 0 (pc' := 30) dX10_empty_29 rfl rfl rfl ?_
    exact ex_iret dX10_empty_30 rfl (hR _ _ (Option.some.inj hf).symm)
set_option maxRecDepth 100000 in
set_option maxHeartbeats 4000000 in
theorem k_X10_empty (G : GX) {X : MX} (hM : shX10 X) {v1 : Int32}  {I : MI} {L : ML} {z : Int32} {I' : MI} (hf : f_X10_empty v1 I = some (z, I')) : Con G mX10_empty yX10_empty rmX10_empty (fun B => [.ref (B + 0), .int v1]) X I L (some (.int z)) X I' L :=
  Con.of (by decide) rfl (fun h => by cases h) (fun B => Nat.le_of_ble_eq_true rfl) (fun G => kb_X10_empty hM  hf (fun _ _ he => by cases he; rfl))
-- X10_factored ('RookWords', 'factored', '(II)J')
def rmX10_factored : RM := ((2, 49, 0, 0), false, (some FieldType.long))
def f_X10_factored_b67 (N : Nat) (v2 : Int32) (a3 : Nat) (v5 : Int64) (v7 : Int32) (v8 : Int64) (v10 : Int32) (I : MI) : Option ((Int64 × Int32) ⊕ (Int64)) := (if v10 < ((I a3 0) - v7) then some (.inl (v8 * (Int32.toInt64 (v2 - v10)), v10 + 1)) else some (.inr v8))
set_option maxRecDepth 100000 in
set_option maxHeartbeats 4000000 in
theorem k_X10_factored_b67 {G : GX} {Q : State → Prop} {X : MX} (hM : shX10 X) {v2 : Int32} {a3 : Nat} {v5 : Int64} {v7 : Int32} (h3 : shX0 X a3) {v8 : Int64} {v10 : Int32} {N : Nat} {I : MI} {L : ML} {out : (Int64 × Int32) ⊕ (Int64)} (hf : f_X10_factored_b67 N v2 a3 v5 v7 v8 v10 I = some out) (hC : ∀ (v8' : Int64) (v10' : Int32), out = .inl (v8', v10') → Ex G mX10_factored rmX10_factored Q (0, 0) X I L 67 [(2, .int v2), (3, .ref (gB G + a3)), (4, .ref (gB G + 93)), (5, .long v5), (7, .int v7), (8, .long v8'), (10, .int v10')] []) (hX : ∀ (w8 : Int64), out = .inr w8 → Ex G mX10_factored rmX10_factored Q (0, 0) X I L 95 [(2, .int v2), (3, .ref (gB G + a3)), (4, .ref (gB G + 93)), (5, .long v5), (7, .int v7), (8, .long w8)] []) : Ex G mX10_factored rmX10_factored Q (0, 0) X I L 67 [(2, .int v2), (3, .ref (gB G + a3)), (4, .ref (gB G + 93)), (5, .long v5), (7, .int v7), (8, .long v8), (10, .int v10)] [] := by
  unfold f_X10_factored_b67 at hf
  refine ex_iload 6 (pc' := 69) dX10_factored_67 rfl rfl ?_
  refine ex_aload_n 1 (pc' := 70) dX10_factored_69 rfl rfl rfl ?_
  refine ex_getI (pc' := 73) dX10_factored_70 fl_X10_147 rfl (sh0_k h3) rfl ?_
  refine ex_iload 4 (pc' := 75) dX10_factored_73 rfl rfl ?_
  refine ex_isub (pc' := 76) dX10_factored_75 rfl ?_
  refine ex_icmpge (tgt := 95) (pc' := 79) dX10_factored_76 (by decide) rfl (fun hc12 => ?_) (fun hc12 => ?_)
  · replace hf := if_t hc12 hf
    refine ex_lload 5 (pc' := 81) dX10_factored_79 rfl rfl ?_
    refine ex_iload_n 0 (pc' := 82) dX10_factored_81 rfl rfl rfl ?_
    refine ex_iload 6 (pc' := 84) dX10_factored_82 rfl rfl ?_
    refine ex_isub (pc' := 85) dX10_factored_84 rfl ?_
    refine ex_i2l (pc' := 86) dX10_factored_85 rfl ?_
    refine ex_lmul (pc' := 87) dX10_factored_86 rfl ?_
    refine ex_lstore (lv' := [(8, .long (v8 * (Int32.toInt64 (v2 - v10)))), (2, .int v2), (3, .ref (gB G + a3)), (4, .ref (gB G + 93)), (5, .long v5), (7, .int v7), (10, .int v10)]) (pc' := 89) dX10_factored_87 (Nat.le_of_ble_eq_true rfl) rfl rfl ?_
    refine ex_iincc (lv' := [(10, .int (v10 + 1)), (8, .long (v8 * (Int32.toInt64 (v2 - v10)))), (2, .int v2), (3, .ref (gB G + a3)), (4, .ref (gB G + 93)), (5, .long v5), (7, .int v7)]) 6 (pc' := 92) dX10_factored_89 rfl ic_1 (Nat.le_of_ble_eq_true rfl) rfl rfl ?_
    refine ex_goto (tgt := 67) dX10_factored_92 (by decide) ?_
    exact ex_sub [2, 3, 4, 5, 6, 1, 0] rfl (hC _ _ (Option.some.inj hf).symm)
  · replace hf := if_f hc12 hf
    exact ex_sub [0, 1, 2, 3, 4, 5] rfl (hX _ (Option.some.inj hf).symm)
def f_X10_factored_l67 (N : Nat) (v2 : Int32) (a3 : Nat) (v5 : Int64) (v7 : Int32) (v8 : Int64) (v10 : Int32) (I : MI) : Option (Int64) := loopN (fun s => f_X10_factored_b67 N v2 a3 v5 v7 s.1 s.2 I) N (v8, v10)
set_option maxRecDepth 100000 in
set_option maxHeartbeats 4000000 in
theorem k_X10_factored_l67 {G : GX} {Q : State → Prop} {X : MX} (hM : shX10 X) {v2 : Int32} {a3 : Nat} {v5 : Int64} {v7 : Int32} (h3 : shX0 X a3) {N0 : Nat} {I : MI} {L : ML} {out : (Int64)} (hX : ∀ (w8 : Int64), out = w8 → Ex G mX10_factored rmX10_factored Q (0, 0) X I L 95 [(2, .int v2), (3, .ref (gB G + a3)), (4, .ref (gB G + 93)), (5, .long v5), (7, .int v7), (8, .long w8)] []) : ∀ (N : Nat) (v8 : Int64) (v10 : Int32), loopN (fun s => f_X10_factored_b67 N0 v2 a3 v5 v7 s.1 s.2 I) N (v8, v10) = some out → Ex G mX10_factored rmX10_factored Q (0, 0) X I L 67 [(2, .int v2), (3, .ref (gB G + a3)), (4, .ref (gB G + 93)), (5, .long v5), (7, .int v7), (8, .long v8), (10, .int v10)] [] := by
  intro N
  induction N with
  | zero => intro v8 v10 hf; exact absurd (loopN_zero hf) id
  | succ n ih =>
    intro v8 v10 hf
    rcases loopN_succ hf with ⟨s, hb, hl⟩ | hb
    · obtain ⟨v8', v10'⟩ := s
      refine k_X10_factored_b67 hM h3 hb (fun _ _ he => ?_) (fun _ he => by cases he)
      cases he
      exact ih v8' v10' hl
    · exact k_X10_factored_b67 hM h3 hb (fun _ _ he => by cases he) (fun x0 he => hX x0 (Sum.inr.inj he))
def f_X10_factored_b47 (N : Nat) (v2 : Int32) (a3 : Nat) (v5 : Int64) (v7 : Int32) (I : MI) : Option ((Int64 × Int32) ⊕ (Int64)) := (if (I a3 0) < v7 then some (.inr v5) else if inb v7 7 then letv (Int32.toInt64 (I 93 (Int32.toNatClampNeg v7))) fun x11 => bnd1 (f_X10_factored_l67 N v2 a3 v5 v7 x11 0 I) fun x13 => some (.inl (v5 + x13, v7 + 1)) else none)
set_option maxRecDepth 100000 in
set_option maxHeartbeats 4000000 in
theorem k_X10_factored_b47 {G : GX} {Q : State → Prop} {X : MX} (hM : shX10 X) {v2 : Int32} {a3 : Nat} (h3 : shX0 X a3) {v5 : Int64} {v7 : Int32} {N : Nat} {I : MI} {L : ML} {out : (Int64 × Int32) ⊕ (Int64)} (hf : f_X10_factored_b47 N v2 a3 v5 v7 I = some out) (hC : ∀ (v5' : Int64) (v7' : Int32), out = .inl (v5', v7') → Ex G mX10_factored rmX10_factored Q (0, 0) X I L 47 [(2, .int v2), (3, .ref (gB G + a3)), (4, .ref (gB G + 93)), (5, .long v5'), (7, .int v7')] []) (hX : ∀ (w5 : Int64), out = .inr w5 → Ex G mX10_factored rmX10_factored Q (0, 0) X I L 108 [(5, .long w5)] []) : Ex G mX10_factored rmX10_factored Q (0, 0) X I L 47 [(2, .int v2), (3, .ref (gB G + a3)), (4, .ref (gB G + 93)), (5, .long v5), (7, .int v7)] [] := by
  unfold f_X10_factored_b47 at hf
  refine ex_iload 4 (pc' := 49) dX10_factored_47 rfl rfl ?_
  refine ex_aload_n 1 (pc' := 50) dX10_factored_49 rfl rfl rfl ?_
  refine ex_getI (pc' := 53) dX10_factored_50 fl_X10_147 rfl (sh0_k h3) rfl ?_
  refine ex_icmpgt (tgt := 108) (pc' := 56) dX10_factored_53 (by decide) rfl (fun hc9 => ?_) (fun hc9 => ?_)
  · replace hf := if_t hc9 hf
    exact ex_sub [3] rfl (hX _ (Option.some.inj hf).symm)
  · replace hf := if_f hc9 hf
    refine ex_aload 2 (pc' := 58) dX10_factored_56 rfl rfl ?_
    refine ex_iload 4 (pc' := 60) dX10_factored_58 rfl rfl ?_
    obtain ⟨hg10, hf⟩ := of_guard hf
    refine ex_iald (pc' := 61) dX10_factored_60 (sh4_T1 (sh10_T7 hM)) (inb_in hg10) rfl ?_
    refine ex_i2l (pc' := 62) dX10_factored_61 rfl ?_
    obtain ⟨x11, hx11, hf⟩ := of_let hf
    rw [← hx11]
    refine ex_lstore (lv' := [(8, .long x11), (2, .int v2), (3, .ref (gB G + a3)), (4, .ref (gB G + 93)), (5, .long v5), (7, .int v7)]) (pc' := 64) dX10_factored_62 (Nat.le_of_ble_eq_true rfl) rfl rfl ?_
    refine ex_iconst (v := 0) (pc' := 65) dX10_factored_64 ic_0 rfl ?_
    refine ex_istore (lv' := [(10, .int 0), (8, .long x11), (2, .int v2), (3, .ref (gB G + a3)), (4, .ref (gB G + 93)), (5, .long v5), (7, .int v7)]) (pc' := 67) dX10_factored_65 (Nat.le_of_ble_eq_true rfl) rfl rfl ?_
    refine ex_sub (lv' := [(2, .int v2), (3, .ref (gB G + a3)), (4, .ref (gB G + 93)), (5, .long v5), (7, .int v7), (8, .long x11), (10, .int 0)]) [2, 3, 4, 5, 6, 1, 0] rfl ?_
    obtain ⟨x13, hq14, hf⟩ := of_bnd1 hf
    refine k_X10_factored_l67 hM h3 (fun x13' he => ?_) _ _ _ hq14
    cases he
    refine ex_lload 3 (pc' := 97) dX10_factored_95 rfl rfl ?_
    refine ex_lload 5 (pc' := 99) dX10_factored_97 rfl rfl ?_
    refine ex_ladd (pc' := 100) dX10_factored_99 rfl ?_
    refine ex_lstore (lv' := [(5, .long (v5 + x13)), (2, .int v2), (3, .ref (gB G + a3)), (4, .ref (gB G + 93)), (7, .int v7), (8, .long x13)]) (pc' := 102) dX10_factored_100 (Nat.le_of_ble_eq_true rfl) rfl rfl ?_
    refine ex_iincc (lv' := [(7, .int (v7 + 1)), (5, .long (v5 + x13)), (2, .int v2), (3, .ref (gB G + a3)), (4, .ref (gB G + 93)), (8, .long x13)]) 4 (pc' := 105) dX10_factored_102 rfl ic_1 (Nat.le_of_ble_eq_true rfl) rfl rfl ?_
    refine ex_goto (tgt := 47) dX10_factored_105 (by decide) ?_
    exact ex_sub [2, 3, 4, 1, 0] rfl (hC _ _ (Option.some.inj hf).symm)
def f_X10_factored_l47 (N : Nat) (v2 : Int32) (a3 : Nat) (v5 : Int64) (v7 : Int32) (I : MI) : Option (Int64) := loopN (fun s => f_X10_factored_b47 N v2 a3 s.1 s.2 I) N (v5, v7)
set_option maxRecDepth 100000 in
set_option maxHeartbeats 4000000 in
theorem k_X10_factored_l47 {G : GX} {Q : State → Prop} {X : MX} (hM : shX10 X) {v2 : Int32} {a3 : Nat} (h3 : shX0 X a3) {N0 : Nat} {I : MI} {L : ML} {out : (Int64)} (hX : ∀ (w5 : Int64), out = w5 → Ex G mX10_factored rmX10_factored Q (0, 0) X I L 108 [(5, .long w5)] []) : ∀ (N : Nat) (v5 : Int64) (v7 : Int32), loopN (fun s => f_X10_factored_b47 N0 v2 a3 s.1 s.2 I) N (v5, v7) = some out → Ex G mX10_factored rmX10_factored Q (0, 0) X I L 47 [(2, .int v2), (3, .ref (gB G + a3)), (4, .ref (gB G + 93)), (5, .long v5), (7, .int v7)] [] := by
  intro N
  induction N with
  | zero => intro v5 v7 hf; exact absurd (loopN_zero hf) id
  | succ n ih =>
    intro v5 v7 hf
    rcases loopN_succ hf with ⟨s, hb, hl⟩ | hb
    · obtain ⟨v5', v7'⟩ := s
      refine k_X10_factored_b47 hM h3 hb (fun _ _ he => ?_) (fun _ he => by cases he)
      cases he
      exact ih v5' v7' hl
    · exact k_X10_factored_b47 hM h3 hb (fun _ _ he => by cases he) (fun x0 he => hX x0 (Sum.inr.inj he))
def f_X10_factored (N : Nat) (v1 : Int32) (v2 : Int32) (I : MI) : Option (Int64 × MI) := bnd1 (f_X10_isPiece v1) fun r1 => (if r1 = 0 then some ((-9223372036854775808), I) else (if v2 < 0 then some ((-9223372036854775808), I) else (if 20 < v2 then some ((-9223372036854775808), I) else if inb v1 6 then bnd1 (f_X4_countsOf N (12 + 4 * (Int32.toNatClampNeg v1)) I) fun I7 => bnd1 (f_X10_factored_l47 N v2 (12 + 4 * (Int32.toNatClampNeg v1)) 0 0 I7) fun x15 => some (x15, I7) else none)))
set_option maxRecDepth 100000 in
set_option maxHeartbeats 4000000 in
theorem kb_X10_factored {G : GX} {Q : State → Prop} {X : MX} (hM : shX10 X) {v1 : Int32} {v2 : Int32}  {N : Nat} {I : MI} {L : ML} {out : Int64 × MI} (hf : f_X10_factored N v1 v2 I = some out) (hR : ∀ (z : Int64) (I' : MI), out = (z, I') → Q = RetQ G (some (.long z)) X I' L (0, 0)) : Ex G mX10_factored rmX10_factored Q (0, 0) X I L 0 [(0, .ref (gB G + 0)), (1, .int v1), (2, .int v2)] [] := by
  unfold f_X10_factored at hf
  refine ex_iload_n 1 (pc' := 1) dX10_factored_0 rfl rfl rfl ?_
  obtain ⟨r1, hq2, hf⟩ := of_bnd1 hf
  refine ex_callS_i (rm' := rmX10_isPiece) (st := []) (pc' := 4) [.int v1] dX10_factored_1 cl_X10_66 (k_X10_isPiece G hq2) rfl rfl rfl (ROOM_of rfl) (Nat.le_of_ble_eq_true rfl) rfl rfl ?_
  refine ex_ifeq (tgt := 17) (pc' := 7) dX10_factored_4 (by decide) rfl (fun hc3 => ?_) (fun hc3 => ?_)
  · replace hf := if_t hc3 hf
    refine ex_ldc2 (v := (-9223372036854775808)) (pc' := 20) dX10_factored_17 co_X10_101 rfl ?_
    exact ex_lret dX10_factored_20 rfl (hR _ _ (Option.some.inj hf).symm)
  · replace hf := if_f hc3 hf
    refine ex_iload_n 2 (pc' := 8) dX10_factored_7 rfl rfl rfl ?_
    refine ex_iflt (tgt := 17) (pc' := 11) dX10_factored_8 (by decide) rfl (fun hc4 => ?_) (fun hc4 => ?_)
    · replace hf := if_t hc4 hf
      refine ex_ldc2 (v := (-9223372036854775808)) (pc' := 20) dX10_factored_17 co_X10_101 rfl ?_
      exact ex_lret dX10_factored_20 rfl (hR _ _ (Option.some.inj hf).symm)
    · replace hf := if_f hc4 hf
      refine ex_iload_n 2 (pc' := 12) dX10_factored_11 rfl rfl rfl ?_
      refine ex_bipush (v := 20) (pc' := 14) dX10_factored_12 bp_20 rfl ?_
      refine ex_icmple (tgt := 21) (pc' := 17) dX10_factored_14 (by decide) rfl (fun hc5 => ?_) (fun hc5 => ?_)
      · replace hf := if_t hc5 hf
        refine ex_ldc2 (v := (-9223372036854775808)) (pc' := 20) dX10_factored_17 co_X10_101 rfl ?_
        exact ex_lret dX10_factored_20 rfl (hR _ _ (Option.some.inj hf).symm)
      · replace hf := if_f hc5 hf
        refine ex_aload_n 0 (pc' := 22) dX10_factored_21 rfl rfl rfl ?_
        refine ex_getR (pc' := 25) dX10_factored_22 fl_X10_12 rfl (sh10_k hM) (sh10_F0 hM) rfl ?_
        refine ex_getR (pc' := 28) dX10_factored_25 fl_X10_143 rfl (sh5_k (sh10_T0 hM)) (sh5_F2 (sh10_T0 hM)) rfl ?_
        refine ex_iload_n 1 (pc' := 29) dX10_factored_28 rfl rfl rfl ?_
        obtain ⟨hg6, hf⟩ := of_guard hf
        refine ex_aaldS (pc' := 30) dX10_factored_29 (sh5_T2 (sh10_T0 hM)) (by decide) (by decide) (inb_in hg6) (sh5_E2 (sh10_T0 hM) _ (inb_lt hg6)) rfl ?_
        refine ex_astore_n (lv' := [(3, .ref (gB G + (12 + 4 * (Int32.toNatClampNeg v1)))), (0, .ref (gB G + 0)), (1, .int v1), (2, .int v2)]) (pc' := 31) dX10_factored_30 rfl (Nat.le_of_ble_eq_true rfl) rfl rfl ?_
        refine ex_aload_n 1 (pc' := 32) dX10_factored_31 rfl rfl rfl ?_
        refine ex_getR (pc' := 35) dX10_factored_32 fl_X10_52 rfl (sh10_k hM) (sh10_F7 hM) rfl ?_
        refine ex_aload_n 0 (pc' := 36) dX10_factored_35 rfl rfl rfl ?_
        obtain ⟨I7, hq8, hf⟩ := of_bnd1 hf
        refine ex_callV_r (rm' := rmX4_countsOf) (st := []) (pc' := 39) [.ref (gB G + (12 + 4 * (Int32.toNatClampNeg v1)))] dX10_factored_36 cl_X10_210 (k_X4_countsOf G hM (sh5_O2 (sh10_T0 hM) _ (inb_lt hg6)) hq8) rfl (sh4_k (sh10_T7 hM)) ⟨_, _, rfl⟩ rfl rfl (ROOM_of rfl) (Nat.le_of_ble_eq_true rfl) rfl rfl ?_
        refine ex_astore (lv' := [(4, .ref (gB G + 93)), (3, .ref (gB G + (12 + 4 * (Int32.toNatClampNeg v1)))), (0, .ref (gB G + 0)), (1, .int v1), (2, .int v2)]) (pc' := 41) dX10_factored_39 (Nat.le_of_ble_eq_true rfl) rfl rfl ?_
        refine ex_lconst (v := 0) (pc' := 42) dX10_factored_41 lc_0 rfl ?_
        refine ex_lstore (lv' := [(5, .long 0), (4, .ref (gB G + 93)), (3, .ref (gB G + (12 + 4 * (Int32.toNatClampNeg v1)))), (0, .ref (gB G + 0)), (1, .int v1), (2, .int v2)]) (pc' := 44) dX10_factored_42 (Nat.le_of_ble_eq_true rfl) rfl rfl ?_
        refine ex_iconst (v := 0) (pc' := 45) dX10_factored_44 ic_0 rfl ?_
        refine ex_istore (lv' := [(7, .int 0), (5, .long 0), (4, .ref (gB G + 93)), (3, .ref (gB G + (12 + 4 * (Int32.toNatClampNeg v1)))), (0, .ref (gB G + 0)), (1, .int v1), (2, .int v2)]) (pc' := 47) dX10_factored_45 (Nat.le_of_ble_eq_true rfl) rfl rfl ?_
        refine ex_sub (lv' := [(2, .int v2), (3, .ref (gB G + (12 + 4 * (Int32.toNatClampNeg v1)))), (4, .ref (gB G + 93)), (5, .long 0), (7, .int 0)]) [6, 3, 2, 1, 0] rfl ?_
        obtain ⟨x15, hq16, hf⟩ := of_bnd1 hf
        refine k_X10_factored_l47 hM (sh5_O2 (sh10_T0 hM) _ (inb_lt hg6)) (fun x15' he => ?_) _ _ _ hq16
        cases he
        refine ex_lload 0 (pc' := 110) dX10_factored_108 rfl rfl ?_
        exact ex_lret dX10_factored_110 rfl (hR _ _ (Option.some.inj hf).symm)
set_option maxRecDepth 100000 in
set_option maxHeartbeats 4000000 in
theorem k_X10_factored (G : GX) {X : MX} (hM : shX10 X) {v1 : Int32} {v2 : Int32}  {N : Nat} {I : MI} {L : ML} {z : Int64} {I' : MI} (hf : f_X10_factored N v1 v2 I = some (z, I')) : Con G mX10_factored yX10_factored rmX10_factored (fun B => [.ref (B + 0), .int v1, .int v2]) X I L (some (.long z)) X I' L :=
  Con.of (by decide) rfl (fun h => by cases h) (fun B => Nat.le_of_ble_eq_true rfl) (fun G => kb_X10_factored hM  hf (fun _ _ he => by cases he; rfl))
theorem bp_127 : (Int8.ofInt 127).toInt32 = 127 := by decide
theorem fl_X10_31 : FLD RX10 31 10 4 true := ⟨RX10, TX10, 10, rfl, inX10, by decide, lwg_at 278 (by decide +kernel) rfl, nmX10, tyX10_ok, rfl, rfl⟩
theorem cl_X10_300 : CLV RX10 300 yX8_push mX8_push (some FieldType.boolean) 1 := ⟨⟨lwg_at 799 (by decide +kernel) rfl, lwg_at 800 (by decide +kernel) rfl, lwg_at 801 (by decide +kernel) rfl, lwg_at 57 (by decide +kernel) rfl⟩, lwg_at 802 (by decide +kernel) rfl, ⟨by decide +kernel, by decide +kernel, by decide +kernel⟩⟩
theorem fl_X10_302 : FLD RX10 302 8 1 false := ⟨RX8, TX8, 4, rfl, inX8, by decide, lwg_at 202 (by decide +kernel) rfl, nmX8, tyX8_ok, rfl, rfl⟩
-- X10_feed ('RookWords', 'feed', '(I)I')
def rmX10_feed : RM := ((1, 21, 0, 0), false, (some FieldType.int))
def f_X10_feed (v1 : Int32) (I : MI) : Option (Int32 × MI) := (if v1 < 0 then some ((-2), I) else (if 127 < v1 then some ((-2), I) else bnd2 (f_X8_push v1 I) fun r3 I4 => (if r3 = 0 then some ((-4), I4) else some (I4 72 1, I4))))
set_option maxRecDepth 100000 in
set_option maxHeartbeats 4000000 in
theorem kb_X10_feed {G : GX} {Q : State → Prop} {X : MX} (hM : shX10 X) {v1 : Int32}  {I : MI} {L : ML} {out : Int32 × MI} (hf : f_X10_feed v1 I = some out) (hR : ∀ (z : Int32) (I' : MI), out = (z, I') → Q = RetQ G (some (.int z)) X I' L (0, 0)) : Ex G mX10_feed rmX10_feed Q (0, 0) X I L 0 [(0, .ref (gB G + 0)), (1, .int v1)] [] := by
  unfold f_X10_feed at hf
  refine ex_iload_n 1 (pc' := 1) dX10_feed_0 rfl rfl rfl ?_
  refine ex_iflt (tgt := 10) (pc' := 4) dX10_feed_1 (by decide) rfl (fun hc1 => ?_) (fun hc1 => ?_)
  · replace hf := if_t hc1 hf
    refine ex_bipush (v := (-2)) (pc' := 12) dX10_feed_10 bp_m2 rfl ?_
    exact ex_iret dX10_feed_12 rfl (hR _ _ (Option.some.inj hf).symm)
  · replace hf := if_f hc1 hf
    refine ex_iload_n 1 (pc' := 5) dX10_feed_4 rfl rfl rfl ?_
    refine ex_bipush (v := 127) (pc' := 7) dX10_feed_5 bp_127 rfl ?_
    refine ex_icmple (tgt := 13) (pc' := 10) dX10_feed_7 (by decide) rfl (fun hc2 => ?_) (fun hc2 => ?_)
    · replace hf := if_t hc2 hf
      refine ex_bipush (v := (-2)) (pc' := 12) dX10_feed_10 bp_m2 rfl ?_
      exact ex_iret dX10_feed_12 rfl (hR _ _ (Option.some.inj hf).symm)
    · replace hf := if_f hc2 hf
      refine ex_aload_n 0 (pc' := 14) dX10_feed_13 rfl rfl rfl ?_
      refine ex_getR (pc' := 17) dX10_feed_14 fl_X10_31 rfl (sh10_k hM) (sh10_F4 hM) rfl ?_
      refine ex_iload_n 1 (pc' := 18) dX10_feed_17 rfl rfl rfl ?_
      obtain ⟨r3, I4, hq5, hf⟩ := of_bnd2 hf
      refine ex_callV_i (rm' := rmX8_push) (st := []) (pc' := 21) [.int v1] dX10_feed_18 cl_X10_300 (k_X8_push G hM hq5) rfl (sh8_k (sh10_T4 hM)) ⟨_, _, rfl⟩ rfl rfl (ROOM_of rfl) (Nat.le_of_ble_eq_true rfl) rfl rfl ?_
      refine ex_ifeq (tgt := 34) (pc' := 24) dX10_feed_21 (by decide) rfl (fun hc6 => ?_) (fun hc6 => ?_)
      · replace hf := if_t hc6 hf
        refine ex_bipush (v := (-4)) (pc' := 36) dX10_feed_34 bp_m4 rfl ?_
        exact ex_iret dX10_feed_36 rfl (hR _ _ (Option.some.inj hf).symm)
      · replace hf := if_f hc6 hf
        refine ex_aload_n 0 (pc' := 25) dX10_feed_24 rfl rfl rfl ?_
        refine ex_getR (pc' := 28) dX10_feed_25 fl_X10_31 rfl (sh10_k hM) (sh10_F4 hM) rfl ?_
        refine ex_getI (pc' := 31) dX10_feed_28 fl_X10_302 rfl (sh8_k (sh10_T4 hM)) rfl ?_
        refine ex_goto (tgt := 36) dX10_feed_31 (by decide) ?_
        exact ex_iret dX10_feed_36 rfl (hR _ _ (Option.some.inj hf).symm)
set_option maxRecDepth 100000 in
set_option maxHeartbeats 4000000 in
theorem k_X10_feed (G : GX) {X : MX} (hM : shX10 X) {v1 : Int32}  {I : MI} {L : ML} {z : Int32} {I' : MI} (hf : f_X10_feed v1 I = some (z, I')) : Con G mX10_feed yX10_feed rmX10_feed (fun B => [.ref (B + 0), .int v1]) X I L (some (.int z)) X I' L :=
  Con.of (by decide) rfl (fun h => by cases h) (fun B => Nat.le_of_ble_eq_true rfl) (fun G => kb_X10_feed hM  hf (fun _ _ he => by cases he; rfl))
theorem cl_X10_189 : CLV RX10 189 yX0_becomeFlipped mX0_becomeFlipped none 0 := ⟨⟨lwg_at 548 (by decide +kernel) rfl, lwg_at 549 (by decide +kernel) rfl, lwg_at 550 (by decide +kernel) rfl, lwg_at 54 (by decide +kernel) rfl⟩, lwg_at 551 (by decide +kernel) rfl, ⟨by decide +kernel, by decide +kernel, by decide +kernel⟩⟩
-- X10_flipped ('RookWords', 'flipped', '(I)I')
def rmX10_flipped : RM := ((2, 42, 0, 0), false, (some FieldType.int))
def f_X10_flipped (N : Nat) (v1 : Int32) (I : MI) : Option (Int32 × MI) := bnd1 (f_X10_isPiece v1) fun r1 => (if r1 = 0 then some ((-1), I) else if inb v1 6 then bnd1 (f_X0_becomeFlipped N (12 + 4 * (Int32.toNatClampNeg v1)) I) fun I5 => bnd1 (f_X1_forget I5) fun I7 => bnd1 (f_X0_cells N (12 + 4 * (Int32.toNatClampNeg v1)) I7) fun r9 => some (r9, I7) else none)
set_option maxRecDepth 100000 in
set_option maxHeartbeats 4000000 in
theorem kb_X10_flipped {G : GX} {Q : State → Prop} {X : MX} (hM : shX10 X) {v1 : Int32}  {N : Nat} {I : MI} {L : ML} {out : Int32 × MI} (hf : f_X10_flipped N v1 I = some out) (hR : ∀ (z : Int32) (I' : MI), out = (z, I') → Q = RetQ G (some (.int z)) X I' L (0, 0)) : Ex G mX10_flipped rmX10_flipped Q (0, 0) X I L 0 [(0, .ref (gB G + 0)), (1, .int v1)] [] := by
  unfold f_X10_flipped at hf
  refine ex_iload_n 1 (pc' := 1) dX10_flipped_0 rfl rfl rfl ?_
  obtain ⟨r1, hq2, hf⟩ := of_bnd1 hf
  refine ex_callS_i (rm' := rmX10_isPiece) (st := []) (pc' := 4) [.int v1] dX10_flipped_1 cl_X10_66 (k_X10_isPiece G hq2) rfl rfl rfl (ROOM_of rfl) (Nat.le_of_ble_eq_true rfl) rfl rfl ?_
  refine ex_ifne (tgt := 9) (pc' := 7) dX10_flipped_4 (by decide) rfl (fun hc3 => ?_) (fun hc3 => ?_)
  · replace hf := if_t hc3 hf
    refine ex_iconst (v := (-1)) (pc' := 8) dX10_flipped_7 ic_m1 rfl ?_
    exact ex_iret dX10_flipped_8 rfl (hR _ _ (Option.some.inj hf).symm)
  · replace hf := if_f hc3 hf
    refine ex_aload_n 0 (pc' := 10) dX10_flipped_9 rfl rfl rfl ?_
    refine ex_getR (pc' := 13) dX10_flipped_10 fl_X10_12 rfl (sh10_k hM) (sh10_F0 hM) rfl ?_
    refine ex_getR (pc' := 16) dX10_flipped_13 fl_X10_143 rfl (sh5_k (sh10_T0 hM)) (sh5_F2 (sh10_T0 hM)) rfl ?_
    refine ex_iload_n 1 (pc' := 17) dX10_flipped_16 rfl rfl rfl ?_
    obtain ⟨hg4, hf⟩ := of_guard hf
    refine ex_aaldS (pc' := 18) dX10_flipped_17 (sh5_T2 (sh10_T0 hM)) (by decide) (by decide) (inb_in hg4) (sh5_E2 (sh10_T0 hM) _ (inb_lt hg4)) rfl ?_
    refine ex_astore_n (lv' := [(2, .ref (gB G + (12 + 4 * (Int32.toNatClampNeg v1)))), (0, .ref (gB G + 0)), (1, .int v1)]) (pc' := 19) dX10_flipped_18 rfl (Nat.le_of_ble_eq_true rfl) rfl rfl ?_
    refine ex_aload_n 0 (pc' := 20) dX10_flipped_19 rfl rfl rfl ?_
    obtain ⟨I5, hq6, hf⟩ := of_bnd1 hf
    refine ex_callV_v (rm' := rmX0_becomeFlipped) (st := []) (pc' := 23) [] dX10_flipped_20 cl_X10_189 (k_X0_becomeFlipped G (sh5_O2 (sh10_T0 hM) _ (inb_lt hg4)) hq6) rfl (sh0_k (sh5_O2 (sh10_T0 hM) _ (inb_lt hg4))) ⟨_, _, rfl⟩ rfl rfl (ROOM_of rfl) (Nat.le_of_ble_eq_true rfl) rfl rfl ?_
    refine ex_aload_n 1 (pc' := 24) dX10_flipped_23 rfl rfl rfl ?_
    refine ex_getR (pc' := 27) dX10_flipped_24 fl_X10_24 rfl (sh10_k hM) (sh10_F3 hM) rfl ?_
    obtain ⟨I7, hq8, hf⟩ := of_bnd1 hf
    refine ex_callV_v (rm' := rmX1_forget) (st := []) (pc' := 30) [] dX10_flipped_27 cl_X10_156 (k_X1_forget G hM hq8) rfl (sh1_k (sh10_T3 hM)) ⟨_, _, rfl⟩ rfl rfl (ROOM_of rfl) (Nat.le_of_ble_eq_true rfl) rfl rfl ?_
    refine ex_aload_n 0 (pc' := 31) dX10_flipped_30 rfl rfl rfl ?_
    obtain ⟨r9, hq10, hf⟩ := of_bnd1 hf
    refine ex_callV_i (rm' := rmX0_cells) (st := []) (pc' := 34) [] dX10_flipped_31 cl_X10_170 (k_X0_cells G (sh5_O2 (sh10_T0 hM) _ (inb_lt hg4)) hq10) rfl (sh0_k (sh5_O2 (sh10_T0 hM) _ (inb_lt hg4))) ⟨_, _, rfl⟩ rfl rfl (ROOM_of rfl) (Nat.le_of_ble_eq_true rfl) rfl rfl ?_
    exact ex_iret dX10_flipped_34 rfl (hR _ _ (Option.some.inj hf).symm)
set_option maxRecDepth 100000 in
set_option maxHeartbeats 4000000 in
theorem k_X10_flipped (G : GX) {X : MX} (hM : shX10 X) {v1 : Int32}  {N : Nat} {I : MI} {L : ML} {z : Int32} {I' : MI} (hf : f_X10_flipped N v1 I = some (z, I')) : Con G mX10_flipped yX10_flipped rmX10_flipped (fun B => [.ref (B + 0), .int v1]) X I L (some (.int z)) X I' L :=
  Con.of (by decide) rfl (fun h => by cases h) (fun B => Nat.le_of_ble_eq_true rfl) (fun G => kb_X10_flipped hM  hf (fun _ _ he => by cases he; rfl))
-- X10_greatestStanding ('RookWords', 'greatestStanding', '([I)I')
def rmX10_greatestStanding : RM := ((0, 0, 0, 0), false, (some FieldType.int))
def f_X10_greatestStanding_b4 (N : Nat) (a0 : Nat) (n0 : Nat) (v1 : Int32) (v2 : Int32) (I : MI) : Option ((Int32 × Int32) ⊕ (Int32)) := (if v2 < (Int32.ofNat n0) then if inb v2 n0 then (if (I a0 (Int32.toNatClampNeg v2)) = 0 then some (.inl (v1, v2 + 1)) else some (.inl (v2, v2 + 1))) else none else some (.inr v1))
set_option maxRecDepth 100000 in
set_option maxHeartbeats 4000000 in
theorem k_X10_greatestStanding_b4 {G : GX} {Q : State → Prop} {X : MX} {a0 : Nat} {n0 : Nat} (h0 : X.1 a0 = (2, n0)) {v1 : Int32} {v2 : Int32} {N : Nat} {I : MI} {L : ML} {out : (Int32 × Int32) ⊕ (Int32)} (hf : f_X10_greatestStanding_b4 N a0 n0 v1 v2 I = some out) (hC : ∀ (v1' : Int32) (v2' : Int32), out = .inl (v1', v2') → Ex G mX10_greatestStanding rmX10_greatestStanding Q (0, 0) X I L 4 [(0, .ref (gB G + a0)), (1, .int v1'), (2, .int v2')] []) (hX : ∀ (w1 : Int32), out = .inr w1 → Ex G mX10_greatestStanding rmX10_greatestStanding Q (0, 0) X I L 24 [(1, .int w1)] []) : Ex G mX10_greatestStanding rmX10_greatestStanding Q (0, 0) X I L 4 [(0, .ref (gB G + a0)), (1, .int v1), (2, .int v2)] [] := by
  unfold f_X10_greatestStanding_b4 at hf
  refine ex_iload_n 2 (pc' := 5) dX10_greatestStanding_4 rfl rfl rfl ?_
  refine ex_aload_n 0 (pc' := 6) dX10_greatestStanding_5 rfl rfl rfl ?_
  refine ex_alen (pc' := 7) dX10_greatestStanding_6 h0 (Or.inl rfl) rfl rfl ?_
  refine ex_icmpge (tgt := 24) (pc' := 10) dX10_greatestStanding_7 (by decide) rfl (fun hc1 => ?_) (fun hc1 => ?_)
  · replace hf := if_t hc1 hf
    refine ex_aload_n 0 (pc' := 11) dX10_greatestStanding_10 rfl rfl rfl ?_
    refine ex_iload_n 2 (pc' := 12) dX10_greatestStanding_11 rfl rfl rfl ?_
    obtain ⟨hg2, hf⟩ := of_guard hf
    refine ex_iald (pc' := 13) dX10_greatestStanding_12 h0 (inb_in hg2) rfl ?_
    refine ex_ifeq (tgt := 18) (pc' := 16) dX10_greatestStanding_13 (by decide) rfl (fun hc3 => ?_) (fun hc3 => ?_)
    · replace hf := if_t hc3 hf
      refine ex_iincc (lv' := [(2, .int (v2 + 1)), (0, .ref (gB G + a0)), (1, .int v1)]) 2 (pc' := 21) dX10_greatestStanding_18 rfl ic_1 (Nat.le_of_ble_eq_true rfl) rfl rfl ?_
      refine ex_goto (tgt := 4) dX10_greatestStanding_21 (by decide) ?_
      exact ex_sub [1, 2, 0] rfl (hC _ _ (Option.some.inj hf).symm)
    · replace hf := if_f hc3 hf
      refine ex_iload_n 2 (pc' := 17) dX10_greatestStanding_16 rfl rfl rfl ?_
      refine ex_istore_n (lv' := [(1, .int v2), (0, .ref (gB G + a0)), (2, .int v2)]) (pc' := 18) dX10_greatestStanding_17 rfl (Nat.le_of_ble_eq_true rfl) rfl rfl ?_
      refine ex_iincc (lv' := [(2, .int (v2 + 1)), (1, .int v2), (0, .ref (gB G + a0))]) 2 (pc' := 21) dX10_greatestStanding_18 rfl ic_1 (Nat.le_of_ble_eq_true rfl) rfl rfl ?_
      refine ex_goto (tgt := 4) dX10_greatestStanding_21 (by decide) ?_
      exact ex_sub [2, 1, 0] rfl (hC _ _ (Option.some.inj hf).symm)
  · replace hf := if_f hc1 hf
    exact ex_sub [1] rfl (hX _ (Option.some.inj hf).symm)
def f_X10_greatestStanding_l4 (N : Nat) (a0 : Nat) (n0 : Nat) (v1 : Int32) (v2 : Int32) (I : MI) : Option (Int32) := loopN (fun s => f_X10_greatestStanding_b4 N a0 n0 s.1 s.2 I) N (v1, v2)
set_option maxRecDepth 100000 in
set_option maxHeartbeats 4000000 in
theorem k_X10_greatestStanding_l4 {G : GX} {Q : State → Prop} {X : MX} {a0 : Nat} {n0 : Nat} (h0 : X.1 a0 = (2, n0)) {N0 : Nat} {I : MI} {L : ML} {out : (Int32)} (hX : ∀ (w1 : Int32), out = w1 → Ex G mX10_greatestStanding rmX10_greatestStanding Q (0, 0) X I L 24 [(1, .int w1)] []) : ∀ (N : Nat) (v1 : Int32) (v2 : Int32), loopN (fun s => f_X10_greatestStanding_b4 N0 a0 n0 s.1 s.2 I) N (v1, v2) = some out → Ex G mX10_greatestStanding rmX10_greatestStanding Q (0, 0) X I L 4 [(0, .ref (gB G + a0)), (1, .int v1), (2, .int v2)] [] := by
  intro N
  induction N with
  | zero => intro v1 v2 hf; exact absurd (loopN_zero hf) id
  | succ n ih =>
    intro v1 v2 hf
    rcases loopN_succ hf with ⟨s, hb, hl⟩ | hb
    · obtain ⟨v1', v2'⟩ := s
      refine k_X10_greatestStanding_b4 h0 hb (fun _ _ he => ?_) (fun _ he => by cases he)
      cases he
      exact ih v1' v2' hl
    · exact k_X10_greatestStanding_b4 h0 hb (fun _ _ he => by cases he) (fun x0 he => hX x0 (Sum.inr.inj he))
def f_X10_greatestStanding (N : Nat) (a0 : Nat) (n0 : Nat) (I : MI) : Option (Int32) := bnd1 (f_X10_greatestStanding_l4 N a0 n0 0 1 I) fun x4 => some x4
set_option maxRecDepth 100000 in
set_option maxHeartbeats 4000000 in
theorem kb_X10_greatestStanding {G : GX} {Q : State → Prop} {X : MX} {a0 : Nat} {n0 : Nat} (h0 : X.1 a0 = (2, n0)) {N : Nat} {I : MI} {L : ML} {out : Int32} (hf : f_X10_greatestStanding N a0 n0 I = some out) (hR : ∀ (z : Int32), out = z → Q = RetQ G (some (.int z)) X I L (0, 0)) : Ex G mX10_greatestStanding rmX10_greatestStanding Q (0, 0) X I L 0 [(0, .ref (gB G + a0))] [] := by
  unfold f_X10_greatestStanding at hf
  refine ex_iconst (v := 0) (pc' := 1) dX10_greatestStanding_0 ic_0 rfl ?_
  refine ex_istore_n (lv' := [(1, .int 0), (0, .ref (gB G + a0))]) (pc' := 2) dX10_greatestStanding_1 rfl (Nat.le_of_ble_eq_true rfl) rfl rfl ?_
  refine ex_iconst (v := 1) (pc' := 3) dX10_greatestStanding_2 ic_1 rfl ?_
  refine ex_istore_n (lv' := [(2, .int 1), (1, .int 0), (0, .ref (gB G + a0))]) (pc' := 4) dX10_greatestStanding_3 rfl (Nat.le_of_ble_eq_true rfl) rfl rfl ?_
  refine ex_sub (lv' := [(0, .ref (gB G + a0)), (1, .int 0), (2, .int 1)]) [2, 1, 0] rfl ?_
  obtain ⟨x4, hq5, hf⟩ := of_bnd1 hf
  refine k_X10_greatestStanding_l4 h0 (fun x4' he => ?_) _ _ _ hq5
  cases he
  refine ex_iload_n 0 (pc' := 25) dX10_greatestStanding_24 rfl rfl rfl ?_
  exact ex_iret dX10_greatestStanding_25 rfl (hR _ (Option.some.inj hf).symm)
set_option maxRecDepth 100000 in
set_option maxHeartbeats 4000000 in
theorem k_X10_greatestStanding (G : GX) {X : MX} {a0 : Nat} {n0 : Nat} (h0 : X.1 a0 = (2, n0)) {N : Nat} {I : MI} {L : ML} {z : Int32} (hf : f_X10_greatestStanding N a0 n0 I = some z) : Con G mX10_greatestStanding yX10_greatestStanding rmX10_greatestStanding (fun B => [.ref (B + a0)]) X I L (some (.int z)) X I L :=
  Con.of (by decide) rfl (fun h => by cases h) (fun B => Nat.le_of_ble_eq_true rfl) (fun G => kb_X10_greatestStanding h0 hf (fun _ he => by cases he; rfl))
theorem cl_X10_218 : CLV RX10 218 yX4_hitsOf mX4_hitsOf (some FieldType.int) 2 := ⟨⟨lwg_at 661 (by decide +kernel) rfl, lwg_at 662 (by decide +kernel) rfl, lwg_at 663 (by decide +kernel) rfl, lwg_at 60 (by decide +kernel) rfl⟩, lwg_at 664 (by decide +kernel) rfl, ⟨by decide +kernel, by decide +kernel, by decide +kernel⟩⟩
-- X10_hits ('RookWords', 'hits', '(II)I')
def rmX10_hits : RM := ((3, 75, 0, 0), false, (some FieldType.int))
def f_X10_hits (N : Nat) (v1 : Int32) (v2 : Int32) (I : MI) : Option (Int32 × MI) := bnd1 (f_X10_isPiece v1) fun r1 => (if r1 = 0 then some ((-1), I) else (if v2 < 0 then some ((-1), I) else (if 6 < v2 then some (0, I) else if inb v1 6 then bnd2 (f_X4_hitsOf N (12 + 4 * (Int32.toNatClampNeg v1)) v2 I) fun r7 I8 => some (r7, I8) else none)))
set_option maxRecDepth 100000 in
set_option maxHeartbeats 4000000 in
theorem kb_X10_hits {G : GX} {Q : State → Prop} {X : MX} (hM : shX10 X) {v1 : Int32} {v2 : Int32}  {N : Nat} {I : MI} {L : ML} {out : Int32 × MI} (hf : f_X10_hits N v1 v2 I = some out) (hR : ∀ (z : Int32) (I' : MI), out = (z, I') → Q = RetQ G (some (.int z)) X I' L (0, 0)) : Ex G mX10_hits rmX10_hits Q (0, 0) X I L 0 [(0, .ref (gB G + 0)), (1, .int v1), (2, .int v2)] [] := by
  unfold f_X10_hits at hf
  refine ex_iload_n 1 (pc' := 1) dX10_hits_0 rfl rfl rfl ?_
  obtain ⟨r1, hq2, hf⟩ := of_bnd1 hf
  refine ex_callS_i (rm' := rmX10_isPiece) (st := []) (pc' := 4) [.int v1] dX10_hits_1 cl_X10_66 (k_X10_isPiece G hq2) rfl rfl rfl (ROOM_of rfl) (Nat.le_of_ble_eq_true rfl) rfl rfl ?_
  refine ex_ifeq (tgt := 11) (pc' := 7) dX10_hits_4 (by decide) rfl (fun hc3 => ?_) (fun hc3 => ?_)
  · replace hf := if_t hc3 hf
    refine ex_iconst (v := (-1)) (pc' := 12) dX10_hits_11 ic_m1 rfl ?_
    exact ex_iret dX10_hits_12 rfl (hR _ _ (Option.some.inj hf).symm)
  · replace hf := if_f hc3 hf
    refine ex_iload_n 2 (pc' := 8) dX10_hits_7 rfl rfl rfl ?_
    refine ex_ifge (tgt := 13) (pc' := 11) dX10_hits_8 (by decide) rfl (fun hc4 => ?_) (fun hc4 => ?_)
    · replace hf := if_t hc4 hf
      refine ex_iconst (v := (-1)) (pc' := 12) dX10_hits_11 ic_m1 rfl ?_
      exact ex_iret dX10_hits_12 rfl (hR _ _ (Option.some.inj hf).symm)
    · replace hf := if_f hc4 hf
      refine ex_iload_n 2 (pc' := 14) dX10_hits_13 rfl rfl rfl ?_
      refine ex_bipush (v := 6) (pc' := 16) dX10_hits_14 bp_6 rfl ?_
      refine ex_icmple (tgt := 21) (pc' := 19) dX10_hits_16 (by decide) rfl (fun hc5 => ?_) (fun hc5 => ?_)
      · replace hf := if_t hc5 hf
        refine ex_iconst (v := 0) (pc' := 20) dX10_hits_19 ic_0 rfl ?_
        exact ex_iret dX10_hits_20 rfl (hR _ _ (Option.some.inj hf).symm)
      · replace hf := if_f hc5 hf
        refine ex_aload_n 0 (pc' := 22) dX10_hits_21 rfl rfl rfl ?_
        refine ex_getR (pc' := 25) dX10_hits_22 fl_X10_52 rfl (sh10_k hM) (sh10_F7 hM) rfl ?_
        refine ex_aload_n 0 (pc' := 26) dX10_hits_25 rfl rfl rfl ?_
        refine ex_getR (pc' := 29) dX10_hits_26 fl_X10_12 rfl (sh10_k hM) (sh10_F0 hM) rfl ?_
        refine ex_getR (pc' := 32) dX10_hits_29 fl_X10_143 rfl (sh5_k (sh10_T0 hM)) (sh5_F2 (sh10_T0 hM)) rfl ?_
        refine ex_iload_n 1 (pc' := 33) dX10_hits_32 rfl rfl rfl ?_
        obtain ⟨hg6, hf⟩ := of_guard hf
        refine ex_aaldS (pc' := 34) dX10_hits_33 (sh5_T2 (sh10_T0 hM)) (by decide) (by decide) (inb_in hg6) (sh5_E2 (sh10_T0 hM) _ (inb_lt hg6)) rfl ?_
        refine ex_iload_n 2 (pc' := 35) dX10_hits_34 rfl rfl rfl ?_
        obtain ⟨r7, I8, hq9, hf⟩ := of_bnd2 hf
        refine ex_callV_i (rm' := rmX4_hitsOf) (st := []) (pc' := 38) [.ref (gB G + (12 + 4 * (Int32.toNatClampNeg v1))), .int v2] dX10_hits_35 cl_X10_218 (k_X4_hitsOf G hM (sh5_O2 (sh10_T0 hM) _ (inb_lt hg6)) hq9) rfl (sh4_k (sh10_T7 hM)) ⟨_, _, rfl⟩ rfl rfl (ROOM_of rfl) (Nat.le_of_ble_eq_true rfl) rfl rfl ?_
        exact ex_iret dX10_hits_38 rfl (hR _ _ (Option.some.inj hf).symm)
set_option maxRecDepth 100000 in
set_option maxHeartbeats 4000000 in
theorem k_X10_hits (G : GX) {X : MX} (hM : shX10 X) {v1 : Int32} {v2 : Int32}  {N : Nat} {I : MI} {L : ML} {z : Int32} {I' : MI} (hf : f_X10_hits N v1 v2 I = some (z, I')) : Con G mX10_hits yX10_hits rmX10_hits (fun B => [.ref (B + 0), .int v1, .int v2]) X I L (some (.int z)) X I' L :=
  Con.of (by decide) rfl (fun h => by cases h) (fun B => Nat.le_of_ble_eq_true rfl) (fun G => kb_X10_hits hM  hf (fun _ _ he => by cases he; rfl))
theorem fl_X10_18 : FLD RX10 18 10 1 true := ⟨RX10, TX10, 10, rfl, inX10, by decide, lwg_at 275 (by decide +kernel) rfl, nmX10, tyX10_ok, rfl, rfl⟩
theorem cl_X10_326 : CLV RX10 326 yX5_becomeLike mX5_becomeLike none 1 := ⟨⟨lwg_at 862 (by decide +kernel) rfl, lwg_at 863 (by decide +kernel) rfl, lwg_at 864 (by decide +kernel) rfl, lwg_at 51 (by decide +kernel) rfl⟩, lwg_at 865 (by decide +kernel) rfl, ⟨by decide +kernel, by decide +kernel, by decide +kernel⟩⟩
theorem fl_X10_329 : FLD RX10 329 10 2 false := ⟨RX10, TX10, 10, rfl, inX10, by decide, lwg_at 276 (by decide +kernel) rfl, nmX10, tyX10_ok, rfl, rfl⟩
theorem cl_X10_333 : CLV RX10 333 yX5_allLetters mX5_allLetters (some FieldType.int) 0 := ⟨⟨lwg_at 877 (by decide +kernel) rfl, lwg_at 878 (by decide +kernel) rfl, lwg_at 879 (by decide +kernel) rfl, lwg_at 51 (by decide +kernel) rfl⟩, lwg_at 880 (by decide +kernel) rfl, ⟨by decide +kernel, by decide +kernel, by decide +kernel⟩⟩
-- X10_image ('RookWords', 'image', '()I')
def rmX10_image : RM := ((3, 69, 0, 0), false, (some FieldType.int))
def f_X10_image (N : Nat)  (I : MI) (L : ML) : Option (Int32 × MI × ML) := bnd2 (f_X5_becomeLike N 34 1 I L) fun I1 L2 => letv (upI I1 0 2 1) fun I4 => bnd1 (f_X5_allLetters N 1 I4) fun r5 => some (r5, I4, L2)
set_option maxRecDepth 100000 in
set_option maxHeartbeats 4000000 in
theorem kb_X10_image {G : GX} {Q : State → Prop} {X : MX} (hM : shX10 X)   {N : Nat} {I : MI} {L : ML} {out : Int32 × MI × ML} (hf : f_X10_image N I L = some out) (hR : ∀ (z : Int32) (I' : MI) (L' : ML), out = (z, I', L') → Q = RetQ G (some (.int z)) X I' L' (0, 0)) : Ex G mX10_image rmX10_image Q (0, 0) X I L 0 [(0, .ref (gB G + 0))] [] := by
  unfold f_X10_image at hf
  refine ex_aload_n 0 (pc' := 1) dX10_image_0 rfl rfl rfl ?_
  refine ex_getR (pc' := 4) dX10_image_1 fl_X10_18 rfl (sh10_k hM) (sh10_F1 hM) rfl ?_
  refine ex_aload_n 0 (pc' := 5) dX10_image_4 rfl rfl rfl ?_
  refine ex_getR (pc' := 8) dX10_image_5 fl_X10_12 rfl (sh10_k hM) (sh10_F0 hM) rfl ?_
  obtain ⟨I1, L2, hq3, hf⟩ := of_bnd2 hf
  refine ex_callV_v (rm' := rmX5_becomeLike) (st := []) (pc' := 11) [.ref (gB G + 1)] dX10_image_8 cl_X10_326 (k_X5_becomeLike G (sh10_T1 hM) (sh10_T0 hM) hq3) rfl (sh5_k (sh10_T1 hM)) ⟨_, _, rfl⟩ rfl rfl (ROOM_of rfl) (Nat.le_of_ble_eq_true rfl) rfl rfl ?_
  refine ex_aload_n 0 (pc' := 12) dX10_image_11 rfl rfl rfl ?_
  refine ex_iconst (v := 1) (pc' := 13) dX10_image_12 ic_1 rfl ?_
  refine ex_putZ (pc' := 16) dX10_image_13 fl_X10_329 rfl (sh10_k hM) rfl ?_
  obtain ⟨I4, hI4, hf⟩ := of_let hf
  rw [← hI4]
  refine ex_aload_n 0 (pc' := 17) dX10_image_16 rfl rfl rfl ?_
  refine ex_getR (pc' := 20) dX10_image_17 fl_X10_12 rfl (sh10_k hM) (sh10_F0 hM) rfl ?_
  obtain ⟨r5, hq6, hf⟩ := of_bnd1 hf
  refine ex_callV_i (rm' := rmX5_allLetters) (st := []) (pc' := 23) [] dX10_image_20 cl_X10_333 (k_X5_allLetters G (sh10_T0 hM) hq6) rfl (sh5_k (sh10_T0 hM)) ⟨_, _, rfl⟩ rfl rfl (ROOM_of rfl) (Nat.le_of_ble_eq_true rfl) rfl rfl ?_
  exact ex_iret dX10_image_23 rfl (hR _ _ _ (Option.some.inj hf).symm)
set_option maxRecDepth 100000 in
set_option maxHeartbeats 4000000 in
theorem k_X10_image (G : GX) {X : MX} (hM : shX10 X)   {N : Nat} {I : MI} {L : ML} {z : Int32} {I' : MI} {L' : ML} (hf : f_X10_image N I L = some (z, I', L')) : Con G mX10_image yX10_image rmX10_image (fun B => [.ref (B + 0)]) X I L (some (.int z)) X I' L' :=
  Con.of (by decide) rfl (fun h => by cases h) (fun B => Nat.le_of_ble_eq_true rfl) (fun G => kb_X10_image hM  hf (fun _ _ _ he => by cases he; rfl))
-- X10_inLowestTerms ('RookWords', 'inLowestTerms', '(III)J')
def rmX10_inLowestTerms : RM := ((1, 21, 0, 0), false, (some FieldType.long))
def f_X10_inLowestTerms_b6 (N : Nat) (v0 : Int32) (v1 : Int32) (v2 : Int32) (v3 : Int32) : Option ((Int32) ⊕ (Int32)) := (if 1 < v3 then if v3 = 0 then none else (if (jrem v0 v3) = 0 then if v3 = 0 then none else (if (jrem v1 v3) = 0 then some (.inr v3) else some (.inl (v3 + (-1)))) else some (.inl (v3 + (-1)))) else some (.inr v3))
set_option maxRecDepth 100000 in
set_option maxHeartbeats 4000000 in
theorem k_X10_inLowestTerms_b6 {G : GX} {Q : State → Prop} {X : MX} {v0 : Int32} {v1 : Int32} {v2 : Int32}  {v3 : Int32} {N : Nat} {I : MI} {L : ML} {out : (Int32) ⊕ (Int32)} (hf : f_X10_inLowestTerms_b6 N v0 v1 v2 v3 = some out) (hC : ∀ (v3' : Int32), out = .inl v3' → Ex G mX10_inLowestTerms rmX10_inLowestTerms Q (0, 0) X I L 6 [(0, .int v0), (1, .int v1), (2, .int v2), (3, .int v3')] []) (hX : ∀ (w3 : Int32), out = .inr w3 → Ex G mX10_inLowestTerms rmX10_inLowestTerms Q (0, 0) X I L 29 [(0, .int v0), (1, .int v1), (2, .int v2), (3, .int w3)] []) : Ex G mX10_inLowestTerms rmX10_inLowestTerms Q (0, 0) X I L 6 [(0, .int v0), (1, .int v1), (2, .int v2), (3, .int v3)] [] := by
  unfold f_X10_inLowestTerms_b6 at hf
  refine ex_iload_n 3 (pc' := 7) dX10_inLowestTerms_6 rfl rfl rfl ?_
  refine ex_iconst (v := 1) (pc' := 8) dX10_inLowestTerms_7 ic_1 rfl ?_
  refine ex_icmple (tgt := 29) (pc' := 11) dX10_inLowestTerms_8 (by decide) rfl (fun hc2 => ?_) (fun hc2 => ?_)
  · replace hf := if_t hc2 hf
    refine ex_iload_n 0 (pc' := 12) dX10_inLowestTerms_11 rfl rfl rfl ?_
    refine ex_iload_n 3 (pc' := 13) dX10_inLowestTerms_12 rfl rfl rfl ?_
    obtain ⟨hg3, hf⟩ := of_guardN hf
    refine ex_irem (pc' := 14) dX10_inLowestTerms_13 hg3 rfl ?_
    refine ex_ifne (tgt := 23) (pc' := 17) dX10_inLowestTerms_14 (by decide) rfl (fun hc4 => ?_) (fun hc4 => ?_)
    · replace hf := if_t hc4 hf
      refine ex_iload_n 1 (pc' := 18) dX10_inLowestTerms_17 rfl rfl rfl ?_
      refine ex_iload_n 3 (pc' := 19) dX10_inLowestTerms_18 rfl rfl rfl ?_
      obtain ⟨hg5, hf⟩ := of_guardN hf
      refine ex_irem (pc' := 20) dX10_inLowestTerms_19 hg5 rfl ?_
      refine ex_ifeq (tgt := 29) (pc' := 23) dX10_inLowestTerms_20 (by decide) rfl (fun hc6 => ?_) (fun hc6 => ?_)
      · replace hf := if_t hc6 hf
        exact ex_sub [0, 1, 2, 3] rfl (hX _ (Option.some.inj hf).symm)
      · replace hf := if_f hc6 hf
        refine ex_iincc (lv' := [(3, .int (v3 + (-1))), (0, .int v0), (1, .int v1), (2, .int v2)]) 3 (pc' := 26) dX10_inLowestTerms_23 rfl ic_m1 (Nat.le_of_ble_eq_true rfl) rfl rfl ?_
        refine ex_goto (tgt := 6) dX10_inLowestTerms_26 (by decide) ?_
        exact ex_sub [1, 2, 3, 0] rfl (hC _ (Option.some.inj hf).symm)
    · replace hf := if_f hc4 hf
      refine ex_iincc (lv' := [(3, .int (v3 + (-1))), (0, .int v0), (1, .int v1), (2, .int v2)]) 3 (pc' := 26) dX10_inLowestTerms_23 rfl ic_m1 (Nat.le_of_ble_eq_true rfl) rfl rfl ?_
      refine ex_goto (tgt := 6) dX10_inLowestTerms_26 (by decide) ?_
      exact ex_sub [1, 2, 3, 0] rfl (hC _ (Option.some.inj hf).symm)
  · replace hf := if_f hc2 hf
    exact ex_sub [0, 1, 2, 3] rfl (hX _ (Option.some.inj hf).symm)
def f_X10_inLowestTerms_l6 (N : Nat) (v0 : Int32) (v1 : Int32) (v2 : Int32) (v3 : Int32) : Option (Int32) := loopN (fun s => f_X10_inLowestTerms_b6 N v0 v1 v2 s) N v3
set_option maxRecDepth 100000 in
set_option maxHeartbeats 4000000 in
theorem k_X10_inLowestTerms_l6 {G : GX} {Q : State → Prop} {X : MX} {v0 : Int32} {v1 : Int32} {v2 : Int32}  {N0 : Nat} {I : MI} {L : ML} {out : (Int32)} (hX : ∀ (w3 : Int32), out = w3 → Ex G mX10_inLowestTerms rmX10_inLowestTerms Q (0, 0) X I L 29 [(0, .int v0), (1, .int v1), (2, .int v2), (3, .int w3)] []) : ∀ (N : Nat) (v3 : Int32), loopN (fun s => f_X10_inLowestTerms_b6 N0 v0 v1 v2 s) N v3 = some out → Ex G mX10_inLowestTerms rmX10_inLowestTerms Q (0, 0) X I L 6 [(0, .int v0), (1, .int v1), (2, .int v2), (3, .int v3)] [] := by
  intro N
  induction N with
  | zero => intro v3 hf; exact absurd (loopN_zero hf) id
  | succ n ih =>
    intro v3 hf
    rcases loopN_succ hf with ⟨s, hb, hl⟩ | hb
    · skip
      refine k_X10_inLowestTerms_b6  hb (fun _ he => ?_) (fun _ he => by cases he)
      cases he
      exact ih s hl
    · exact k_X10_inLowestTerms_b6  hb (fun _ he => by cases he) (fun x0 he => hX x0 (Sum.inr.inj he))
def f_X10_inLowestTerms (N : Nat) (v0 : Int32) (v1 : Int32) (v2 : Int32) : Option (Int64) := letv (if v1 < 1 then 1 else v1) fun x1 => bnd1 (f_X10_inLowestTerms_l6 N v0 v1 v2 x1) fun x7 => (if v2 = 0 then if x7 = 0 then none else some (Int32.toInt64 (v0 / x7)) else if x7 = 0 then none else some (Int32.toInt64 (v1 / x7)))
set_option maxRecDepth 100000 in
set_option maxHeartbeats 4000000 in
theorem kb_X10_inLowestTerms {G : GX} {Q : State → Prop} {X : MX} {v0 : Int32} {v1 : Int32} {v2 : Int32}  {N : Nat} {I : MI} {L : ML} {out : Int64} (hf : f_X10_inLowestTerms N v0 v1 v2 = some out) (hR : ∀ (z : Int64), out = z → Q = RetQ G (some (.long z)) X I L (0, 0)) : Ex G mX10_inLowestTerms rmX10_inLowestTerms Q (0, 0) X I L 0 [(0, .int v0), (1, .int v1), (2, .int v2)] [] := by
  unfold f_X10_inLowestTerms at hf
  refine ex_iload_n 1 (pc' := 1) dX10_inLowestTerms_0 rfl rfl rfl ?_
  refine ex_iconst (v := 1) (pc' := 2) dX10_inLowestTerms_1 ic_1 rfl ?_
  refine ex_mmax (pc' := 5) dX10_inLowestTerms_2 cl_X10_103 ⟨Nat.le_of_ble_eq_true rfl, Nat.le_of_ble_eq_true rfl, Nat.le_of_ble_eq_true rfl, Nat.le_of_ble_eq_true rfl⟩ rfl ?_
  obtain ⟨x1, hx1, hf⟩ := of_let hf
  rw [← hx1]
  refine ex_istore_n (lv' := [(3, .int x1), (0, .int v0), (1, .int v1), (2, .int v2)]) (pc' := 6) dX10_inLowestTerms_5 rfl (Nat.le_of_ble_eq_true rfl) rfl rfl ?_
  refine ex_sub (lv' := [(0, .int v0), (1, .int v1), (2, .int v2), (3, .int x1)]) [1, 2, 3, 0] rfl ?_
  obtain ⟨x7, hq8, hf⟩ := of_bnd1 hf
  refine k_X10_inLowestTerms_l6 (fun x7' he => ?_) _ _ hq8
  cases he
  refine ex_iload_n 2 (pc' := 30) dX10_inLowestTerms_29 rfl rfl rfl ?_
  refine ex_ifne (tgt := 40) (pc' := 33) dX10_inLowestTerms_30 (by decide) rfl (fun hc9 => ?_) (fun hc9 => ?_)
  · replace hf := if_t hc9 hf
    refine ex_iload_n 0 (pc' := 34) dX10_inLowestTerms_33 rfl rfl rfl ?_
    refine ex_iload_n 3 (pc' := 35) dX10_inLowestTerms_34 rfl rfl rfl ?_
    obtain ⟨hg10, hf⟩ := of_guardN hf
    refine ex_idiv (pc' := 36) dX10_inLowestTerms_35 hg10 rfl ?_
    refine ex_i2l (pc' := 37) dX10_inLowestTerms_36 rfl ?_
    refine ex_goto (tgt := 44) dX10_inLowestTerms_37 (by decide) ?_
    exact ex_lret dX10_inLowestTerms_44 rfl (hR _ (Option.some.inj hf).symm)
  · replace hf := if_f hc9 hf
    refine ex_iload_n 1 (pc' := 41) dX10_inLowestTerms_40 rfl rfl rfl ?_
    refine ex_iload_n 3 (pc' := 42) dX10_inLowestTerms_41 rfl rfl rfl ?_
    obtain ⟨hg11, hf⟩ := of_guardN hf
    refine ex_idiv (pc' := 43) dX10_inLowestTerms_42 hg11 rfl ?_
    refine ex_i2l (pc' := 44) dX10_inLowestTerms_43 rfl ?_
    exact ex_lret dX10_inLowestTerms_44 rfl (hR _ (Option.some.inj hf).symm)
set_option maxRecDepth 100000 in
set_option maxHeartbeats 4000000 in
theorem k_X10_inLowestTerms (G : GX) {X : MX} {v0 : Int32} {v1 : Int32} {v2 : Int32}  {N : Nat} {I : MI} {L : ML} {z : Int64} (hf : f_X10_inLowestTerms N v0 v1 v2 = some z) : Con G mX10_inLowestTerms yX10_inLowestTerms rmX10_inLowestTerms (fun B => [.int v0, .int v1, .int v2]) X I L (some (.long z)) X I L :=
  Con.of (by decide) rfl (fun h => by cases h) (fun B => Nat.le_of_ble_eq_true rfl) (fun G => kb_X10_inLowestTerms  hf (fun _ he => by cases he; rfl))
-- X10_isSide ('RookWords', 'isSide', '(I)Z')
def rmX10_isSide : RM := ((0, 0, 0, 0), false, (some FieldType.boolean))
def f_X10_isSide (v0 : Int32) : Option (Int32) := (if v0 < 1 then some 0 else (if 6 < v0 then some 0 else some 1))
set_option maxRecDepth 100000 in
set_option maxHeartbeats 4000000 in
theorem kb_X10_isSide {G : GX} {Q : State → Prop} {X : MX} {v0 : Int32}  {I : MI} {L : ML} {out : Int32} (hf : f_X10_isSide v0 = some out) (hR : ∀ (z : Int32), out = z → Q = RetQ G (some (.int z)) X I L (0, 0)) : Ex G mX10_isSide rmX10_isSide Q (0, 0) X I L 0 [(0, .int v0)] [] := by
  unfold f_X10_isSide at hf
  refine ex_iload_n 0 (pc' := 1) dX10_isSide_0 rfl rfl rfl ?_
  refine ex_iconst (v := 1) (pc' := 2) dX10_isSide_1 ic_1 rfl ?_
  refine ex_icmplt (tgt := 15) (pc' := 5) dX10_isSide_2 (by decide) rfl (fun hc1 => ?_) (fun hc1 => ?_)
  · replace hf := if_t hc1 hf
    refine ex_iconst (v := 0) (pc' := 16) dX10_isSide_15 ic_0 rfl ?_
    exact ex_zret dX10_isSide_16 rfl (Or.inl rfl) (hR _ (Option.some.inj hf).symm)
  · replace hf := if_f hc1 hf
    refine ex_iload_n 0 (pc' := 6) dX10_isSide_5 rfl rfl rfl ?_
    refine ex_bipush (v := 6) (pc' := 8) dX10_isSide_6 bp_6 rfl ?_
    refine ex_icmpgt (tgt := 15) (pc' := 11) dX10_isSide_8 (by decide) rfl (fun hc2 => ?_) (fun hc2 => ?_)
    · replace hf := if_t hc2 hf
      refine ex_iconst (v := 0) (pc' := 16) dX10_isSide_15 ic_0 rfl ?_
      exact ex_zret dX10_isSide_16 rfl (Or.inl rfl) (hR _ (Option.some.inj hf).symm)
    · replace hf := if_f hc2 hf
      refine ex_iconst (v := 1) (pc' := 12) dX10_isSide_11 ic_1 rfl ?_
      refine ex_goto (tgt := 16) dX10_isSide_12 (by decide) ?_
      exact ex_zret dX10_isSide_16 rfl (Or.inr rfl) (hR _ (Option.some.inj hf).symm)
set_option maxRecDepth 100000 in
set_option maxHeartbeats 4000000 in
theorem k_X10_isSide (G : GX) {X : MX} {v0 : Int32}  {I : MI} {L : ML} {z : Int32} (hf : f_X10_isSide v0 = some z) : Con G mX10_isSide yX10_isSide rmX10_isSide (fun B => [.int v0]) X I L (some (.int z)) X I L :=
  Con.of (by decide) rfl (fun h => by cases h) (fun B => Nat.le_of_ble_eq_true rfl) (fun G => kb_X10_isSide  hf (fun _ he => by cases he; rfl))
theorem fl_X10_44 : FLD RX10 44 10 6 true := ⟨RX10, TX10, 10, rfl, inX10, by decide, lwg_at 280 (by decide +kernel) rfl, nmX10, tyX10_ok, rfl, rfl⟩
theorem fl_X10_339 : FLD RX10 339 7 0 false := ⟨RX7, TX7, 3, rfl, inX7, by decide, lwg_at 238 (by decide +kernel) rfl, nmX7, tyX7_ok, rfl, rfl⟩
theorem bp_m11 : (Int8.ofInt (-11)).toInt32 = (-11) := by decide
theorem bp_m13 : (Int8.ofInt (-13)).toInt32 = (-13) := by decide
theorem fl_X10_342 : FLD RX10 342 7 1 false := ⟨RX7, TX7, 3, rfl, inX7, by decide, lwg_at 240 (by decide +kernel) rfl, nmX7, tyX7_ok, rfl, rfl⟩
theorem fl_X10_343 : FLD RX10 343 7 2 true := ⟨RX7, TX7, 3, rfl, inX7, by decide, lwg_at 242 (by decide +kernel) rfl, nmX7, tyX7_ok, rfl, rfl⟩
theorem cl_X10_349 : CLV RX10 349 yX7_asItem mX7_asItem (some FieldType.long) 1 := ⟨⟨lwg_at 911 (by decide +kernel) rfl, lwg_at 912 (by decide +kernel) rfl, lwg_at 913 (by decide +kernel) rfl, lwg_at 59 (by decide +kernel) rfl⟩, lwg_at 914 (by decide +kernel) rfl, ⟨by decide +kernel, by decide +kernel, by decide +kernel⟩⟩
-- X10_item ('RookWords', 'item', '(IIJ)I')
def rmX10_item : RM := ((1, 22, 0, 0), false, (some FieldType.int))
def f_X10_item (v1 : Int32) (v2 : Int32) (v3 : Int64) (I : MI) (L : ML) : Option (Int32 × ML) := bnd1 (f_X10_isPiece v1) fun r1 => (if r1 = 0 then some ((-1), L) else if inb v1 6 then (if (I (79 + 2 * (Int32.toNatClampNeg v1)) 0) = (-1) then some ((-11), L) else (if v2 < 0 then some ((-13), L) else (if v2 < (I (79 + 2 * (Int32.toNatClampNeg v1)) 1) then bnd1 (f_X7_asItem (79 + 2 * (Int32.toNatClampNeg v1)) v3 I) fun r8 => if inb v2 60 then letv (upL L (79 + 2 * (Int32.toNatClampNeg v1) + 1) (Int32.toNatClampNeg v2) r8) fun L11 => some (1, L11) else none else some ((-13), L)))) else none)
set_option maxRecDepth 100000 in
set_option maxHeartbeats 4000000 in
theorem kb_X10_item {G : GX} {Q : State → Prop} {X : MX} (hM : shX10 X) {v1 : Int32} {v2 : Int32} {v3 : Int64}  {I : MI} {L : ML} {out : Int32 × ML} (hf : f_X10_item v1 v2 v3 I L = some out) (hR : ∀ (z : Int32) (L' : ML), out = (z, L') → Q = RetQ G (some (.int z)) X I L' (0, 0)) : Ex G mX10_item rmX10_item Q (0, 0) X I L 0 [(0, .ref (gB G + 0)), (1, .int v1), (2, .int v2), (3, .long v3)] [] := by
  unfold f_X10_item at hf
  refine ex_iload_n 1 (pc' := 1) dX10_item_0 rfl rfl rfl ?_
  obtain ⟨r1, hq2, hf⟩ := of_bnd1 hf
  refine ex_callS_i (rm' := rmX10_isPiece) (st := []) (pc' := 4) [.int v1] dX10_item_1 cl_X10_66 (k_X10_isPiece G hq2) rfl rfl rfl (ROOM_of rfl) (Nat.le_of_ble_eq_true rfl) rfl rfl ?_
  refine ex_ifne (tgt := 9) (pc' := 7) dX10_item_4 (by decide) rfl (fun hc3 => ?_) (fun hc3 => ?_)
  · replace hf := if_t hc3 hf
    refine ex_iconst (v := (-1)) (pc' := 8) dX10_item_7 ic_m1 rfl ?_
    exact ex_iret dX10_item_8 rfl (hR _ _ (Option.some.inj hf).symm)
  · replace hf := if_f hc3 hf
    refine ex_aload_n 0 (pc' := 10) dX10_item_9 rfl rfl rfl ?_
    refine ex_getR (pc' := 13) dX10_item_10 fl_X10_44 rfl (sh10_k hM) (sh10_F6 hM) rfl ?_
    refine ex_iload_n 1 (pc' := 14) dX10_item_13 rfl rfl rfl ?_
    obtain ⟨hg4, hf⟩ := of_guard hf
    refine ex_aaldS (pc' := 15) dX10_item_14 (sh10_T6 hM) (by decide) (by decide) (inb_in hg4) (sh10_E6 hM _ (inb_lt hg4)) rfl ?_
    refine ex_astore (lv' := [(5, .ref (gB G + (79 + 2 * (Int32.toNatClampNeg v1)))), (0, .ref (gB G + 0)), (1, .int v1), (2, .int v2), (3, .long v3)]) (pc' := 17) dX10_item_15 (Nat.le_of_ble_eq_true rfl) rfl rfl ?_
    refine ex_aload 0 (pc' := 19) dX10_item_17 rfl rfl ?_
    refine ex_getI (pc' := 22) dX10_item_19 fl_X10_339 rfl (sh7_k (sh10_O6 hM _ (inb_lt hg4))) rfl ?_
    refine ex_iconst (v := (-1)) (pc' := 23) dX10_item_22 ic_m1 rfl ?_
    refine ex_icmpne (tgt := 29) (pc' := 26) dX10_item_23 (by decide) rfl (fun hc5 => ?_) (fun hc5 => ?_)
    · replace hf := if_t hc5 hf
      refine ex_bipush (v := (-11)) (pc' := 28) dX10_item_26 bp_m11 rfl ?_
      exact ex_iret dX10_item_28 rfl (hR _ _ (Option.some.inj hf).symm)
    · replace hf := if_f hc5 hf
      refine ex_iload_n 3 (pc' := 30) dX10_item_29 rfl rfl rfl ?_
      refine ex_iflt (tgt := 42) (pc' := 33) dX10_item_30 (by decide) rfl (fun hc6 => ?_) (fun hc6 => ?_)
      · replace hf := if_t hc6 hf
        refine ex_bipush (v := (-13)) (pc' := 44) dX10_item_42 bp_m13 rfl ?_
        exact ex_iret dX10_item_44 rfl (hR _ _ (Option.some.inj hf).symm)
      · replace hf := if_f hc6 hf
        refine ex_iload_n 3 (pc' := 34) dX10_item_33 rfl rfl rfl ?_
        refine ex_aload 0 (pc' := 36) dX10_item_34 rfl rfl ?_
        refine ex_getI (pc' := 39) dX10_item_36 fl_X10_342 rfl (sh7_k (sh10_O6 hM _ (inb_lt hg4))) rfl ?_
        refine ex_icmplt (tgt := 45) (pc' := 42) dX10_item_39 (by decide) rfl (fun hc7 => ?_) (fun hc7 => ?_)
        · replace hf := if_t hc7 hf
          refine ex_aload 0 (pc' := 47) dX10_item_45 rfl rfl ?_
          refine ex_getR (pc' := 50) dX10_item_47 fl_X10_343 rfl (sh7_k (sh10_O6 hM _ (inb_lt hg4))) (sh7_F2 (sh10_O6 hM _ (inb_lt hg4))) rfl ?_
          refine ex_iload_n 3 (pc' := 51) dX10_item_50 rfl rfl rfl ?_
          refine ex_aload 0 (pc' := 53) dX10_item_51 rfl rfl ?_
          refine ex_lload_n 4 (pc' := 54) dX10_item_53 rfl rfl rfl ?_
          obtain ⟨r8, hq9, hf⟩ := of_bnd1 hf
          refine ex_callV_l (rm' := rmX7_asItem) (st := [.int v2, .ref (gB G + (79 + 2 * (Int32.toNatClampNeg v1) + 1))]) (pc' := 57) [.long v3] dX10_item_54 cl_X10_349 (k_X7_asItem G (sh10_O6 hM _ (inb_lt hg4)) hq9) rfl (sh7_k (sh10_O6 hM _ (inb_lt hg4))) ⟨_, _, rfl⟩ rfl rfl (ROOM_of rfl) (Nat.le_of_ble_eq_true rfl) rfl rfl ?_
          obtain ⟨hg10, hf⟩ := of_guard hf
          refine ex_last (pc' := 58) dX10_item_57 (sh7_T2 (sh10_O6 hM _ (inb_lt hg4))) (inb_in hg10) rfl ?_
          obtain ⟨L11, hL11, hf⟩ := of_let hf
          rw [← hL11]
          refine ex_iconst (v := 1) (pc' := 59) dX10_item_58 ic_1 rfl ?_
          exact ex_iret dX10_item_59 rfl (hR _ _ (Option.some.inj hf).symm)
        · replace hf := if_f hc7 hf
          refine ex_bipush (v := (-13)) (pc' := 44) dX10_item_42 bp_m13 rfl ?_
          exact ex_iret dX10_item_44 rfl (hR _ _ (Option.some.inj hf).symm)
set_option maxRecDepth 100000 in
set_option maxHeartbeats 4000000 in
theorem k_X10_item (G : GX) {X : MX} (hM : shX10 X) {v1 : Int32} {v2 : Int32} {v3 : Int64}  {I : MI} {L : ML} {z : Int32} {L' : ML} (hf : f_X10_item v1 v2 v3 I L = some (z, L')) : Con G mX10_item yX10_item rmX10_item (fun B => [.ref (B + 0), .int v1, .int v2, .long v3]) X I L (some (.int z)) X I L' :=
  Con.of (by decide) rfl (fun h => by cases h) (fun B => Nat.le_of_ble_eq_true rfl) (fun G => kb_X10_item hM  hf (fun _ _ he => by cases he; rfl))
theorem cl_X10_74 : CLV RX10 74 yX9_hasRoom mX9_hasRoom (some FieldType.boolean) 1 := ⟨⟨lwg_at 312 (by decide +kernel) rfl, lwg_at 313 (by decide +kernel) rfl, lwg_at 314 (by decide +kernel) rfl, lwg_at 53 (by decide +kernel) rfl⟩, lwg_at 315 (by decide +kernel) rfl, ⟨by decide +kernel, by decide +kernel, by decide +kernel⟩⟩
theorem cl_X10_79 : CLV RX10 79 yX9_push mX9_push none 2 := ⟨⟨lwg_at 316 (by decide +kernel) rfl, lwg_at 317 (by decide +kernel) rfl, lwg_at 318 (by decide +kernel) rfl, lwg_at 53 (by decide +kernel) rfl⟩, lwg_at 319 (by decide +kernel) rfl, ⟨by decide +kernel, by decide +kernel, by decide +kernel⟩⟩
-- X10_join ('RookWords', 'join', '(II)I')
def rmX10_join : RM := ((1, 23, 0, 0), false, (some FieldType.int))
def f_X10_join_b62 (N : Nat) (a3 : Nat) (a4 : Nat) (v5 : Int32) (v6 : Int32) (I : MI) : Option ((Int32 × MI) ⊕ (MI)) := (if v6 < v5 then if inb v6 12 then bnd1 (f_X9_push N a3 (I (a4 + 1) (Int32.toNatClampNeg v6)) 1 I) fun I15 => some (.inl (v6 + 1, I15)) else none else some (.inr I))
set_option maxRecDepth 100000 in
set_option maxHeartbeats 4000000 in
theorem k_X10_join_b62 {G : GX} {Q : State → Prop} {X : MX} (hM : shX10 X) {a3 : Nat} {a4 : Nat} {v5 : Int32} (h3 : shX9 X a3) (h4 : shX9 X a4) {v6 : Int32} {N : Nat} {I : MI} {L : ML} {out : (Int32 × MI) ⊕ (MI)} (hf : f_X10_join_b62 N a3 a4 v5 v6 I = some out) (hC : ∀ (v6' : Int32) (I' : MI), out = .inl (v6', I') → Ex G mX10_join rmX10_join Q (0, 0) X I' L 62 [(3, .ref (gB G + a3)), (4, .ref (gB G + a4)), (5, .int v5), (6, .int v6')] []) (hX : ∀ (I' : MI), out = .inr I' → Ex G mX10_join rmX10_join Q (0, 0) X I' L 88 [(3, .ref (gB G + a3))] []) : Ex G mX10_join rmX10_join Q (0, 0) X I L 62 [(3, .ref (gB G + a3)), (4, .ref (gB G + a4)), (5, .int v5), (6, .int v6)] [] := by
  unfold f_X10_join_b62 at hf
  refine ex_iload 3 (pc' := 64) dX10_join_62 rfl rfl ?_
  refine ex_iload 2 (pc' := 66) dX10_join_64 rfl rfl ?_
  refine ex_icmpge (tgt := 88) (pc' := 69) dX10_join_66 (by decide) rfl (fun hc13 => ?_) (fun hc13 => ?_)
  · replace hf := if_t hc13 hf
    refine ex_aload_n 0 (pc' := 70) dX10_join_69 rfl rfl rfl ?_
    refine ex_aload 1 (pc' := 72) dX10_join_70 rfl rfl ?_
    refine ex_getR (pc' := 75) dX10_join_72 fl_X10_90 rfl (sh9_k h4) (sh9_F0 h4) rfl ?_
    refine ex_iload 3 (pc' := 77) dX10_join_75 rfl rfl ?_
    obtain ⟨hg14, hf⟩ := of_guard hf
    refine ex_iald (pc' := 78) dX10_join_77 (sh9_T0 h4) (inb_in hg14) rfl ?_
    refine ex_iconst (v := 1) (pc' := 79) dX10_join_78 ic_1 rfl ?_
    obtain ⟨I15, hq16, hf⟩ := of_bnd1 hf
    refine ex_callV_v (rm' := rmX9_push) (st := []) (pc' := 82) [.int (I (a4 + 1) (Int32.toNatClampNeg v6)), .int 1] dX10_join_79 cl_X10_79 (k_X9_push G h3 hq16) rfl (sh9_k h3) ⟨_, _, rfl⟩ rfl rfl (ROOM_of rfl) (Nat.le_of_ble_eq_true rfl) rfl rfl ?_
    refine ex_iincc (lv' := [(6, .int (v6 + 1)), (3, .ref (gB G + a3)), (4, .ref (gB G + a4)), (5, .int v5)]) 3 (pc' := 85) dX10_join_82 rfl ic_1 (Nat.le_of_ble_eq_true rfl) rfl rfl ?_
    refine ex_goto (tgt := 62) dX10_join_85 (by decide) ?_
    exact ex_sub [1, 2, 3, 0] rfl (hC _ _ (Option.some.inj hf).symm)
  · replace hf := if_f hc13 hf
    exact ex_sub [0] rfl (hX _ (Option.some.inj hf).symm)
def f_X10_join_l62 (N : Nat) (a3 : Nat) (a4 : Nat) (v5 : Int32) (v6 : Int32) (I : MI) : Option (MI) := loopN (fun s => f_X10_join_b62 N a3 a4 v5 s.1 s.2) N (v6, I)
set_option maxRecDepth 100000 in
set_option maxHeartbeats 4000000 in
theorem k_X10_join_l62 {G : GX} {Q : State → Prop} {X : MX} (hM : shX10 X) {a3 : Nat} {a4 : Nat} {v5 : Int32} (h3 : shX9 X a3) (h4 : shX9 X a4) {N0 : Nat} {L : ML} {out : (MI)} (hX : ∀ (I' : MI), out = I' → Ex G mX10_join rmX10_join Q (0, 0) X I' L 88 [(3, .ref (gB G + a3))] []) : ∀ (N : Nat) (v6 : Int32) (I : MI), loopN (fun s => f_X10_join_b62 N0 a3 a4 v5 s.1 s.2) N (v6, I) = some out → Ex G mX10_join rmX10_join Q (0, 0) X I L 62 [(3, .ref (gB G + a3)), (4, .ref (gB G + a4)), (5, .int v5), (6, .int v6)] [] := by
  intro N
  induction N with
  | zero => intro v6 I hf; exact absurd (loopN_zero hf) id
  | succ n ih =>
    intro v6 I hf
    rcases loopN_succ hf with ⟨s, hb, hl⟩ | hb
    · obtain ⟨v6', I'⟩ := s
      refine k_X10_join_b62 hM h3 h4 hb (fun _ _ he => ?_) (fun _ he => by cases he)
      cases he
      exact ih v6' I' hl
    · exact k_X10_join_b62 hM h3 h4 hb (fun _ _ he => by cases he) (fun x0 he => hX x0 (Sum.inr.inj he))
def f_X10_join (N : Nat) (v1 : Int32) (v2 : Int32) (I : MI) : Option (Int32 × MI) := bnd1 (f_X10_isPiece v1) fun r1 => (if r1 = 0 then some ((-1), I) else bnd1 (f_X10_isPiece v2) fun r4 => (if r4 = 0 then some ((-1), I) else if inb v1 6 then if inb v2 6 then bnd1 (f_X9_hasRoom (10 + 4 * (Int32.toNatClampNeg v1)) (I (10 + 4 * (Int32.toNatClampNeg v2)) 1) I) fun r9 => (if r9 = 0 then some ((-4), I) else letv (I (10 + 4 * (Int32.toNatClampNeg v2)) 1) fun x12 => bnd1 (f_X10_join_l62 N (10 + 4 * (Int32.toNatClampNeg v1)) (10 + 4 * (Int32.toNatClampNeg v2)) x12 0 I) fun I17 => some (I17 (10 + 4 * (Int32.toNatClampNeg v1)) 1, I17)) else none else none))
set_option maxRecDepth 100000 in
set_option maxHeartbeats 4000000 in
theorem kb_X10_join {G : GX} {Q : State → Prop} {X : MX} (hM : shX10 X) {v1 : Int32} {v2 : Int32}  {N : Nat} {I : MI} {L : ML} {out : Int32 × MI} (hf : f_X10_join N v1 v2 I = some out) (hR : ∀ (z : Int32) (I' : MI), out = (z, I') → Q = RetQ G (some (.int z)) X I' L (0, 0)) : Ex G mX10_join rmX10_join Q (0, 0) X I L 0 [(0, .ref (gB G + 0)), (1, .int v1), (2, .int v2)] [] := by
  unfold f_X10_join at hf
  refine ex_iload_n 1 (pc' := 1) dX10_join_0 rfl rfl rfl ?_
  obtain ⟨r1, hq2, hf⟩ := of_bnd1 hf
  refine ex_callS_i (rm' := rmX10_isPiece) (st := []) (pc' := 4) [.int v1] dX10_join_1 cl_X10_66 (k_X10_isPiece G hq2) rfl rfl rfl (ROOM_of rfl) (Nat.le_of_ble_eq_true rfl) rfl rfl ?_
  refine ex_ifeq (tgt := 14) (pc' := 7) dX10_join_4 (by decide) rfl (fun hc3 => ?_) (fun hc3 => ?_)
  · replace hf := if_t hc3 hf
    refine ex_iconst (v := (-1)) (pc' := 15) dX10_join_14 ic_m1 rfl ?_
    exact ex_iret dX10_join_15 rfl (hR _ _ (Option.some.inj hf).symm)
  · replace hf := if_f hc3 hf
    refine ex_iload_n 2 (pc' := 8) dX10_join_7 rfl rfl rfl ?_
    obtain ⟨r4, hq5, hf⟩ := of_bnd1 hf
    refine ex_callS_i (rm' := rmX10_isPiece) (st := []) (pc' := 11) [.int v2] dX10_join_8 cl_X10_66 (k_X10_isPiece G hq5) rfl rfl rfl (ROOM_of rfl) (Nat.le_of_ble_eq_true rfl) rfl rfl ?_
    refine ex_ifne (tgt := 16) (pc' := 14) dX10_join_11 (by decide) rfl (fun hc6 => ?_) (fun hc6 => ?_)
    · replace hf := if_t hc6 hf
      refine ex_iconst (v := (-1)) (pc' := 15) dX10_join_14 ic_m1 rfl ?_
      exact ex_iret dX10_join_15 rfl (hR _ _ (Option.some.inj hf).symm)
    · replace hf := if_f hc6 hf
      refine ex_aload_n 0 (pc' := 17) dX10_join_16 rfl rfl rfl ?_
      refine ex_getR (pc' := 20) dX10_join_17 fl_X10_12 rfl (sh10_k hM) (sh10_F0 hM) rfl ?_
      refine ex_getR (pc' := 23) dX10_join_20 fl_X10_70 rfl (sh5_k (sh10_T0 hM)) (sh5_F0 (sh10_T0 hM)) rfl ?_
      refine ex_iload_n 1 (pc' := 24) dX10_join_23 rfl rfl rfl ?_
      obtain ⟨hg7, hf⟩ := of_guard hf
      refine ex_aaldS (pc' := 25) dX10_join_24 (sh5_T0 (sh10_T0 hM)) (by decide) (by decide) (inb_in hg7) (sh5_E0 (sh10_T0 hM) _ (inb_lt hg7)) rfl ?_
      refine ex_astore_n (lv' := [(3, .ref (gB G + (10 + 4 * (Int32.toNatClampNeg v1)))), (0, .ref (gB G + 0)), (1, .int v1), (2, .int v2)]) (pc' := 26) dX10_join_25 rfl (Nat.le_of_ble_eq_true rfl) rfl rfl ?_
      refine ex_aload_n 1 (pc' := 27) dX10_join_26 rfl rfl rfl ?_
      refine ex_getR (pc' := 30) dX10_join_27 fl_X10_12 rfl (sh10_k hM) (sh10_F0 hM) rfl ?_
      refine ex_getR (pc' := 33) dX10_join_30 fl_X10_70 rfl (sh5_k (sh10_T0 hM)) (sh5_F0 (sh10_T0 hM)) rfl ?_
      refine ex_iload_n 3 (pc' := 34) dX10_join_33 rfl rfl rfl ?_
      obtain ⟨hg8, hf⟩ := of_guard hf
      refine ex_aaldS (pc' := 35) dX10_join_34 (sh5_T0 (sh10_T0 hM)) (by decide) (by decide) (inb_in hg8) (sh5_E0 (sh10_T0 hM) _ (inb_lt hg8)) rfl ?_
      refine ex_astore (lv' := [(4, .ref (gB G + (10 + 4 * (Int32.toNatClampNeg v2)))), (3, .ref (gB G + (10 + 4 * (Int32.toNatClampNeg v1)))), (0, .ref (gB G + 0)), (1, .int v1), (2, .int v2)]) (pc' := 37) dX10_join_35 (Nat.le_of_ble_eq_true rfl) rfl rfl ?_
      refine ex_aload_n 1 (pc' := 38) dX10_join_37 rfl rfl rfl ?_
      refine ex_aload 0 (pc' := 40) dX10_join_38 rfl rfl ?_
      refine ex_getI (pc' := 43) dX10_join_40 fl_X10_83 rfl (sh9_k (sh5_O0 (sh10_T0 hM) _ (inb_lt hg8))) rfl ?_
      obtain ⟨r9, hq10, hf⟩ := of_bnd1 hf
      refine ex_callV_i (rm' := rmX9_hasRoom) (st := []) (pc' := 46) [.int (I (10 + 4 * (Int32.toNatClampNeg v2)) 1)] dX10_join_43 cl_X10_74 (k_X9_hasRoom G (sh5_O0 (sh10_T0 hM) _ (inb_lt hg7)) hq10) rfl (sh9_k (sh5_O0 (sh10_T0 hM) _ (inb_lt hg7))) ⟨_, _, rfl⟩ rfl rfl (ROOM_of rfl) (Nat.le_of_ble_eq_true rfl) rfl rfl ?_
      refine ex_ifne (tgt := 52) (pc' := 49) dX10_join_46 (by decide) rfl (fun hc11 => ?_) (fun hc11 => ?_)
      · replace hf := if_t hc11 hf
        refine ex_bipush (v := (-4)) (pc' := 51) dX10_join_49 bp_m4 rfl ?_
        exact ex_iret dX10_join_51 rfl (hR _ _ (Option.some.inj hf).symm)
      · replace hf := if_f hc11 hf
        refine ex_aload 0 (pc' := 54) dX10_join_52 rfl rfl ?_
        refine ex_getI (pc' := 57) dX10_join_54 fl_X10_83 rfl (sh9_k (sh5_O0 (sh10_T0 hM) _ (inb_lt hg8))) rfl ?_
        obtain ⟨x12, hx12, hf⟩ := of_let hf
        rw [← hx12]
        refine ex_istore (lv' := [(5, .int x12), (4, .ref (gB G + (10 + 4 * (Int32.toNatClampNeg v2)))), (3, .ref (gB G + (10 + 4 * (Int32.toNatClampNeg v1)))), (0, .ref (gB G + 0)), (1, .int v1), (2, .int v2)]) (pc' := 59) dX10_join_57 (Nat.le_of_ble_eq_true rfl) rfl rfl ?_
        refine ex_iconst (v := 0) (pc' := 60) dX10_join_59 ic_0 rfl ?_
        refine ex_istore (lv' := [(6, .int 0), (5, .int x12), (4, .ref (gB G + (10 + 4 * (Int32.toNatClampNeg v2)))), (3, .ref (gB G + (10 + 4 * (Int32.toNatClampNeg v1)))), (0, .ref (gB G + 0)), (1, .int v1), (2, .int v2)]) (pc' := 62) dX10_join_60 (Nat.le_of_ble_eq_true rfl) rfl rfl ?_
        refine ex_sub (lv' := [(3, .ref (gB G + (10 + 4 * (Int32.toNatClampNeg v1)))), (4, .ref (gB G + (10 + 4 * (Int32.toNatClampNeg v2)))), (5, .int x12), (6, .int 0)]) [3, 2, 1, 0] rfl ?_
        obtain ⟨I17, hq18, hf⟩ := of_bnd1 hf
        refine k_X10_join_l62 hM (sh5_O0 (sh10_T0 hM) _ (inb_lt hg7)) (sh5_O0 (sh10_T0 hM) _ (inb_lt hg8)) (fun I17' he => ?_) _ _ _ hq18
        cases he
        refine ex_aload_n 0 (pc' := 89) dX10_join_88 rfl rfl rfl ?_
        refine ex_getI (pc' := 92) dX10_join_89 fl_X10_83 rfl (sh9_k (sh5_O0 (sh10_T0 hM) _ (inb_lt hg7))) rfl ?_
        exact ex_iret dX10_join_92 rfl (hR _ _ (Option.some.inj hf).symm)
set_option maxRecDepth 100000 in
set_option maxHeartbeats 4000000 in
theorem k_X10_join (G : GX) {X : MX} (hM : shX10 X) {v1 : Int32} {v2 : Int32}  {N : Nat} {I : MI} {L : ML} {z : Int32} {I' : MI} (hf : f_X10_join N v1 v2 I = some (z, I')) : Con G mX10_join yX10_join rmX10_join (fun B => [.ref (B + 0), .int v1, .int v2]) X I L (some (.int z)) X I' L :=
  Con.of (by decide) rfl (fun h => by cases h) (fun B => Nat.le_of_ble_eq_true rfl) (fun G => kb_X10_join hM  hf (fun _ _ he => by cases he; rfl))
theorem bp_100 : (Int8.ofInt 100).toInt32 = 100 := by decide
theorem bp_m12 : (Int8.ofInt (-12)).toInt32 = (-12) := by decide
-- X10_judge ('RookWords', 'judge', '(III)I')
def rmX10_judge : RM := ((2, 49, 0, 0), false, (some FieldType.int))
def f_X10_judge_b80 (N : Nat) (v2 : Int32) (a4 : Nat) (a5 : Nat) (v7 : Int32) (I : MI) (L : ML) : Option ((Int32) ⊕ ((Unit) ⊕ (Int32 × MI))) := (if (I a5 0) < v7 then some (.inr (.inl ())) else (if v2 < ((I a4 1) - v7) then if inb (v2 + v7) 60 then if inb v7 7 then (if (L (a4 + 1) (Int32.toNatClampNeg (v2 + v7))) = (Int32.toInt64 (I 93 (Int32.toNatClampNeg v7))) then some (.inl (v7 + 1)) else some (.inr (.inr (v7, I)))) else none else none else some (.inr (.inr (100 + v7, I)))))
set_option maxRecDepth 100000 in
set_option maxHeartbeats 4000000 in
theorem k_X10_judge_b80 {G : GX} {Q : State → Prop} {X : MX} (hM : shX10 X) {v2 : Int32} {a4 : Nat} {a5 : Nat} (h4 : shX7 X a4) (h5 : shX0 X a5) {v7 : Int32} {N : Nat} {I : MI} {L : ML} {out : (Int32) ⊕ ((Unit) ⊕ (Int32 × MI))} (hf : f_X10_judge_b80 N v2 a4 a5 v7 I L = some out) (hC : ∀ (v7' : Int32), out = .inl v7' → Ex G mX10_judge rmX10_judge Q (0, 0) X I L 80 [(2, .int v2), (4, .ref (gB G + a4)), (5, .ref (gB G + a5)), (6, .ref (gB G + 93)), (7, .int v7')] []) (hX : ∀ (u : Unit), out = .inr (.inl u) → Ex G mX10_judge rmX10_judge Q (0, 0) X I L 137 [] []) (hR : ∀ (z : Int32) (I' : MI), out = .inr (.inr (z, I')) → Q = RetQ G (some (.int z)) X I' L (0, 0)) : Ex G mX10_judge rmX10_judge Q (0, 0) X I L 80 [(2, .int v2), (4, .ref (gB G + a4)), (5, .ref (gB G + a5)), (6, .ref (gB G + 93)), (7, .int v7)] [] := by
  unfold f_X10_judge_b80 at hf
  refine ex_iload 4 (pc' := 82) dX10_judge_80 rfl rfl ?_
  refine ex_aload 2 (pc' := 84) dX10_judge_82 rfl rfl ?_
  refine ex_getI (pc' := 87) dX10_judge_84 fl_X10_147 rfl (sh0_k h5) rfl ?_
  refine ex_icmpgt (tgt := 137) (pc' := 90) dX10_judge_87 (by decide) rfl (fun hc14 => ?_) (fun hc14 => ?_)
  · replace hf := if_t hc14 hf
    exact ex_sub [] rfl (hX _ (Option.some.inj hf).symm)
  · replace hf := if_f hc14 hf
    refine ex_iload_n 0 (pc' := 91) dX10_judge_90 rfl rfl rfl ?_
    refine ex_aload 1 (pc' := 93) dX10_judge_91 rfl rfl ?_
    refine ex_getI (pc' := 96) dX10_judge_93 fl_X10_342 rfl (sh7_k h4) rfl ?_
    refine ex_iload 4 (pc' := 98) dX10_judge_96 rfl rfl ?_
    refine ex_isub (pc' := 99) dX10_judge_98 rfl ?_
    refine ex_icmplt (tgt := 108) (pc' := 102) dX10_judge_99 (by decide) rfl (fun hc15 => ?_) (fun hc15 => ?_)
    · replace hf := if_t hc15 hf
      refine ex_aload 1 (pc' := 110) dX10_judge_108 rfl rfl ?_
      refine ex_getR (pc' := 113) dX10_judge_110 fl_X10_343 rfl (sh7_k h4) (sh7_F2 h4) rfl ?_
      refine ex_iload_n 0 (pc' := 114) dX10_judge_113 rfl rfl rfl ?_
      refine ex_iload 4 (pc' := 116) dX10_judge_114 rfl rfl ?_
      refine ex_iadd (pc' := 117) dX10_judge_116 rfl ?_
      obtain ⟨hg16, hf⟩ := of_guard hf
      refine ex_lald (pc' := 118) dX10_judge_117 (sh7_T2 h4) (inb_in hg16) rfl ?_
      refine ex_aload 3 (pc' := 120) dX10_judge_118 rfl rfl ?_
      refine ex_iload 4 (pc' := 122) dX10_judge_120 rfl rfl ?_
      obtain ⟨hg17, hf⟩ := of_guard hf
      refine ex_iald (pc' := 123) dX10_judge_122 (sh4_T1 (sh10_T7 hM)) (inb_in hg17) rfl ?_
      refine ex_i2l (pc' := 124) dX10_judge_123 rfl ?_
      refine ex_lcmp (pc' := 125) dX10_judge_124 rfl ?_
      refine ex_lifeq (tgt := 131) (pc' := 128) dX10_judge_125 (by decide) rfl (fun hc18 => ?_) (fun hc18 => ?_)
      · replace hf := if_t hc18 hf
        refine ex_iincc (lv' := [(7, .int (v7 + 1)), (2, .int v2), (4, .ref (gB G + a4)), (5, .ref (gB G + a5)), (6, .ref (gB G + 93))]) 4 (pc' := 134) dX10_judge_131 rfl ic_1 (Nat.le_of_ble_eq_true rfl) rfl rfl ?_
        refine ex_goto (tgt := 80) dX10_judge_134 (by decide) ?_
        exact ex_sub [1, 2, 3, 4, 0] rfl (hC _ (Option.some.inj hf).symm)
      · replace hf := if_f hc18 hf
        refine ex_iload 4 (pc' := 130) dX10_judge_128 rfl rfl ?_
        exact ex_iret dX10_judge_130 rfl (hR _ _ (Option.some.inj hf).symm)
    · replace hf := if_f hc15 hf
      refine ex_bipush (v := 100) (pc' := 104) dX10_judge_102 bp_100 rfl ?_
      refine ex_iload 4 (pc' := 106) dX10_judge_104 rfl rfl ?_
      refine ex_iadd (pc' := 107) dX10_judge_106 rfl ?_
      exact ex_iret dX10_judge_107 rfl (hR _ _ (Option.some.inj hf).symm)
def f_X10_judge_l80 (N : Nat) (v2 : Int32) (a4 : Nat) (a5 : Nat) (v7 : Int32) (I : MI) (L : ML) : Option ((Unit) ⊕ (Int32 × MI)) := loopN (fun s => f_X10_judge_b80 N v2 a4 a5 s I L) N v7
set_option maxRecDepth 100000 in
set_option maxHeartbeats 4000000 in
theorem k_X10_judge_l80 {G : GX} {Q : State → Prop} {X : MX} (hM : shX10 X) {v2 : Int32} {a4 : Nat} {a5 : Nat} (h4 : shX7 X a4) (h5 : shX0 X a5) {N0 : Nat} {I : MI} {L : ML} {out : ((Unit) ⊕ (Int32 × MI))} (hX : ∀ (u : Unit), out = .inl u → Ex G mX10_judge rmX10_judge Q (0, 0) X I L 137 [] []) (hR : ∀ (z : Int32) (I' : MI), out = .inr (z, I') → Q = RetQ G (some (.int z)) X I' L (0, 0)) : ∀ (N : Nat) (v7 : Int32), loopN (fun s => f_X10_judge_b80 N0 v2 a4 a5 s I L) N v7 = some out → Ex G mX10_judge rmX10_judge Q (0, 0) X I L 80 [(2, .int v2), (4, .ref (gB G + a4)), (5, .ref (gB G + a5)), (6, .ref (gB G + 93)), (7, .int v7)] [] := by
  intro N
  induction N with
  | zero => intro v7 hf; exact absurd (loopN_zero hf) id
  | succ n ih =>
    intro v7 hf
    rcases loopN_succ hf with ⟨s, hb, hl⟩ | hb
    · skip
      refine k_X10_judge_b80 hM h4 h5 hb (fun _ he => ?_) (fun _ he => by cases he) (fun _ _ he => by cases he)
      cases he
      exact ih s hl
    · exact k_X10_judge_b80 hM h4 h5 hb (fun _ he => by cases he) (fun x0 he => hX x0 (Sum.inr.inj he)) (fun z0 z1 he => hR z0 z1 (Sum.inr.inj he))
def f_X10_judge (N : Nat) (v1 : Int32) (v2 : Int32) (v3 : Int32) (I : MI) (L : ML) : Option (Int32 × MI) := bnd1 (f_X10_isPiece v1) fun r1 => (if r1 = 0 then some ((-1), I) else bnd1 (f_X10_isPiece v3) fun r4 => (if r4 = 0 then some ((-1), I) else if inb v1 6 then (if (I (79 + 2 * (Int32.toNatClampNeg v1)) 0) = (-1) then some (100, I) else (if (I (79 + 2 * (Int32.toNatClampNeg v1)) 0) = 1 then (if v2 < 0 then some (100, I) else if inb v3 6 then bnd1 (f_X4_countsOf N (12 + 4 * (Int32.toNatClampNeg v3)) I) fun I12 => bns1 (f_X10_judge_l80 N v2 (79 + 2 * (Int32.toNatClampNeg v1)) (12 + 4 * (Int32.toNatClampNeg v3)) 0 I12 L) (fun u19 => some ((-5), I12)) (fun q21 => some q21) else none) else some ((-12), I))) else none))
set_option maxRecDepth 100000 in
set_option maxHeartbeats 4000000 in
theorem kb_X10_judge {G : GX} {Q : State → Prop} {X : MX} (hM : shX10 X) {v1 : Int32} {v2 : Int32} {v3 : Int32}  {N : Nat} {I : MI} {L : ML} {out : Int32 × MI} (hf : f_X10_judge N v1 v2 v3 I L = some out) (hR : ∀ (z : Int32) (I' : MI), out = (z, I') → Q = RetQ G (some (.int z)) X I' L (0, 0)) : Ex G mX10_judge rmX10_judge Q (0, 0) X I L 0 [(0, .ref (gB G + 0)), (1, .int v1), (2, .int v2), (3, .int v3)] [] := by
  unfold f_X10_judge at hf
  refine ex_iload_n 1 (pc' := 1) dX10_judge_0 rfl rfl rfl ?_
  obtain ⟨r1, hq2, hf⟩ := of_bnd1 hf
  refine ex_callS_i (rm' := rmX10_isPiece) (st := []) (pc' := 4) [.int v1] dX10_judge_1 cl_X10_66 (k_X10_isPiece G hq2) rfl rfl rfl (ROOM_of rfl) (Nat.le_of_ble_eq_true rfl) rfl rfl ?_
  refine ex_ifeq (tgt := 14) (pc' := 7) dX10_judge_4 (by decide) rfl (fun hc3 => ?_) (fun hc3 => ?_)
  · replace hf := if_t hc3 hf
    refine ex_iconst (v := (-1)) (pc' := 15) dX10_judge_14 ic_m1 rfl ?_
    exact ex_iret dX10_judge_15 rfl (hR _ _ (Option.some.inj hf).symm)
  · replace hf := if_f hc3 hf
    refine ex_iload_n 3 (pc' := 8) dX10_judge_7 rfl rfl rfl ?_
    obtain ⟨r4, hq5, hf⟩ := of_bnd1 hf
    refine ex_callS_i (rm' := rmX10_isPiece) (st := []) (pc' := 11) [.int v3] dX10_judge_8 cl_X10_66 (k_X10_isPiece G hq5) rfl rfl rfl (ROOM_of rfl) (Nat.le_of_ble_eq_true rfl) rfl rfl ?_
    refine ex_ifne (tgt := 16) (pc' := 14) dX10_judge_11 (by decide) rfl (fun hc6 => ?_) (fun hc6 => ?_)
    · replace hf := if_t hc6 hf
      refine ex_iconst (v := (-1)) (pc' := 15) dX10_judge_14 ic_m1 rfl ?_
      exact ex_iret dX10_judge_15 rfl (hR _ _ (Option.some.inj hf).symm)
    · replace hf := if_f hc6 hf
      refine ex_aload_n 0 (pc' := 17) dX10_judge_16 rfl rfl rfl ?_
      refine ex_getR (pc' := 20) dX10_judge_17 fl_X10_44 rfl (sh10_k hM) (sh10_F6 hM) rfl ?_
      refine ex_iload_n 1 (pc' := 21) dX10_judge_20 rfl rfl rfl ?_
      obtain ⟨hg7, hf⟩ := of_guard hf
      refine ex_aaldS (pc' := 22) dX10_judge_21 (sh10_T6 hM) (by decide) (by decide) (inb_in hg7) (sh10_E6 hM _ (inb_lt hg7)) rfl ?_
      refine ex_astore (lv' := [(4, .ref (gB G + (79 + 2 * (Int32.toNatClampNeg v1)))), (0, .ref (gB G + 0)), (1, .int v1), (2, .int v2), (3, .int v3)]) (pc' := 24) dX10_judge_22 (Nat.le_of_ble_eq_true rfl) rfl rfl ?_
      refine ex_aload 0 (pc' := 26) dX10_judge_24 rfl rfl ?_
      refine ex_getI (pc' := 29) dX10_judge_26 fl_X10_339 rfl (sh7_k (sh10_O6 hM _ (inb_lt hg7))) rfl ?_
      refine ex_iconst (v := (-1)) (pc' := 30) dX10_judge_29 ic_m1 rfl ?_
      refine ex_icmpne (tgt := 36) (pc' := 33) dX10_judge_30 (by decide) rfl (fun hc8 => ?_) (fun hc8 => ?_)
      · replace hf := if_t hc8 hf
        refine ex_bipush (v := 100) (pc' := 35) dX10_judge_33 bp_100 rfl ?_
        exact ex_iret dX10_judge_35 rfl (hR _ _ (Option.some.inj hf).symm)
      · replace hf := if_f hc8 hf
        refine ex_aload 0 (pc' := 38) dX10_judge_36 rfl rfl ?_
        refine ex_getI (pc' := 41) dX10_judge_38 fl_X10_339 rfl (sh7_k (sh10_O6 hM _ (inb_lt hg7))) rfl ?_
        refine ex_iconst (v := 1) (pc' := 42) dX10_judge_41 ic_1 rfl ?_
        refine ex_icmpeq (tgt := 48) (pc' := 45) dX10_judge_42 (by decide) rfl (fun hc9 => ?_) (fun hc9 => ?_)
        · replace hf := if_t hc9 hf
          refine ex_iload_n 3 (pc' := 49) dX10_judge_48 rfl rfl rfl ?_
          refine ex_ifge (tgt := 55) (pc' := 52) dX10_judge_49 (by decide) rfl (fun hc10 => ?_) (fun hc10 => ?_)
          · replace hf := if_t hc10 hf
            refine ex_bipush (v := 100) (pc' := 54) dX10_judge_52 bp_100 rfl ?_
            exact ex_iret dX10_judge_54 rfl (hR _ _ (Option.some.inj hf).symm)
          · replace hf := if_f hc10 hf
            refine ex_aload_n 1 (pc' := 56) dX10_judge_55 rfl rfl rfl ?_
            refine ex_getR (pc' := 59) dX10_judge_56 fl_X10_12 rfl (sh10_k hM) (sh10_F0 hM) rfl ?_
            refine ex_getR (pc' := 62) dX10_judge_59 fl_X10_143 rfl (sh5_k (sh10_T0 hM)) (sh5_F2 (sh10_T0 hM)) rfl ?_
            refine ex_iload_n 4 (pc' := 63) dX10_judge_62 rfl rfl rfl ?_
            obtain ⟨hg11, hf⟩ := of_guard hf
            refine ex_aaldS (pc' := 64) dX10_judge_63 (sh5_T2 (sh10_T0 hM)) (by decide) (by decide) (inb_in hg11) (sh5_E2 (sh10_T0 hM) _ (inb_lt hg11)) rfl ?_
            refine ex_astore (lv' := [(5, .ref (gB G + (12 + 4 * (Int32.toNatClampNeg v3)))), (4, .ref (gB G + (79 + 2 * (Int32.toNatClampNeg v1)))), (0, .ref (gB G + 0)), (1, .int v1), (2, .int v2), (3, .int v3)]) (pc' := 66) dX10_judge_64 (Nat.le_of_ble_eq_true rfl) rfl rfl ?_
            refine ex_aload_n 2 (pc' := 67) dX10_judge_66 rfl rfl rfl ?_
            refine ex_getR (pc' := 70) dX10_judge_67 fl_X10_52 rfl (sh10_k hM) (sh10_F7 hM) rfl ?_
            refine ex_aload 0 (pc' := 72) dX10_judge_70 rfl rfl ?_
            obtain ⟨I12, hq13, hf⟩ := of_bnd1 hf
            refine ex_callV_r (rm' := rmX4_countsOf) (st := []) (pc' := 75) [.ref (gB G + (12 + 4 * (Int32.toNatClampNeg v3)))] dX10_judge_72 cl_X10_210 (k_X4_countsOf G hM (sh5_O2 (sh10_T0 hM) _ (inb_lt hg11)) hq13) rfl (sh4_k (sh10_T7 hM)) ⟨_, _, rfl⟩ rfl rfl (ROOM_of rfl) (Nat.le_of_ble_eq_true rfl) rfl rfl ?_
            refine ex_astore (lv' := [(6, .ref (gB G + 93)), (5, .ref (gB G + (12 + 4 * (Int32.toNatClampNeg v3)))), (4, .ref (gB G + (79 + 2 * (Int32.toNatClampNeg v1)))), (0, .ref (gB G + 0)), (1, .int v1), (2, .int v2), (3, .int v3)]) (pc' := 77) dX10_judge_75 (Nat.le_of_ble_eq_true rfl) rfl rfl ?_
            refine ex_iconst (v := 0) (pc' := 78) dX10_judge_77 ic_0 rfl ?_
            refine ex_istore (lv' := [(7, .int 0), (6, .ref (gB G + 93)), (5, .ref (gB G + (12 + 4 * (Int32.toNatClampNeg v3)))), (4, .ref (gB G + (79 + 2 * (Int32.toNatClampNeg v1)))), (0, .ref (gB G + 0)), (1, .int v1), (2, .int v2), (3, .int v3)]) (pc' := 80) dX10_judge_78 (Nat.le_of_ble_eq_true rfl) rfl rfl ?_
            refine ex_sub (lv' := [(2, .int v2), (4, .ref (gB G + (79 + 2 * (Int32.toNatClampNeg v1)))), (5, .ref (gB G + (12 + 4 * (Int32.toNatClampNeg v3)))), (6, .ref (gB G + 93)), (7, .int 0)]) [6, 3, 2, 1, 0] rfl ?_
            rcases of_bns1 hf with ⟨u19, hq20, hf⟩ | ⟨q21, hq20, hf⟩
            · refine k_X10_judge_l80 hM (sh10_O6 hM _ (inb_lt hg7)) (sh5_O2 (sh10_T0 hM) _ (inb_lt hg11)) (fun u19' he => ?_) (fun _ _ he => by cases he) _ _ hq20
              cases he
              refine ex_bipush (v := (-5)) (pc' := 139) dX10_judge_137 bp_m5 rfl ?_
              exact ex_iret dX10_judge_139 rfl (hR _ _ (Option.some.inj hf).symm)
            · refine k_X10_judge_l80 hM (sh10_O6 hM _ (inb_lt hg7)) (sh5_O2 (sh10_T0 hM) _ (inb_lt hg11)) (fun _ he => by cases he) (fun z0 z1 he => ?_) _ _ hq20
              refine hR _ _ ?_
              rw [← Option.some.inj hf]
              cases he
              rfl
        · replace hf := if_f hc9 hf
          refine ex_bipush (v := (-12)) (pc' := 47) dX10_judge_45 bp_m12 rfl ?_
          exact ex_iret dX10_judge_47 rfl (hR _ _ (Option.some.inj hf).symm)
set_option maxRecDepth 100000 in
set_option maxHeartbeats 4000000 in
theorem k_X10_judge (G : GX) {X : MX} (hM : shX10 X) {v1 : Int32} {v2 : Int32} {v3 : Int32}  {N : Nat} {I : MI} {L : ML} {z : Int32} {I' : MI} (hf : f_X10_judge N v1 v2 v3 I L = some (z, I')) : Con G mX10_judge yX10_judge rmX10_judge (fun B => [.ref (B + 0), .int v1, .int v2, .int v3]) X I L (some (.int z)) X I' L :=
  Con.of (by decide) rfl (fun h => by cases h) (fun B => Nat.le_of_ble_eq_true rfl) (fun G => kb_X10_judge hM  hf (fun _ _ he => by cases he; rfl))
theorem fl_X10_362 : Cond.fieldLink RX10 362 (sNm 1).1 (sNm 1).2 "[I" ∈ lwg := lwg_at 589 (by decide +kernel) rfl
-- X10_keyOf ('RookWords', 'keyOf', '([I)J')
def rmX10_keyOf : RM := ((0, 0, 0, 0), false, (some FieldType.long))
def f_X10_keyOf_b4 (N : Nat) (a0 : Nat) (n0 : Nat) (v1 : Int64) (v3 : Int32) (I : MI) : Option ((Int64 × Int32) ⊕ (Int64)) := (if 6 < v3 then some (.inr v1) else if inb v3 n0 then if inb v3 7 then letv (v1 ||| (jlshl (Int32.toInt64 (I a0 (Int32.toNatClampNeg v3))) (tabI 1 (Int32.toNatClampNeg v3)))) fun x4 => some (.inl (x4, v3 + 1)) else none else none)
set_option maxRecDepth 100000 in
set_option maxHeartbeats 4000000 in
theorem k_X10_keyOf_b4 {G : GX} {Q : State → Prop} {X : MX} {a0 : Nat} {n0 : Nat} (h0 : X.1 a0 = (2, n0)) {v1 : Int64} {v3 : Int32} {N : Nat} {I : MI} {L : ML} {out : (Int64 × Int32) ⊕ (Int64)} (hf : f_X10_keyOf_b4 N a0 n0 v1 v3 I = some out) (hC : ∀ (v1' : Int64) (v3' : Int32), out = .inl (v1', v3') → Ex G mX10_keyOf rmX10_keyOf Q (0, 0) X I L 4 [(0, .ref (gB G + a0)), (1, .long v1'), (3, .int v3')] []) (hX : ∀ (w1 : Int64), out = .inr w1 → Ex G mX10_keyOf rmX10_keyOf Q (0, 0) X I L 29 [(1, .long w1)] []) : Ex G mX10_keyOf rmX10_keyOf Q (0, 0) X I L 4 [(0, .ref (gB G + a0)), (1, .long v1), (3, .int v3)] [] := by
  unfold f_X10_keyOf_b4 at hf
  refine ex_iload_n 2 (pc' := 5) dX10_keyOf_4 rfl rfl rfl ?_
  refine ex_bipush (v := 6) (pc' := 7) dX10_keyOf_5 bp_6 rfl ?_
  refine ex_icmpgt (tgt := 29) (pc' := 10) dX10_keyOf_7 (by decide) rfl (fun hc1 => ?_) (fun hc1 => ?_)
  · replace hf := if_t hc1 hf
    exact ex_sub [1] rfl (hX _ (Option.some.inj hf).symm)
  · replace hf := if_f hc1 hf
    refine ex_lload_n 1 (pc' := 11) dX10_keyOf_10 rfl rfl rfl ?_
    refine ex_aload_n 0 (pc' := 12) dX10_keyOf_11 rfl rfl rfl ?_
    refine ex_iload_n 2 (pc' := 13) dX10_keyOf_12 rfl rfl rfl ?_
    obtain ⟨hg2, hf⟩ := of_guard hf
    refine ex_iald (pc' := 14) dX10_keyOf_13 h0 (inb_in hg2) rfl ?_
    refine ex_i2l (pc' := 15) dX10_keyOf_14 rfl ?_
    refine ex_getst (j := 1) (pc' := 18) dX10_keyOf_15 (by decide) fl_X10_362 rfl ?_
    refine ex_iload_n 2 (pc' := 19) dX10_keyOf_18 rfl rfl rfl ?_
    obtain ⟨hg3, hf⟩ := of_guard hf
    refine ex_siald (pc' := 20) dX10_keyOf_19 (by decide) (inb_in hg3) rfl ?_
    refine ex_lshl (pc' := 21) dX10_keyOf_20 rfl ?_
    refine ex_lor (pc' := 22) dX10_keyOf_21 rfl ?_
    obtain ⟨x4, hx4, hf⟩ := of_let hf
    rw [← hx4]
    refine ex_lstore_n (lv' := [(1, .long x4), (0, .ref (gB G + a0)), (3, .int v3)]) (pc' := 23) dX10_keyOf_22 rfl (Nat.le_of_ble_eq_true rfl) rfl rfl ?_
    refine ex_iincc (lv' := [(3, .int (v3 + 1)), (1, .long x4), (0, .ref (gB G + a0))]) 2 (pc' := 26) dX10_keyOf_23 rfl ic_1 (Nat.le_of_ble_eq_true rfl) rfl rfl ?_
    refine ex_goto (tgt := 4) dX10_keyOf_26 (by decide) ?_
    exact ex_sub [2, 1, 0] rfl (hC _ _ (Option.some.inj hf).symm)
def f_X10_keyOf_l4 (N : Nat) (a0 : Nat) (n0 : Nat) (v1 : Int64) (v3 : Int32) (I : MI) : Option (Int64) := loopN (fun s => f_X10_keyOf_b4 N a0 n0 s.1 s.2 I) N (v1, v3)
set_option maxRecDepth 100000 in
set_option maxHeartbeats 4000000 in
theorem k_X10_keyOf_l4 {G : GX} {Q : State → Prop} {X : MX} {a0 : Nat} {n0 : Nat} (h0 : X.1 a0 = (2, n0)) {N0 : Nat} {I : MI} {L : ML} {out : (Int64)} (hX : ∀ (w1 : Int64), out = w1 → Ex G mX10_keyOf rmX10_keyOf Q (0, 0) X I L 29 [(1, .long w1)] []) : ∀ (N : Nat) (v1 : Int64) (v3 : Int32), loopN (fun s => f_X10_keyOf_b4 N0 a0 n0 s.1 s.2 I) N (v1, v3) = some out → Ex G mX10_keyOf rmX10_keyOf Q (0, 0) X I L 4 [(0, .ref (gB G + a0)), (1, .long v1), (3, .int v3)] [] := by
  intro N
  induction N with
  | zero => intro v1 v3 hf; exact absurd (loopN_zero hf) id
  | succ n ih =>
    intro v1 v3 hf
    rcases loopN_succ hf with ⟨s, hb, hl⟩ | hb
    · obtain ⟨v1', v3'⟩ := s
      refine k_X10_keyOf_b4 h0 hb (fun _ _ he => ?_) (fun _ he => by cases he)
      cases he
      exact ih v1' v3' hl
    · exact k_X10_keyOf_b4 h0 hb (fun _ _ he => by cases he) (fun x0 he => hX x0 (Sum.inr.inj he))
def f_X10_keyOf (N : Nat) (a0 : Nat) (n0 : Nat) (I : MI) : Option (Int64) := bnd1 (f_X10_keyOf_l4 N a0 n0 0 1 I) fun x5 => some x5
set_option maxRecDepth 100000 in
set_option maxHeartbeats 4000000 in
theorem kb_X10_keyOf {G : GX} {Q : State → Prop} {X : MX} {a0 : Nat} {n0 : Nat} (h0 : X.1 a0 = (2, n0)) {N : Nat} {I : MI} {L : ML} {out : Int64} (hf : f_X10_keyOf N a0 n0 I = some out) (hR : ∀ (z : Int64), out = z → Q = RetQ G (some (.long z)) X I L (0, 0)) : Ex G mX10_keyOf rmX10_keyOf Q (0, 0) X I L 0 [(0, .ref (gB G + a0))] [] := by
  unfold f_X10_keyOf at hf
  refine ex_lconst (v := 0) (pc' := 1) dX10_keyOf_0 lc_0 rfl ?_
  refine ex_lstore_n (lv' := [(1, .long 0), (0, .ref (gB G + a0))]) (pc' := 2) dX10_keyOf_1 rfl (Nat.le_of_ble_eq_true rfl) rfl rfl ?_
  refine ex_iconst (v := 1) (pc' := 3) dX10_keyOf_2 ic_1 rfl ?_
  refine ex_istore_n (lv' := [(3, .int 1), (1, .long 0), (0, .ref (gB G + a0))]) (pc' := 4) dX10_keyOf_3 rfl (Nat.le_of_ble_eq_true rfl) rfl rfl ?_
  refine ex_sub (lv' := [(0, .ref (gB G + a0)), (1, .long 0), (3, .int 1)]) [2, 1, 0] rfl ?_
  obtain ⟨x5, hq6, hf⟩ := of_bnd1 hf
  refine k_X10_keyOf_l4 h0 (fun x5' he => ?_) _ _ _ hq6
  cases he
  refine ex_lload_n 0 (pc' := 30) dX10_keyOf_29 rfl rfl rfl ?_
  exact ex_lret dX10_keyOf_30 rfl (hR _ (Option.some.inj hf).symm)
set_option maxRecDepth 100000 in
set_option maxHeartbeats 4000000 in
theorem k_X10_keyOf (G : GX) {X : MX} {a0 : Nat} {n0 : Nat} (h0 : X.1 a0 = (2, n0)) {N : Nat} {I : MI} {L : ML} {z : Int64} (hf : f_X10_keyOf N a0 n0 I = some z) : Con G mX10_keyOf yX10_keyOf rmX10_keyOf (fun B => [.ref (B + a0)]) X I L (some (.long z)) X I L :=
  Con.of (by decide) rfl (fun h => by cases h) (fun B => Nat.le_of_ble_eq_true rfl) (fun G => kb_X10_keyOf h0 hf (fun _ he => by cases he; rfl))
-- X10_letter ('RookWords', 'letter', '(II)I')
def rmX10_letter : RM := ((1, 23, 0, 0), false, (some FieldType.int))
def f_X10_letter_j21 (N : Nat) (v1 : Int32) (v2 : Int32) (I : MI) : Option (Int32 × MI) := if inb v1 6 then bnd1 (f_X9_hasRoom (10 + 4 * (Int32.toNatClampNeg v1)) 1 I) fun r6 => (if r6 = 0 then some ((-4), I) else bnd1 (f_X9_push N (10 + 4 * (Int32.toNatClampNeg v1)) v2 1 I) fun I9 => some (I9 (10 + 4 * (Int32.toNatClampNeg v1)) 1, I9)) else none
set_option maxRecDepth 100000 in
set_option maxHeartbeats 4000000 in
theorem k_X10_letter_j21 {G : GX} {Q : State → Prop} {X : MX} (hM : shX10 X) {v1 : Int32} {v2 : Int32}  {N : Nat} {I : MI} {L : ML} {out : Int32 × MI} (hf : f_X10_letter_j21 N v1 v2 I = some out) (hR : ∀ (z : Int32) (I' : MI), out = (z, I') → Q = RetQ G (some (.int z)) X I' L (0, 0)) : Ex G mX10_letter rmX10_letter Q (0, 0) X I L 21 [(0, .ref (gB G + 0)), (1, .int v1), (2, .int v2)] [] := by
  unfold f_X10_letter_j21 at hf
  refine ex_aload_n 0 (pc' := 22) dX10_letter_21 rfl rfl rfl ?_
  refine ex_getR (pc' := 25) dX10_letter_22 fl_X10_12 rfl (sh10_k hM) (sh10_F0 hM) rfl ?_
  refine ex_getR (pc' := 28) dX10_letter_25 fl_X10_70 rfl (sh5_k (sh10_T0 hM)) (sh5_F0 (sh10_T0 hM)) rfl ?_
  refine ex_iload_n 1 (pc' := 29) dX10_letter_28 rfl rfl rfl ?_
  obtain ⟨hg5, hf⟩ := of_guard hf
  refine ex_aaldS (pc' := 30) dX10_letter_29 (sh5_T0 (sh10_T0 hM)) (by decide) (by decide) (inb_in hg5) (sh5_E0 (sh10_T0 hM) _ (inb_lt hg5)) rfl ?_
  refine ex_astore_n (lv' := [(3, .ref (gB G + (10 + 4 * (Int32.toNatClampNeg v1)))), (0, .ref (gB G + 0)), (1, .int v1), (2, .int v2)]) (pc' := 31) dX10_letter_30 rfl (Nat.le_of_ble_eq_true rfl) rfl rfl ?_
  refine ex_aload_n 0 (pc' := 32) dX10_letter_31 rfl rfl rfl ?_
  refine ex_iconst (v := 1) (pc' := 33) dX10_letter_32 ic_1 rfl ?_
  obtain ⟨r6, hq7, hf⟩ := of_bnd1 hf
  refine ex_callV_i (rm' := rmX9_hasRoom) (st := []) (pc' := 36) [.int 1] dX10_letter_33 cl_X10_74 (k_X9_hasRoom G (sh5_O0 (sh10_T0 hM) _ (inb_lt hg5)) hq7) rfl (sh9_k (sh5_O0 (sh10_T0 hM) _ (inb_lt hg5))) ⟨_, _, rfl⟩ rfl rfl (ROOM_of rfl) (Nat.le_of_ble_eq_true rfl) rfl rfl ?_
  refine ex_ifne (tgt := 42) (pc' := 39) dX10_letter_36 (by decide) rfl (fun hc8 => ?_) (fun hc8 => ?_)
  · replace hf := if_t hc8 hf
    refine ex_bipush (v := (-4)) (pc' := 41) dX10_letter_39 bp_m4 rfl ?_
    exact ex_iret dX10_letter_41 rfl (hR _ _ (Option.some.inj hf).symm)
  · replace hf := if_f hc8 hf
    refine ex_aload_n 0 (pc' := 43) dX10_letter_42 rfl rfl rfl ?_
    refine ex_iload_n 3 (pc' := 44) dX10_letter_43 rfl rfl rfl ?_
    refine ex_iconst (v := 1) (pc' := 45) dX10_letter_44 ic_1 rfl ?_
    obtain ⟨I9, hq10, hf⟩ := of_bnd1 hf
    refine ex_callV_v (rm' := rmX9_push) (st := []) (pc' := 48) [.int v2, .int 1] dX10_letter_45 cl_X10_79 (k_X9_push G (sh5_O0 (sh10_T0 hM) _ (inb_lt hg5)) hq10) rfl (sh9_k (sh5_O0 (sh10_T0 hM) _ (inb_lt hg5))) ⟨_, _, rfl⟩ rfl rfl (ROOM_of rfl) (Nat.le_of_ble_eq_true rfl) rfl rfl ?_
    refine ex_aload_n 0 (pc' := 49) dX10_letter_48 rfl rfl rfl ?_
    refine ex_getI (pc' := 52) dX10_letter_49 fl_X10_83 rfl (sh9_k (sh5_O0 (sh10_T0 hM) _ (inb_lt hg5))) rfl ?_
    exact ex_iret dX10_letter_52 rfl (hR _ _ (Option.some.inj hf).symm)
def f_X10_letter (N : Nat) (v1 : Int32) (v2 : Int32) (I : MI) : Option (Int32 × MI) := bnd1 (f_X10_isPiece v1) fun r1 => (if r1 = 0 then some ((-1), I) else (if v2 = 0 then f_X10_letter_j21 N v1 v2 I else (if v2 = 1 then f_X10_letter_j21 N v1 v2 I else some ((-2), I))))
set_option maxRecDepth 100000 in
set_option maxHeartbeats 4000000 in
theorem kb_X10_letter {G : GX} {Q : State → Prop} {X : MX} (hM : shX10 X) {v1 : Int32} {v2 : Int32}  {N : Nat} {I : MI} {L : ML} {out : Int32 × MI} (hf : f_X10_letter N v1 v2 I = some out) (hR : ∀ (z : Int32) (I' : MI), out = (z, I') → Q = RetQ G (some (.int z)) X I' L (0, 0)) : Ex G mX10_letter rmX10_letter Q (0, 0) X I L 0 [(0, .ref (gB G + 0)), (1, .int v1), (2, .int v2)] [] := by
  unfold f_X10_letter at hf
  refine ex_iload_n 1 (pc' := 1) dX10_letter_0 rfl rfl rfl ?_
  obtain ⟨r1, hq2, hf⟩ := of_bnd1 hf
  refine ex_callS_i (rm' := rmX10_isPiece) (st := []) (pc' := 4) [.int v1] dX10_letter_1 cl_X10_66 (k_X10_isPiece G hq2) rfl rfl rfl (ROOM_of rfl) (Nat.le_of_ble_eq_true rfl) rfl rfl ?_
  refine ex_ifne (tgt := 9) (pc' := 7) dX10_letter_4 (by decide) rfl (fun hc3 => ?_) (fun hc3 => ?_)
  · replace hf := if_t hc3 hf
    refine ex_iconst (v := (-1)) (pc' := 8) dX10_letter_7 ic_m1 rfl ?_
    exact ex_iret dX10_letter_8 rfl (hR _ _ (Option.some.inj hf).symm)
  · replace hf := if_f hc3 hf
    refine ex_iload_n 2 (pc' := 10) dX10_letter_9 rfl rfl rfl ?_
    refine ex_ifeq (tgt := 21) (pc' := 13) dX10_letter_10 (by decide) rfl (fun hc4 => ?_) (fun hc4 => ?_)
    · replace hf := if_t hc4 hf
      refine ex_sub [0, 1, 2] rfl (k_X10_letter_j21 hM  hf hR)
    · replace hf := if_f hc4 hf
      refine ex_iload_n 2 (pc' := 14) dX10_letter_13 rfl rfl rfl ?_
      refine ex_iconst (v := 1) (pc' := 15) dX10_letter_14 ic_1 rfl ?_
      refine ex_icmpeq (tgt := 21) (pc' := 18) dX10_letter_15 (by decide) rfl (fun hc11 => ?_) (fun hc11 => ?_)
      · replace hf := if_t hc11 hf
        refine ex_sub [0, 1, 2] rfl (k_X10_letter_j21 hM  hf hR)
      · replace hf := if_f hc11 hf
        refine ex_bipush (v := (-2)) (pc' := 20) dX10_letter_18 bp_m2 rfl ?_
        exact ex_iret dX10_letter_20 rfl (hR _ _ (Option.some.inj hf).symm)
set_option maxRecDepth 100000 in
set_option maxHeartbeats 4000000 in
theorem k_X10_letter (G : GX) {X : MX} (hM : shX10 X) {v1 : Int32} {v2 : Int32}  {N : Nat} {I : MI} {L : ML} {z : Int32} {I' : MI} (hf : f_X10_letter N v1 v2 I = some (z, I')) : Con G mX10_letter yX10_letter rmX10_letter (fun B => [.ref (B + 0), .int v1, .int v2]) X I L (some (.int z)) X I' L :=
  Con.of (by decide) rfl (fun h => by cases h) (fun B => Nat.le_of_ble_eq_true rfl) (fun G => kb_X10_letter hM  hf (fun _ _ he => by cases he; rfl))
theorem cl_X10_278 : CLV RX10 278 yX4_listedStand mX4_listedStand (some FieldType.int) 4 := ⟨⟨lwg_at 751 (by decide +kernel) rfl, lwg_at 752 (by decide +kernel) rfl, lwg_at 753 (by decide +kernel) rfl, lwg_at 60 (by decide +kernel) rfl⟩, lwg_at 754 (by decide +kernel) rfl, ⟨by decide +kernel, by decide +kernel, by decide +kernel⟩⟩
theorem cl_X10_282 : CLV RX10 282 yX4_listedWeight mX4_listedWeight (some FieldType.int) 1 := ⟨⟨lwg_at 762 (by decide +kernel) rfl, lwg_at 763 (by decide +kernel) rfl, lwg_at 764 (by decide +kernel) rfl, lwg_at 60 (by decide +kernel) rfl⟩, lwg_at 765 (by decide +kernel) rfl, ⟨by decide +kernel, by decide +kernel, by decide +kernel⟩⟩
theorem cl_X10_285 : CLS RX10 285 yX4_columnInStand mX4_columnInStand (some FieldType.int) 3 := ⟨⟨lwg_at 766 (by decide +kernel) rfl, lwg_at 767 (by decide +kernel) rfl, lwg_at 60 (by decide +kernel) rfl⟩, lwg_at 768 (by decide +kernel) rfl, ⟨by decide +kernel, by decide +kernel, by decide +kernel⟩⟩
-- X10_listed ('RookWords', 'listed', '(IIII)I')
def rmX10_listed : RM := ((4, 104, 0, 0), false, (some FieldType.int))
def f_X10_listed (N : Nat) (v1 : Int32) (v2 : Int32) (v3 : Int32) (v4 : Int32) (I : MI) : Option (Int32 × MI) := bnd1 (f_X10_isPiece v1) fun r1 => (if r1 = 0 then some ((-1), I) else (if v3 < 0 then some ((-1), I) else (if v4 < (-1) then some ((-1), I) else if inb v1 6 then (if v4 < (I (12 + 4 * (Int32.toNatClampNeg v1)) 0) then (if v2 < 0 then some ((-2), I) else if inb v1 6 then (if 4 < (I (12 + 4 * (Int32.toNatClampNeg v1)) 0) then some ((-3), I) else bnd2 (f_X4_listedStand N (12 + 4 * (Int32.toNatClampNeg v1)) 7 36 v2 v3 I) fun r11 I12 => (if r11 < 0 then some ((-5), I12) else (if v4 = (-1) then bnd1 (f_X4_listedWeight r11 I12) fun r16 => some (r16, I12) else bnd1 (f_X4_columnInStand N r11 (I12 (12 + 4 * (Int32.toNatClampNeg v1)) 0) v4) fun r18 => some (r18, I12)))) else none) else some ((-1), I)) else none)))
set_option maxRecDepth 100000 in
set_option maxHeartbeats 4000000 in
theorem kb_X10_listed {G : GX} {Q : State → Prop} {X : MX} (hM : shX10 X) {v1 : Int32} {v2 : Int32} {v3 : Int32} {v4 : Int32}  {N : Nat} {I : MI} {L : ML} {out : Int32 × MI} (hf : f_X10_listed N v1 v2 v3 v4 I = some out) (hR : ∀ (z : Int32) (I' : MI), out = (z, I') → Q = RetQ G (some (.int z)) X I' L (0, 0)) : Ex G mX10_listed rmX10_listed Q (0, 0) X I L 0 [(0, .ref (gB G + 0)), (1, .int v1), (2, .int v2), (3, .int v3), (4, .int v4)] [] := by
  unfold f_X10_listed at hf
  refine ex_iload_n 1 (pc' := 1) dX10_listed_0 rfl rfl rfl ?_
  obtain ⟨r1, hq2, hf⟩ := of_bnd1 hf
  refine ex_callS_i (rm' := rmX10_isPiece) (st := []) (pc' := 4) [.int v1] dX10_listed_1 cl_X10_66 (k_X10_isPiece G hq2) rfl rfl rfl (ROOM_of rfl) (Nat.le_of_ble_eq_true rfl) rfl rfl ?_
  refine ex_ifeq (tgt := 34) (pc' := 7) dX10_listed_4 (by decide) rfl (fun hc3 => ?_) (fun hc3 => ?_)
  · replace hf := if_t hc3 hf
    refine ex_iconst (v := (-1)) (pc' := 35) dX10_listed_34 ic_m1 rfl ?_
    exact ex_iret dX10_listed_35 rfl (hR _ _ (Option.some.inj hf).symm)
  · replace hf := if_f hc3 hf
    refine ex_iload_n 3 (pc' := 8) dX10_listed_7 rfl rfl rfl ?_
    refine ex_iflt (tgt := 34) (pc' := 11) dX10_listed_8 (by decide) rfl (fun hc4 => ?_) (fun hc4 => ?_)
    · replace hf := if_t hc4 hf
      refine ex_iconst (v := (-1)) (pc' := 35) dX10_listed_34 ic_m1 rfl ?_
      exact ex_iret dX10_listed_35 rfl (hR _ _ (Option.some.inj hf).symm)
    · replace hf := if_f hc4 hf
      refine ex_iload 4 (pc' := 13) dX10_listed_11 rfl rfl ?_
      refine ex_iconst (v := (-1)) (pc' := 14) dX10_listed_13 ic_m1 rfl ?_
      refine ex_icmplt (tgt := 34) (pc' := 17) dX10_listed_14 (by decide) rfl (fun hc5 => ?_) (fun hc5 => ?_)
      · replace hf := if_t hc5 hf
        refine ex_iconst (v := (-1)) (pc' := 35) dX10_listed_34 ic_m1 rfl ?_
        exact ex_iret dX10_listed_35 rfl (hR _ _ (Option.some.inj hf).symm)
      · replace hf := if_f hc5 hf
        refine ex_iload 4 (pc' := 19) dX10_listed_17 rfl rfl ?_
        refine ex_aload_n 0 (pc' := 20) dX10_listed_19 rfl rfl rfl ?_
        refine ex_getR (pc' := 23) dX10_listed_20 fl_X10_12 rfl (sh10_k hM) (sh10_F0 hM) rfl ?_
        refine ex_getR (pc' := 26) dX10_listed_23 fl_X10_143 rfl (sh5_k (sh10_T0 hM)) (sh5_F2 (sh10_T0 hM)) rfl ?_
        refine ex_iload_n 1 (pc' := 27) dX10_listed_26 rfl rfl rfl ?_
        obtain ⟨hg6, hf⟩ := of_guard hf
        refine ex_aaldS (pc' := 28) dX10_listed_27 (sh5_T2 (sh10_T0 hM)) (by decide) (by decide) (inb_in hg6) (sh5_E2 (sh10_T0 hM) _ (inb_lt hg6)) rfl ?_
        refine ex_getI (pc' := 31) dX10_listed_28 fl_X10_147 rfl (sh0_k (sh5_O2 (sh10_T0 hM) _ (inb_lt hg6))) rfl ?_
        refine ex_icmplt (tgt := 36) (pc' := 34) dX10_listed_31 (by decide) rfl (fun hc7 => ?_) (fun hc7 => ?_)
        · replace hf := if_t hc7 hf
          refine ex_iload_n 2 (pc' := 37) dX10_listed_36 rfl rfl rfl ?_
          refine ex_ifge (tgt := 43) (pc' := 40) dX10_listed_37 (by decide) rfl (fun hc8 => ?_) (fun hc8 => ?_)
          · replace hf := if_t hc8 hf
            refine ex_bipush (v := (-2)) (pc' := 42) dX10_listed_40 bp_m2 rfl ?_
            exact ex_iret dX10_listed_42 rfl (hR _ _ (Option.some.inj hf).symm)
          · replace hf := if_f hc8 hf
            refine ex_aload_n 0 (pc' := 44) dX10_listed_43 rfl rfl rfl ?_
            refine ex_getR (pc' := 47) dX10_listed_44 fl_X10_12 rfl (sh10_k hM) (sh10_F0 hM) rfl ?_
            refine ex_getR (pc' := 50) dX10_listed_47 fl_X10_143 rfl (sh5_k (sh10_T0 hM)) (sh5_F2 (sh10_T0 hM)) rfl ?_
            refine ex_iload_n 1 (pc' := 51) dX10_listed_50 rfl rfl rfl ?_
            obtain ⟨hg9, hf⟩ := of_guard hf
            refine ex_aaldS (pc' := 52) dX10_listed_51 (sh5_T2 (sh10_T0 hM)) (by decide) (by decide) (inb_in hg9) (sh5_E2 (sh10_T0 hM) _ (inb_lt hg9)) rfl ?_
            refine ex_astore (lv' := [(5, .ref (gB G + (12 + 4 * (Int32.toNatClampNeg v1)))), (0, .ref (gB G + 0)), (1, .int v1), (2, .int v2), (3, .int v3), (4, .int v4)]) (pc' := 54) dX10_listed_52 (Nat.le_of_ble_eq_true rfl) rfl rfl ?_
            refine ex_aload 0 (pc' := 56) dX10_listed_54 rfl rfl ?_
            refine ex_getI (pc' := 59) dX10_listed_56 fl_X10_147 rfl (sh0_k (sh5_O2 (sh10_T0 hM) _ (inb_lt hg9))) rfl ?_
            refine ex_iconst (v := 4) (pc' := 60) dX10_listed_59 ic_4 rfl ?_
            refine ex_icmple (tgt := 66) (pc' := 63) dX10_listed_60 (by decide) rfl (fun hc10 => ?_) (fun hc10 => ?_)
            · replace hf := if_t hc10 hf
              refine ex_bipush (v := (-3)) (pc' := 65) dX10_listed_63 bp_m3 rfl ?_
              exact ex_iret dX10_listed_65 rfl (hR _ _ (Option.some.inj hf).symm)
            · replace hf := if_f hc10 hf
              refine ex_aload_n 1 (pc' := 67) dX10_listed_66 rfl rfl rfl ?_
              refine ex_getR (pc' := 70) dX10_listed_67 fl_X10_52 rfl (sh10_k hM) (sh10_F7 hM) rfl ?_
              refine ex_aload 0 (pc' := 72) dX10_listed_70 rfl rfl ?_
              refine ex_aload_n 1 (pc' := 73) dX10_listed_72 rfl rfl rfl ?_
              refine ex_getR (pc' := 76) dX10_listed_73 fl_X10_12 rfl (sh10_k hM) (sh10_F0 hM) rfl ?_
              refine ex_getR (pc' := 79) dX10_listed_76 fl_X10_268 rfl (sh5_k (sh10_T0 hM)) (sh5_F3 (sh10_T0 hM)) rfl ?_
              refine ex_iload_n 3 (pc' := 80) dX10_listed_79 rfl rfl rfl ?_
              refine ex_iload_n 4 (pc' := 81) dX10_listed_80 rfl rfl rfl ?_
              obtain ⟨r11, I12, hq13, hf⟩ := of_bnd2 hf
              refine ex_callV_i (rm' := rmX4_listedStand) (st := []) (pc' := 84) [.ref (gB G + (12 + 4 * (Int32.toNatClampNeg v1))), .ref (gB G + 7), .int v2, .int v3] dX10_listed_81 cl_X10_278 (k_X4_listedStand G hM (sh5_O2 (sh10_T0 hM) _ (inb_lt hg9)) (sh5_T3 (sh10_T0 hM)) hq13) rfl (sh4_k (sh10_T7 hM)) ⟨_, _, rfl⟩ rfl rfl (ROOM_of rfl) (Nat.le_of_ble_eq_true rfl) rfl rfl ?_
              refine ex_istore (lv' := [(6, .int r11), (5, .ref (gB G + (12 + 4 * (Int32.toNatClampNeg v1)))), (0, .ref (gB G + 0)), (1, .int v1), (2, .int v2), (3, .int v3), (4, .int v4)]) (pc' := 86) dX10_listed_84 (Nat.le_of_ble_eq_true rfl) rfl rfl ?_
              refine ex_iload 0 (pc' := 88) dX10_listed_86 rfl rfl ?_
              refine ex_ifge (tgt := 94) (pc' := 91) dX10_listed_88 (by decide) rfl (fun hc14 => ?_) (fun hc14 => ?_)
              · replace hf := if_t hc14 hf
                refine ex_bipush (v := (-5)) (pc' := 93) dX10_listed_91 bp_m5 rfl ?_
                exact ex_iret dX10_listed_93 rfl (hR _ _ (Option.some.inj hf).symm)
              · replace hf := if_f hc14 hf
                refine ex_iload 6 (pc' := 96) dX10_listed_94 rfl rfl ?_
                refine ex_iconst (v := (-1)) (pc' := 97) dX10_listed_96 ic_m1 rfl ?_
                refine ex_icmpne (tgt := 112) (pc' := 100) dX10_listed_97 (by decide) rfl (fun hc15 => ?_) (fun hc15 => ?_)
                · replace hf := if_t hc15 hf
                  refine ex_aload_n 2 (pc' := 101) dX10_listed_100 rfl rfl rfl ?_
                  refine ex_getR (pc' := 104) dX10_listed_101 fl_X10_52 rfl (sh10_k hM) (sh10_F7 hM) rfl ?_
                  refine ex_iload 0 (pc' := 106) dX10_listed_104 rfl rfl ?_
                  obtain ⟨r16, hq17, hf⟩ := of_bnd1 hf
                  refine ex_callV_i (rm' := rmX4_listedWeight) (st := []) (pc' := 109) [.int r11] dX10_listed_106 cl_X10_282 (k_X4_listedWeight G hM hq17) rfl (sh4_k (sh10_T7 hM)) ⟨_, _, rfl⟩ rfl rfl (ROOM_of rfl) (Nat.le_of_ble_eq_true rfl) rfl rfl ?_
                  refine ex_goto (tgt := 124) dX10_listed_109 (by decide) ?_
                  exact ex_iret dX10_listed_124 rfl (hR _ _ (Option.some.inj hf).symm)
                · replace hf := if_f hc15 hf
                  refine ex_iload 0 (pc' := 114) dX10_listed_112 rfl rfl ?_
                  refine ex_aload 1 (pc' := 116) dX10_listed_114 rfl rfl ?_
                  refine ex_getI (pc' := 119) dX10_listed_116 fl_X10_147 rfl (sh0_k (sh5_O2 (sh10_T0 hM) _ (inb_lt hg9))) rfl ?_
                  refine ex_iload 6 (pc' := 121) dX10_listed_119 rfl rfl ?_
                  obtain ⟨r18, hq19, hf⟩ := of_bnd1 hf
                  refine ex_callS_i (rm' := rmX4_columnInStand) (st := []) (pc' := 124) [.int r11, .int (I12 (12 + 4 * (Int32.toNatClampNeg v1)) 0), .int v4] dX10_listed_121 cl_X10_285 (k_X4_columnInStand G hq19) rfl rfl rfl (ROOM_of rfl) (Nat.le_of_ble_eq_true rfl) rfl rfl ?_
                  exact ex_iret dX10_listed_124 rfl (hR _ _ (Option.some.inj hf).symm)
        · replace hf := if_f hc7 hf
          refine ex_iconst (v := (-1)) (pc' := 35) dX10_listed_34 ic_m1 rfl ?_
          exact ex_iret dX10_listed_35 rfl (hR _ _ (Option.some.inj hf).symm)
set_option maxRecDepth 100000 in
set_option maxHeartbeats 4000000 in
theorem k_X10_listed (G : GX) {X : MX} (hM : shX10 X) {v1 : Int32} {v2 : Int32} {v3 : Int32} {v4 : Int32}  {N : Nat} {I : MI} {L : ML} {z : Int32} {I' : MI} (hf : f_X10_listed N v1 v2 v3 v4 I = some (z, I')) : Con G mX10_listed yX10_listed rmX10_listed (fun B => [.ref (B + 0), .int v1, .int v2, .int v3, .int v4]) X I L (some (.int z)) X I' L :=
  Con.of (by decide) rfl (fun h => by cases h) (fun B => Nat.le_of_ble_eq_true rfl) (fun G => kb_X10_listed hM  hf (fun _ _ he => by cases he; rfl))
theorem cl_X10_296 : CLV RX10 296 yX4_drawLots mX4_drawLots (some FieldType.int) 4 := ⟨⟨lwg_at 785 (by decide +kernel) rfl, lwg_at 786 (by decide +kernel) rfl, lwg_at 787 (by decide +kernel) rfl, lwg_at 60 (by decide +kernel) rfl⟩, lwg_at 788 (by decide +kernel) rfl, ⟨by decide +kernel, by decide +kernel, by decide +kernel⟩⟩
-- X10_lots ('RookWords', 'lots', '(IIII)I')
def rmX10_lots : RM := ((2, 55, 0, 0), false, (some FieldType.int))
def f_X10_lots (N : Nat) (v1 : Int32) (v2 : Int32) (v3 : Int32) (v4 : Int32) (I : MI) : Option (Int32) := bnd1 (f_X10_isPiece v1) fun r1 => (if r1 = 0 then some (-1) else (if v4 < 0 then some (-1) else (if 1 < v4 then some (-1) else (if v2 < 1 then some (-2) else (if 40 < v2 then some (-2) else if inb v1 6 then (if v4 = 0 then bnd1 (f_X4_drawLots N (12 + 4 * (Int32.toNatClampNeg v1)) v2 v3 1 I) fun r10 => some r10 else bnd1 (f_X4_drawLots N (12 + 4 * (Int32.toNatClampNeg v1)) v2 v3 0 I) fun r12 => some r12) else none)))))
set_option maxRecDepth 100000 in
set_option maxHeartbeats 4000000 in
theorem kb_X10_lots {G : GX} {Q : State → Prop} {X : MX} (hM : shX10 X) {v1 : Int32} {v2 : Int32} {v3 : Int32} {v4 : Int32}  {N : Nat} {I : MI} {L : ML} {out : Int32} (hf : f_X10_lots N v1 v2 v3 v4 I = some out) (hR : ∀ (z : Int32), out = z → Q = RetQ G (some (.int z)) X I L (0, 0)) : Ex G mX10_lots rmX10_lots Q (0, 0) X I L 0 [(0, .ref (gB G + 0)), (1, .int v1), (2, .int v2), (3, .int v3), (4, .int v4)] [] := by
  unfold f_X10_lots at hf
  refine ex_iload_n 1 (pc' := 1) dX10_lots_0 rfl rfl rfl ?_
  obtain ⟨r1, hq2, hf⟩ := of_bnd1 hf
  refine ex_callS_i (rm' := rmX10_isPiece) (st := []) (pc' := 4) [.int v1] dX10_lots_1 cl_X10_66 (k_X10_isPiece G hq2) rfl rfl rfl (ROOM_of rfl) (Nat.le_of_ble_eq_true rfl) rfl rfl ?_
  refine ex_ifeq (tgt := 18) (pc' := 7) dX10_lots_4 (by decide) rfl (fun hc3 => ?_) (fun hc3 => ?_)
  · replace hf := if_t hc3 hf
    refine ex_iconst (v := (-1)) (pc' := 19) dX10_lots_18 ic_m1 rfl ?_
    exact ex_iret dX10_lots_19 rfl (hR _ (Option.some.inj hf).symm)
  · replace hf := if_f hc3 hf
    refine ex_iload 4 (pc' := 9) dX10_lots_7 rfl rfl ?_
    refine ex_iflt (tgt := 18) (pc' := 12) dX10_lots_9 (by decide) rfl (fun hc4 => ?_) (fun hc4 => ?_)
    · replace hf := if_t hc4 hf
      refine ex_iconst (v := (-1)) (pc' := 19) dX10_lots_18 ic_m1 rfl ?_
      exact ex_iret dX10_lots_19 rfl (hR _ (Option.some.inj hf).symm)
    · replace hf := if_f hc4 hf
      refine ex_iload 4 (pc' := 14) dX10_lots_12 rfl rfl ?_
      refine ex_iconst (v := 1) (pc' := 15) dX10_lots_14 ic_1 rfl ?_
      refine ex_icmple (tgt := 20) (pc' := 18) dX10_lots_15 (by decide) rfl (fun hc5 => ?_) (fun hc5 => ?_)
      · replace hf := if_t hc5 hf
        refine ex_iconst (v := (-1)) (pc' := 19) dX10_lots_18 ic_m1 rfl ?_
        exact ex_iret dX10_lots_19 rfl (hR _ (Option.some.inj hf).symm)
      · replace hf := if_f hc5 hf
        refine ex_iload_n 2 (pc' := 21) dX10_lots_20 rfl rfl rfl ?_
        refine ex_iconst (v := 1) (pc' := 22) dX10_lots_21 ic_1 rfl ?_
        refine ex_icmplt (tgt := 31) (pc' := 25) dX10_lots_22 (by decide) rfl (fun hc6 => ?_) (fun hc6 => ?_)
        · replace hf := if_t hc6 hf
          refine ex_bipush (v := (-2)) (pc' := 33) dX10_lots_31 bp_m2 rfl ?_
          exact ex_iret dX10_lots_33 rfl (hR _ (Option.some.inj hf).symm)
        · replace hf := if_f hc6 hf
          refine ex_iload_n 2 (pc' := 26) dX10_lots_25 rfl rfl rfl ?_
          refine ex_bipush (v := 40) (pc' := 28) dX10_lots_26 bp_40 rfl ?_
          refine ex_icmple (tgt := 34) (pc' := 31) dX10_lots_28 (by decide) rfl (fun hc7 => ?_) (fun hc7 => ?_)
          · replace hf := if_t hc7 hf
            refine ex_bipush (v := (-2)) (pc' := 33) dX10_lots_31 bp_m2 rfl ?_
            exact ex_iret dX10_lots_33 rfl (hR _ (Option.some.inj hf).symm)
          · replace hf := if_f hc7 hf
            refine ex_aload_n 0 (pc' := 35) dX10_lots_34 rfl rfl rfl ?_
            refine ex_getR (pc' := 38) dX10_lots_35 fl_X10_52 rfl (sh10_k hM) (sh10_F7 hM) rfl ?_
            refine ex_aload_n 0 (pc' := 39) dX10_lots_38 rfl rfl rfl ?_
            refine ex_getR (pc' := 42) dX10_lots_39 fl_X10_12 rfl (sh10_k hM) (sh10_F0 hM) rfl ?_
            refine ex_getR (pc' := 45) dX10_lots_42 fl_X10_143 rfl (sh5_k (sh10_T0 hM)) (sh5_F2 (sh10_T0 hM)) rfl ?_
            refine ex_iload_n 1 (pc' := 46) dX10_lots_45 rfl rfl rfl ?_
            obtain ⟨hg8, hf⟩ := of_guard hf
            refine ex_aaldS (pc' := 47) dX10_lots_46 (sh5_T2 (sh10_T0 hM)) (by decide) (by decide) (inb_in hg8) (sh5_E2 (sh10_T0 hM) _ (inb_lt hg8)) rfl ?_
            refine ex_iload_n 2 (pc' := 48) dX10_lots_47 rfl rfl rfl ?_
            refine ex_iload_n 3 (pc' := 49) dX10_lots_48 rfl rfl rfl ?_
            refine ex_iload 4 (pc' := 51) dX10_lots_49 rfl rfl ?_
            refine ex_ifne (tgt := 58) (pc' := 54) dX10_lots_51 (by decide) rfl (fun hc9 => ?_) (fun hc9 => ?_)
            · replace hf := if_t hc9 hf
              refine ex_iconst (v := 1) (pc' := 55) dX10_lots_54 ic_1 rfl ?_
              refine ex_goto (tgt := 59) dX10_lots_55 (by decide) ?_
              obtain ⟨r10, hq11, hf⟩ := of_bnd1 hf
              refine ex_callV_i (rm' := rmX4_drawLots) (st := []) (pc' := 62) [.ref (gB G + (12 + 4 * (Int32.toNatClampNeg v1))), .int v2, .int v3, .int 1] dX10_lots_59 cl_X10_296 (k_X4_drawLots G (sh5_O2 (sh10_T0 hM) _ (inb_lt hg8)) hq11) rfl (sh4_k (sh10_T7 hM)) ⟨_, _, rfl⟩ rfl rfl (ROOM_of rfl) (Nat.le_of_ble_eq_true rfl) rfl rfl ?_
              exact ex_iret dX10_lots_62 rfl (hR _ (Option.some.inj hf).symm)
            · replace hf := if_f hc9 hf
              refine ex_iconst (v := 0) (pc' := 59) dX10_lots_58 ic_0 rfl ?_
              obtain ⟨r12, hq13, hf⟩ := of_bnd1 hf
              refine ex_callV_i (rm' := rmX4_drawLots) (st := []) (pc' := 62) [.ref (gB G + (12 + 4 * (Int32.toNatClampNeg v1))), .int v2, .int v3, .int 0] dX10_lots_59 cl_X10_296 (k_X4_drawLots G (sh5_O2 (sh10_T0 hM) _ (inb_lt hg8)) hq13) rfl (sh4_k (sh10_T7 hM)) ⟨_, _, rfl⟩ rfl rfl (ROOM_of rfl) (Nat.le_of_ble_eq_true rfl) rfl rfl ?_
              exact ex_iret dX10_lots_62 rfl (hR _ (Option.some.inj hf).symm)
set_option maxRecDepth 100000 in
set_option maxHeartbeats 4000000 in
theorem k_X10_lots (G : GX) {X : MX} (hM : shX10 X) {v1 : Int32} {v2 : Int32} {v3 : Int32} {v4 : Int32}  {N : Nat} {I : MI} {L : ML} {z : Int32} (hf : f_X10_lots N v1 v2 v3 v4 I = some z) : Con G mX10_lots yX10_lots rmX10_lots (fun B => [.ref (B + 0), .int v1, .int v2, .int v3, .int v4]) X I L (some (.int z)) X I L :=
  Con.of (by decide) rfl (fun h => by cases h) (fun B => Nat.le_of_ble_eq_true rfl) (fun G => kb_X10_lots hM  hf (fun _ he => by cases he; rfl))
theorem ic_5 : Int32.ofInt 5 = 5 := by decide
theorem cl_X10_87 : CLV RX10 87 yX9_fillByKind mX9_fillByKind none 2 := ⟨⟨lwg_at 328 (by decide +kernel) rfl, lwg_at 329 (by decide +kernel) rfl, lwg_at 330 (by decide +kernel) rfl, lwg_at 53 (by decide +kernel) rfl⟩, lwg_at 331 (by decide +kernel) rfl, ⟨by decide +kernel, by decide +kernel, by decide +kernel⟩⟩
-- X10_make ('RookWords', 'make', '(III)I')
def rmX10_make : RM := ((3, 69, 0, 0), false, (some FieldType.int))
def f_X10_make (N : Nat) (v1 : Int32) (v2 : Int32) (v3 : Int32) (I : MI) : Option (Int32 × MI) := bnd1 (f_X10_isPiece v1) fun r1 => (if r1 = 0 then some ((-1), I) else (if v2 < 0 then some ((-1), I) else (if 5 < v2 then some ((-1), I) else (if v3 < 0 then some ((-2), I) else (if 6 < v3 then some ((-2), I) else if inb v1 6 then letv (upI I (10 + 4 * (Int32.toNatClampNeg v1)) 1 0) fun I9 => bnd1 (f_X9_fillByKind N (10 + 4 * (Int32.toNatClampNeg v1)) v2 v3 I9) fun I10 => some (I10 (10 + 4 * (Int32.toNatClampNeg v1)) 1, I10) else none)))))
set_option maxRecDepth 100000 in
set_option maxHeartbeats 4000000 in
theorem kb_X10_make {G : GX} {Q : State → Prop} {X : MX} (hM : shX10 X) {v1 : Int32} {v2 : Int32} {v3 : Int32}  {N : Nat} {I : MI} {L : ML} {out : Int32 × MI} (hf : f_X10_make N v1 v2 v3 I = some out) (hR : ∀ (z : Int32) (I' : MI), out = (z, I') → Q = RetQ G (some (.int z)) X I' L (0, 0)) : Ex G mX10_make rmX10_make Q (0, 0) X I L 0 [(0, .ref (gB G + 0)), (1, .int v1), (2, .int v2), (3, .int v3)] [] := by
  unfold f_X10_make at hf
  refine ex_iload_n 1 (pc' := 1) dX10_make_0 rfl rfl rfl ?_
  obtain ⟨r1, hq2, hf⟩ := of_bnd1 hf
  refine ex_callS_i (rm' := rmX10_isPiece) (st := []) (pc' := 4) [.int v1] dX10_make_1 cl_X10_66 (k_X10_isPiece G hq2) rfl rfl rfl (ROOM_of rfl) (Nat.le_of_ble_eq_true rfl) rfl rfl ?_
  refine ex_ifeq (tgt := 16) (pc' := 7) dX10_make_4 (by decide) rfl (fun hc3 => ?_) (fun hc3 => ?_)
  · replace hf := if_t hc3 hf
    refine ex_iconst (v := (-1)) (pc' := 17) dX10_make_16 ic_m1 rfl ?_
    exact ex_iret dX10_make_17 rfl (hR _ _ (Option.some.inj hf).symm)
  · replace hf := if_f hc3 hf
    refine ex_iload_n 2 (pc' := 8) dX10_make_7 rfl rfl rfl ?_
    refine ex_iflt (tgt := 16) (pc' := 11) dX10_make_8 (by decide) rfl (fun hc4 => ?_) (fun hc4 => ?_)
    · replace hf := if_t hc4 hf
      refine ex_iconst (v := (-1)) (pc' := 17) dX10_make_16 ic_m1 rfl ?_
      exact ex_iret dX10_make_17 rfl (hR _ _ (Option.some.inj hf).symm)
    · replace hf := if_f hc4 hf
      refine ex_iload_n 2 (pc' := 12) dX10_make_11 rfl rfl rfl ?_
      refine ex_iconst (v := 5) (pc' := 13) dX10_make_12 ic_5 rfl ?_
      refine ex_icmple (tgt := 18) (pc' := 16) dX10_make_13 (by decide) rfl (fun hc5 => ?_) (fun hc5 => ?_)
      · replace hf := if_t hc5 hf
        refine ex_iconst (v := (-1)) (pc' := 17) dX10_make_16 ic_m1 rfl ?_
        exact ex_iret dX10_make_17 rfl (hR _ _ (Option.some.inj hf).symm)
      · replace hf := if_f hc5 hf
        refine ex_iload_n 3 (pc' := 19) dX10_make_18 rfl rfl rfl ?_
        refine ex_iflt (tgt := 28) (pc' := 22) dX10_make_19 (by decide) rfl (fun hc6 => ?_) (fun hc6 => ?_)
        · replace hf := if_t hc6 hf
          refine ex_bipush (v := (-2)) (pc' := 30) dX10_make_28 bp_m2 rfl ?_
          exact ex_iret dX10_make_30 rfl (hR _ _ (Option.some.inj hf).symm)
        · replace hf := if_f hc6 hf
          refine ex_iload_n 3 (pc' := 23) dX10_make_22 rfl rfl rfl ?_
          refine ex_bipush (v := 6) (pc' := 25) dX10_make_23 bp_6 rfl ?_
          refine ex_icmple (tgt := 31) (pc' := 28) dX10_make_25 (by decide) rfl (fun hc7 => ?_) (fun hc7 => ?_)
          · replace hf := if_t hc7 hf
            refine ex_bipush (v := (-2)) (pc' := 30) dX10_make_28 bp_m2 rfl ?_
            exact ex_iret dX10_make_30 rfl (hR _ _ (Option.some.inj hf).symm)
          · replace hf := if_f hc7 hf
            refine ex_aload_n 0 (pc' := 32) dX10_make_31 rfl rfl rfl ?_
            refine ex_getR (pc' := 35) dX10_make_32 fl_X10_12 rfl (sh10_k hM) (sh10_F0 hM) rfl ?_
            refine ex_getR (pc' := 38) dX10_make_35 fl_X10_70 rfl (sh5_k (sh10_T0 hM)) (sh5_F0 (sh10_T0 hM)) rfl ?_
            refine ex_iload_n 1 (pc' := 39) dX10_make_38 rfl rfl rfl ?_
            obtain ⟨hg8, hf⟩ := of_guard hf
            refine ex_aaldS (pc' := 40) dX10_make_39 (sh5_T0 (sh10_T0 hM)) (by decide) (by decide) (inb_in hg8) (sh5_E0 (sh10_T0 hM) _ (inb_lt hg8)) rfl ?_
            refine ex_astore (lv' := [(4, .ref (gB G + (10 + 4 * (Int32.toNatClampNeg v1)))), (0, .ref (gB G + 0)), (1, .int v1), (2, .int v2), (3, .int v3)]) (pc' := 42) dX10_make_40 (Nat.le_of_ble_eq_true rfl) rfl rfl ?_
            refine ex_aload 0 (pc' := 44) dX10_make_42 rfl rfl ?_
            refine ex_iconst (v := 0) (pc' := 45) dX10_make_44 ic_0 rfl ?_
            refine ex_putI (pc' := 48) dX10_make_45 fl_X10_83 rfl (sh9_k (sh5_O0 (sh10_T0 hM) _ (inb_lt hg8))) rfl ?_
            obtain ⟨I9, hI9, hf⟩ := of_let hf
            rw [← hI9]
            refine ex_aload 0 (pc' := 50) dX10_make_48 rfl rfl ?_
            refine ex_iload_n 3 (pc' := 51) dX10_make_50 rfl rfl rfl ?_
            refine ex_iload_n 4 (pc' := 52) dX10_make_51 rfl rfl rfl ?_
            obtain ⟨I10, hq11, hf⟩ := of_bnd1 hf
            refine ex_callV_v (rm' := rmX9_fillByKind) (st := []) (pc' := 55) [.int v2, .int v3] dX10_make_52 cl_X10_87 (k_X9_fillByKind G (sh5_O0 (sh10_T0 hM) _ (inb_lt hg8)) hq11) rfl (sh9_k (sh5_O0 (sh10_T0 hM) _ (inb_lt hg8))) ⟨_, _, rfl⟩ rfl rfl (ROOM_of rfl) (Nat.le_of_ble_eq_true rfl) rfl rfl ?_
            refine ex_aload 0 (pc' := 57) dX10_make_55 rfl rfl ?_
            refine ex_getI (pc' := 60) dX10_make_57 fl_X10_83 rfl (sh9_k (sh5_O0 (sh10_T0 hM) _ (inb_lt hg8))) rfl ?_
            exact ex_iret dX10_make_60 rfl (hR _ _ (Option.some.inj hf).symm)
set_option maxRecDepth 100000 in
set_option maxHeartbeats 4000000 in
theorem k_X10_make (G : GX) {X : MX} (hM : shX10 X) {v1 : Int32} {v2 : Int32} {v3 : Int32}  {N : Nat} {I : MI} {L : ML} {z : Int32} {I' : MI} (hf : f_X10_make N v1 v2 v3 I = some (z, I')) : Con G mX10_make yX10_make rmX10_make (fun B => [.ref (B + 0), .int v1, .int v2, .int v3]) X I L (some (.int z)) X I' L :=
  Con.of (by decide) rfl (fun h => by cases h) (fun B => Nat.le_of_ble_eq_true rfl) (fun G => kb_X10_make hM  hf (fun _ _ he => by cases he; rfl))
theorem cl_X10_292 : CLS RX10 292 yX10_inLowestTerms mX10_inLowestTerms (some FieldType.long) 3 := ⟨⟨lwg_at 774 (by decide +kernel) rfl, lwg_at 775 (by decide +kernel) rfl, lwg_at 50 (by decide +kernel) rfl⟩, lwg_at 776 (by decide +kernel) rfl, ⟨by decide +kernel, by decide +kernel, by decide +kernel⟩⟩
-- X10_mean ('RookWords', 'mean', '(II)J')
def rmX10_mean : RM := ((2, 44, 0, 0), false, (some FieldType.long))
def f_X10_mean (N : Nat) (v1 : Int32) (v2 : Int32) (I : MI) : Option (Int64) := bnd1 (f_X10_isPiece v1) fun r1 => (if r1 = 0 then some (-9223372036854775808) else (if v2 < 0 then some (-9223372036854775808) else (if 1 < v2 then some (-9223372036854775808) else if inb v1 6 then bnd1 (f_X0_cells N (12 + 4 * (Int32.toNatClampNeg v1)) I) fun r7 => bnd1 (f_X10_inLowestTerms N r7 (I (12 + 4 * (Int32.toNatClampNeg v1)) 0) v2) fun r9 => some r9 else none)))
set_option maxRecDepth 100000 in
set_option maxHeartbeats 4000000 in
theorem kb_X10_mean {G : GX} {Q : State → Prop} {X : MX} (hM : shX10 X) {v1 : Int32} {v2 : Int32}  {N : Nat} {I : MI} {L : ML} {out : Int64} (hf : f_X10_mean N v1 v2 I = some out) (hR : ∀ (z : Int64), out = z → Q = RetQ G (some (.long z)) X I L (0, 0)) : Ex G mX10_mean rmX10_mean Q (0, 0) X I L 0 [(0, .ref (gB G + 0)), (1, .int v1), (2, .int v2)] [] := by
  unfold f_X10_mean at hf
  refine ex_iload_n 1 (pc' := 1) dX10_mean_0 rfl rfl rfl ?_
  obtain ⟨r1, hq2, hf⟩ := of_bnd1 hf
  refine ex_callS_i (rm' := rmX10_isPiece) (st := []) (pc' := 4) [.int v1] dX10_mean_1 cl_X10_66 (k_X10_isPiece G hq2) rfl rfl rfl (ROOM_of rfl) (Nat.le_of_ble_eq_true rfl) rfl rfl ?_
  refine ex_ifeq (tgt := 16) (pc' := 7) dX10_mean_4 (by decide) rfl (fun hc3 => ?_) (fun hc3 => ?_)
  · replace hf := if_t hc3 hf
    refine ex_ldc2 (v := (-9223372036854775808)) (pc' := 19) dX10_mean_16 co_X10_101 rfl ?_
    exact ex_lret dX10_mean_19 rfl (hR _ (Option.some.inj hf).symm)
  · replace hf := if_f hc3 hf
    refine ex_iload_n 2 (pc' := 8) dX10_mean_7 rfl rfl rfl ?_
    refine ex_iflt (tgt := 16) (pc' := 11) dX10_mean_8 (by decide) rfl (fun hc4 => ?_) (fun hc4 => ?_)
    · replace hf := if_t hc4 hf
      refine ex_ldc2 (v := (-9223372036854775808)) (pc' := 19) dX10_mean_16 co_X10_101 rfl ?_
      exact ex_lret dX10_mean_19 rfl (hR _ (Option.some.inj hf).symm)
    · replace hf := if_f hc4 hf
      refine ex_iload_n 2 (pc' := 12) dX10_mean_11 rfl rfl rfl ?_
      refine ex_iconst (v := 1) (pc' := 13) dX10_mean_12 ic_1 rfl ?_
      refine ex_icmple (tgt := 20) (pc' := 16) dX10_mean_13 (by decide) rfl (fun hc5 => ?_) (fun hc5 => ?_)
      · replace hf := if_t hc5 hf
        refine ex_ldc2 (v := (-9223372036854775808)) (pc' := 19) dX10_mean_16 co_X10_101 rfl ?_
        exact ex_lret dX10_mean_19 rfl (hR _ (Option.some.inj hf).symm)
      · replace hf := if_f hc5 hf
        refine ex_aload_n 0 (pc' := 21) dX10_mean_20 rfl rfl rfl ?_
        refine ex_getR (pc' := 24) dX10_mean_21 fl_X10_12 rfl (sh10_k hM) (sh10_F0 hM) rfl ?_
        refine ex_getR (pc' := 27) dX10_mean_24 fl_X10_143 rfl (sh5_k (sh10_T0 hM)) (sh5_F2 (sh10_T0 hM)) rfl ?_
        refine ex_iload_n 1 (pc' := 28) dX10_mean_27 rfl rfl rfl ?_
        obtain ⟨hg6, hf⟩ := of_guard hf
        refine ex_aaldS (pc' := 29) dX10_mean_28 (sh5_T2 (sh10_T0 hM)) (by decide) (by decide) (inb_in hg6) (sh5_E2 (sh10_T0 hM) _ (inb_lt hg6)) rfl ?_
        refine ex_astore_n (lv' := [(3, .ref (gB G + (12 + 4 * (Int32.toNatClampNeg v1)))), (0, .ref (gB G + 0)), (1, .int v1), (2, .int v2)]) (pc' := 30) dX10_mean_29 rfl (Nat.le_of_ble_eq_true rfl) rfl rfl ?_
        refine ex_aload_n 0 (pc' := 31) dX10_mean_30 rfl rfl rfl ?_
        obtain ⟨r7, hq8, hf⟩ := of_bnd1 hf
        refine ex_callV_i (rm' := rmX0_cells) (st := []) (pc' := 34) [] dX10_mean_31 cl_X10_170 (k_X0_cells G (sh5_O2 (sh10_T0 hM) _ (inb_lt hg6)) hq8) rfl (sh0_k (sh5_O2 (sh10_T0 hM) _ (inb_lt hg6))) ⟨_, _, rfl⟩ rfl rfl (ROOM_of rfl) (Nat.le_of_ble_eq_true rfl) rfl rfl ?_
        refine ex_aload_n 0 (pc' := 35) dX10_mean_34 rfl rfl rfl ?_
        refine ex_getI (pc' := 38) dX10_mean_35 fl_X10_147 rfl (sh0_k (sh5_O2 (sh10_T0 hM) _ (inb_lt hg6))) rfl ?_
        refine ex_iload_n 3 (pc' := 39) dX10_mean_38 rfl rfl rfl ?_
        obtain ⟨r9, hq10, hf⟩ := of_bnd1 hf
        refine ex_callS_l (rm' := rmX10_inLowestTerms) (st := []) (pc' := 42) [.int r7, .int (I (12 + 4 * (Int32.toNatClampNeg v1)) 0), .int v2] dX10_mean_39 cl_X10_292 (k_X10_inLowestTerms G hq10) rfl rfl rfl (ROOM_of rfl) (Nat.le_of_ble_eq_true rfl) rfl rfl ?_
        exact ex_lret dX10_mean_42 rfl (hR _ (Option.some.inj hf).symm)
set_option maxRecDepth 100000 in
set_option maxHeartbeats 4000000 in
theorem k_X10_mean (G : GX) {X : MX} (hM : shX10 X) {v1 : Int32} {v2 : Int32}  {N : Nat} {I : MI} {L : ML} {z : Int64} (hf : f_X10_mean N v1 v2 I = some z) : Con G mX10_mean yX10_mean rmX10_mean (fun B => [.ref (B + 0), .int v1, .int v2]) X I L (some (.long z)) X I L :=
  Con.of (by decide) rfl (fun h => by cases h) (fun B => Nat.le_of_ble_eq_true rfl) (fun G => kb_X10_mean hM  hf (fun _ he => by cases he; rfl))
theorem cl_X10_136 : CLV RX10 136 yX6_at mX6_at (some FieldType.long) 2 := ⟨⟨lwg_at 446 (by decide +kernel) rfl, lwg_at 447 (by decide +kernel) rfl, lwg_at 448 (by decide +kernel) rfl, lwg_at 52 (by decide +kernel) rfl⟩, lwg_at 449 (by decide +kernel) rfl, ⟨by decide +kernel, by decide +kernel, by decide +kernel⟩⟩
-- X10_number ('RookWords', 'number', '(II)J')
def rmX10_number : RM := ((1, 22, 0, 0), false, (some FieldType.long))
def f_X10_number (v1 : Int32) (v2 : Int32) (L : ML) : Option (Int64) := bnd1 (f_X6_at 3 v1 v2 L) fun r1 => some r1
set_option maxRecDepth 100000 in
set_option maxHeartbeats 4000000 in
theorem kb_X10_number {G : GX} {Q : State → Prop} {X : MX} (hM : shX10 X) {v1 : Int32} {v2 : Int32}  {I : MI} {L : ML} {out : Int64} (hf : f_X10_number v1 v2 L = some out) (hR : ∀ (z : Int64), out = z → Q = RetQ G (some (.long z)) X I L (0, 0)) : Ex G mX10_number rmX10_number Q (0, 0) X I L 0 [(0, .ref (gB G + 0)), (1, .int v1), (2, .int v2)] [] := by
  unfold f_X10_number at hf
  refine ex_aload_n 0 (pc' := 1) dX10_number_0 rfl rfl rfl ?_
  refine ex_getR (pc' := 4) dX10_number_1 fl_X10_12 rfl (sh10_k hM) (sh10_F0 hM) rfl ?_
  refine ex_getR (pc' := 7) dX10_number_4 fl_X10_113 rfl (sh5_k (sh10_T0 hM)) (sh5_F1 (sh10_T0 hM)) rfl ?_
  refine ex_iload_n 1 (pc' := 8) dX10_number_7 rfl rfl rfl ?_
  refine ex_iload_n 2 (pc' := 9) dX10_number_8 rfl rfl rfl ?_
  obtain ⟨r1, hq2, hf⟩ := of_bnd1 hf
  refine ex_callV_l (rm' := rmX6_at) (st := []) (pc' := 12) [.int v1, .int v2] dX10_number_9 cl_X10_136 (k_X6_at G (sh5_T1 (sh10_T0 hM)) hq2) rfl (sh6_k (sh5_T1 (sh10_T0 hM))) ⟨_, _, rfl⟩ rfl rfl (ROOM_of rfl) (Nat.le_of_ble_eq_true rfl) rfl rfl ?_
  exact ex_lret dX10_number_12 rfl (hR _ (Option.some.inj hf).symm)
set_option maxRecDepth 100000 in
set_option maxHeartbeats 4000000 in
theorem k_X10_number (G : GX) {X : MX} (hM : shX10 X) {v1 : Int32} {v2 : Int32}  {I : MI} {L : ML} {z : Int64} (hf : f_X10_number v1 v2 L = some z) : Con G mX10_number yX10_number rmX10_number (fun B => [.ref (B + 0), .int v1, .int v2]) X I L (some (.long z)) X I L :=
  Con.of (by decide) rfl (fun h => by cases h) (fun B => Nat.le_of_ble_eq_true rfl) (fun G => kb_X10_number hM  hf (fun _ he => by cases he; rfl))
theorem fl_X10_289 : Cond.fieldLink RX10 289 (sNm 0).1 (sNm 0).2 "[I" ∈ lwg := lwg_at 773 (by decide +kernel) rfl
-- X10_odds ('RookWords', 'odds', '(II)J')
def rmX10_odds : RM := ((3, 75, 0, 0), false, (some FieldType.long))
def f_X10_odds (N : Nat) (v1 : Int32) (v2 : Int32) (I : MI) : Option (Int64 × MI) := bnd1 (f_X10_isPiece v1) fun r1 => (if r1 = 0 then some ((-9223372036854775808), I) else (if v2 < 0 then some ((-9223372036854775808), I) else (if 1 < v2 then some ((-9223372036854775808), I) else if inb v1 6 then bnd2 (f_X4_hitsOf N (12 + 4 * (Int32.toNatClampNeg v1)) 0 I) fun r7 I8 => if inb (I8 (12 + 4 * (Int32.toNatClampNeg v1)) 0) 7 then bnd1 (f_X10_inLowestTerms N r7 (tabI 0 (Int32.toNatClampNeg (I8 (12 + 4 * (Int32.toNatClampNeg v1)) 0))) v2) fun r11 => some (r11, I8) else none else none)))
set_option maxRecDepth 100000 in
set_option maxHeartbeats 4000000 in
theorem kb_X10_odds {G : GX} {Q : State → Prop} {X : MX} (hM : shX10 X) {v1 : Int32} {v2 : Int32}  {N : Nat} {I : MI} {L : ML} {out : Int64 × MI} (hf : f_X10_odds N v1 v2 I = some out) (hR : ∀ (z : Int64) (I' : MI), out = (z, I') → Q = RetQ G (some (.long z)) X I' L (0, 0)) : Ex G mX10_odds rmX10_odds Q (0, 0) X I L 0 [(0, .ref (gB G + 0)), (1, .int v1), (2, .int v2)] [] := by
  unfold f_X10_odds at hf
  refine ex_iload_n 1 (pc' := 1) dX10_odds_0 rfl rfl rfl ?_
  obtain ⟨r1, hq2, hf⟩ := of_bnd1 hf
  refine ex_callS_i (rm' := rmX10_isPiece) (st := []) (pc' := 4) [.int v1] dX10_odds_1 cl_X10_66 (k_X10_isPiece G hq2) rfl rfl rfl (ROOM_of rfl) (Nat.le_of_ble_eq_true rfl) rfl rfl ?_
  refine ex_ifeq (tgt := 16) (pc' := 7) dX10_odds_4 (by decide) rfl (fun hc3 => ?_) (fun hc3 => ?_)
  · replace hf := if_t hc3 hf
    refine ex_ldc2 (v := (-9223372036854775808)) (pc' := 19) dX10_odds_16 co_X10_101 rfl ?_
    exact ex_lret dX10_odds_19 rfl (hR _ _ (Option.some.inj hf).symm)
  · replace hf := if_f hc3 hf
    refine ex_iload_n 2 (pc' := 8) dX10_odds_7 rfl rfl rfl ?_
    refine ex_iflt (tgt := 16) (pc' := 11) dX10_odds_8 (by decide) rfl (fun hc4 => ?_) (fun hc4 => ?_)
    · replace hf := if_t hc4 hf
      refine ex_ldc2 (v := (-9223372036854775808)) (pc' := 19) dX10_odds_16 co_X10_101 rfl ?_
      exact ex_lret dX10_odds_19 rfl (hR _ _ (Option.some.inj hf).symm)
    · replace hf := if_f hc4 hf
      refine ex_iload_n 2 (pc' := 12) dX10_odds_11 rfl rfl rfl ?_
      refine ex_iconst (v := 1) (pc' := 13) dX10_odds_12 ic_1 rfl ?_
      refine ex_icmple (tgt := 20) (pc' := 16) dX10_odds_13 (by decide) rfl (fun hc5 => ?_) (fun hc5 => ?_)
      · replace hf := if_t hc5 hf
        refine ex_ldc2 (v := (-9223372036854775808)) (pc' := 19) dX10_odds_16 co_X10_101 rfl ?_
        exact ex_lret dX10_odds_19 rfl (hR _ _ (Option.some.inj hf).symm)
      · replace hf := if_f hc5 hf
        refine ex_aload_n 0 (pc' := 21) dX10_odds_20 rfl rfl rfl ?_
        refine ex_getR (pc' := 24) dX10_odds_21 fl_X10_12 rfl (sh10_k hM) (sh10_F0 hM) rfl ?_
        refine ex_getR (pc' := 27) dX10_odds_24 fl_X10_143 rfl (sh5_k (sh10_T0 hM)) (sh5_F2 (sh10_T0 hM)) rfl ?_
        refine ex_iload_n 1 (pc' := 28) dX10_odds_27 rfl rfl rfl ?_
        obtain ⟨hg6, hf⟩ := of_guard hf
        refine ex_aaldS (pc' := 29) dX10_odds_28 (sh5_T2 (sh10_T0 hM)) (by decide) (by decide) (inb_in hg6) (sh5_E2 (sh10_T0 hM) _ (inb_lt hg6)) rfl ?_
        refine ex_astore_n (lv' := [(3, .ref (gB G + (12 + 4 * (Int32.toNatClampNeg v1)))), (0, .ref (gB G + 0)), (1, .int v1), (2, .int v2)]) (pc' := 30) dX10_odds_29 rfl (Nat.le_of_ble_eq_true rfl) rfl rfl ?_
        refine ex_aload_n 1 (pc' := 31) dX10_odds_30 rfl rfl rfl ?_
        refine ex_getR (pc' := 34) dX10_odds_31 fl_X10_52 rfl (sh10_k hM) (sh10_F7 hM) rfl ?_
        refine ex_aload_n 0 (pc' := 35) dX10_odds_34 rfl rfl rfl ?_
        refine ex_iconst (v := 0) (pc' := 36) dX10_odds_35 ic_0 rfl ?_
        obtain ⟨r7, I8, hq9, hf⟩ := of_bnd2 hf
        refine ex_callV_i (rm' := rmX4_hitsOf) (st := []) (pc' := 39) [.ref (gB G + (12 + 4 * (Int32.toNatClampNeg v1))), .int 0] dX10_odds_36 cl_X10_218 (k_X4_hitsOf G hM (sh5_O2 (sh10_T0 hM) _ (inb_lt hg6)) hq9) rfl (sh4_k (sh10_T7 hM)) ⟨_, _, rfl⟩ rfl rfl (ROOM_of rfl) (Nat.le_of_ble_eq_true rfl) rfl rfl ?_
        refine ex_getst (j := 0) (pc' := 42) dX10_odds_39 (by decide) fl_X10_289 rfl ?_
        refine ex_aload_n 0 (pc' := 43) dX10_odds_42 rfl rfl rfl ?_
        refine ex_getI (pc' := 46) dX10_odds_43 fl_X10_147 rfl (sh0_k (sh5_O2 (sh10_T0 hM) _ (inb_lt hg6))) rfl ?_
        obtain ⟨hg10, hf⟩ := of_guard hf
        refine ex_siald (pc' := 47) dX10_odds_46 (by decide) (inb_in hg10) rfl ?_
        refine ex_iload_n 3 (pc' := 48) dX10_odds_47 rfl rfl rfl ?_
        obtain ⟨r11, hq12, hf⟩ := of_bnd1 hf
        refine ex_callS_l (rm' := rmX10_inLowestTerms) (st := []) (pc' := 51) [.int r7, .int (tabI 0 (Int32.toNatClampNeg (I8 (12 + 4 * (Int32.toNatClampNeg v1)) 0))), .int v2] dX10_odds_48 cl_X10_292 (k_X10_inLowestTerms G hq12) rfl rfl rfl (ROOM_of rfl) (Nat.le_of_ble_eq_true rfl) rfl rfl ?_
        exact ex_lret dX10_odds_51 rfl (hR _ _ (Option.some.inj hf).symm)
set_option maxRecDepth 100000 in
set_option maxHeartbeats 4000000 in
theorem k_X10_odds (G : GX) {X : MX} (hM : shX10 X) {v1 : Int32} {v2 : Int32}  {N : Nat} {I : MI} {L : ML} {z : Int64} {I' : MI} (hf : f_X10_odds N v1 v2 I = some (z, I')) : Con G mX10_odds yX10_odds rmX10_odds (fun B => [.ref (B + 0), .int v1, .int v2]) X I L (some (.long z)) X I' L :=
  Con.of (by decide) rfl (fun h => by cases h) (fun B => Nat.le_of_ble_eq_true rfl) (fun G => kb_X10_odds hM  hf (fun _ _ he => by cases he; rfl))
theorem al_13 : Int32.ofNat 13 = 13 := by decide
-- X10_order ('RookWords', 'order', '(II)J')
def rmX10_order : RM := ((2, 48, 0, 0), false, (some FieldType.long))
def f_X10_order (N : Nat) (v1 : Int32) (v2 : Int32) (I : MI) (L : ML) : Option (Int64 × ML) := bnd1 (f_X10_isPiece v1) fun r1 => (if r1 = 0 then some ((-9223372036854775808), L) else (if v2 < 0 then some ((-9223372036854775808), L) else (if v2 < 13 then if inb v1 6 then bnd1 (f_X9_fillOrders N (10 + 4 * (Int32.toNatClampNeg v1)) 98 13 I L) fun L7 => if inb v2 13 then some (L7 98 (Int32.toNatClampNeg v2), L7) else none else none else some (0, L))))
set_option maxRecDepth 100000 in
set_option maxHeartbeats 4000000 in
theorem kb_X10_order {G : GX} {Q : State → Prop} {X : MX} (hM : shX10 X) {v1 : Int32} {v2 : Int32}  {N : Nat} {I : MI} {L : ML} {out : Int64 × ML} (hf : f_X10_order N v1 v2 I L = some out) (hR : ∀ (z : Int64) (L' : ML), out = (z, L') → Q = RetQ G (some (.long z)) X I L' (0, 0)) : Ex G mX10_order rmX10_order Q (0, 0) X I L 0 [(0, .ref (gB G + 0)), (1, .int v1), (2, .int v2)] [] := by
  unfold f_X10_order at hf
  refine ex_iload_n 1 (pc' := 1) dX10_order_0 rfl rfl rfl ?_
  obtain ⟨r1, hq2, hf⟩ := of_bnd1 hf
  refine ex_callS_i (rm' := rmX10_isPiece) (st := []) (pc' := 4) [.int v1] dX10_order_1 cl_X10_66 (k_X10_isPiece G hq2) rfl rfl rfl (ROOM_of rfl) (Nat.le_of_ble_eq_true rfl) rfl rfl ?_
  refine ex_ifeq (tgt := 11) (pc' := 7) dX10_order_4 (by decide) rfl (fun hc3 => ?_) (fun hc3 => ?_)
  · replace hf := if_t hc3 hf
    refine ex_ldc2 (v := (-9223372036854775808)) (pc' := 14) dX10_order_11 co_X10_101 rfl ?_
    exact ex_lret dX10_order_14 rfl (hR _ _ (Option.some.inj hf).symm)
  · replace hf := if_f hc3 hf
    refine ex_iload_n 2 (pc' := 8) dX10_order_7 rfl rfl rfl ?_
    refine ex_ifge (tgt := 15) (pc' := 11) dX10_order_8 (by decide) rfl (fun hc4 => ?_) (fun hc4 => ?_)
    · replace hf := if_t hc4 hf
      refine ex_ldc2 (v := (-9223372036854775808)) (pc' := 14) dX10_order_11 co_X10_101 rfl ?_
      exact ex_lret dX10_order_14 rfl (hR _ _ (Option.some.inj hf).symm)
    · replace hf := if_f hc4 hf
      refine ex_iload_n 2 (pc' := 16) dX10_order_15 rfl rfl rfl ?_
      refine ex_aload_n 0 (pc' := 17) dX10_order_16 rfl rfl rfl ?_
      refine ex_getR (pc' := 20) dX10_order_17 fl_X10_62 rfl (sh10_k hM) (sh10_F9 hM) rfl ?_
      refine ex_alen (v := 13) (pc' := 21) dX10_order_20 (sh10_T9 hM) (Or.inr rfl) al_13 rfl ?_
      refine ex_icmplt (tgt := 26) (pc' := 24) dX10_order_21 (by decide) rfl (fun hc5 => ?_) (fun hc5 => ?_)
      · replace hf := if_t hc5 hf
        refine ex_aload_n 0 (pc' := 27) dX10_order_26 rfl rfl rfl ?_
        refine ex_getR (pc' := 30) dX10_order_27 fl_X10_12 rfl (sh10_k hM) (sh10_F0 hM) rfl ?_
        refine ex_getR (pc' := 33) dX10_order_30 fl_X10_70 rfl (sh5_k (sh10_T0 hM)) (sh5_F0 (sh10_T0 hM)) rfl ?_
        refine ex_iload_n 1 (pc' := 34) dX10_order_33 rfl rfl rfl ?_
        obtain ⟨hg6, hf⟩ := of_guard hf
        refine ex_aaldS (pc' := 35) dX10_order_34 (sh5_T0 (sh10_T0 hM)) (by decide) (by decide) (inb_in hg6) (sh5_E0 (sh10_T0 hM) _ (inb_lt hg6)) rfl ?_
        refine ex_aload_n 0 (pc' := 36) dX10_order_35 rfl rfl rfl ?_
        refine ex_getR (pc' := 39) dX10_order_36 fl_X10_62 rfl (sh10_k hM) (sh10_F9 hM) rfl ?_
        obtain ⟨L7, hq8, hf⟩ := of_bnd1 hf
        refine ex_callV_v (rm' := rmX9_fillOrders) (st := []) (pc' := 42) [.ref (gB G + 98)] dX10_order_39 cl_X10_109 (k_X9_fillOrders G (sh5_O0 (sh10_T0 hM) _ (inb_lt hg6)) (sh10_T9 hM) hq8) rfl (sh9_k (sh5_O0 (sh10_T0 hM) _ (inb_lt hg6))) ⟨_, _, rfl⟩ rfl rfl (ROOM_of rfl) (Nat.le_of_ble_eq_true rfl) rfl rfl ?_
        refine ex_aload_n 0 (pc' := 43) dX10_order_42 rfl rfl rfl ?_
        refine ex_getR (pc' := 46) dX10_order_43 fl_X10_62 rfl (sh10_k hM) (sh10_F9 hM) rfl ?_
        refine ex_iload_n 2 (pc' := 47) dX10_order_46 rfl rfl rfl ?_
        obtain ⟨hg9, hf⟩ := of_guard hf
        refine ex_lald (pc' := 48) dX10_order_47 (sh10_T9 hM) (inb_in hg9) rfl ?_
        exact ex_lret dX10_order_48 rfl (hR _ _ (Option.some.inj hf).symm)
      · replace hf := if_f hc5 hf
        refine ex_lconst (v := 0) (pc' := 25) dX10_order_24 lc_0 rfl ?_
        exact ex_lret dX10_order_25 rfl (hR _ _ (Option.some.inj hf).symm)
set_option maxRecDepth 100000 in
set_option maxHeartbeats 4000000 in
theorem k_X10_order (G : GX) {X : MX} (hM : shX10 X) {v1 : Int32} {v2 : Int32}  {N : Nat} {I : MI} {L : ML} {z : Int64} {L' : ML} (hf : f_X10_order N v1 v2 I L = some (z, L')) : Con G mX10_order yX10_order rmX10_order (fun B => [.ref (B + 0), .int v1, .int v2]) X I L (some (.long z)) X I L' :=
  Con.of (by decide) rfl (fun h => by cases h) (fun B => Nat.le_of_ble_eq_true rfl) (fun G => kb_X10_order hM  hf (fun _ _ he => by cases he; rfl))
theorem cl_X10_183 : CLV RX10 183 yX0_becomeOther mX0_becomeOther none 0 := ⟨⟨lwg_at 527 (by decide +kernel) rfl, lwg_at 528 (by decide +kernel) rfl, lwg_at 529 (by decide +kernel) rfl, lwg_at 54 (by decide +kernel) rfl⟩, lwg_at 530 (by decide +kernel) rfl, ⟨by decide +kernel, by decide +kernel, by decide +kernel⟩⟩
-- X10_other ('RookWords', 'other', '(I)I')
def rmX10_other : RM := ((2, 42, 0, 0), false, (some FieldType.int))
def f_X10_other (N : Nat) (v1 : Int32) (I : MI) : Option (Int32 × MI) := bnd1 (f_X10_isPiece v1) fun r1 => (if r1 = 0 then some ((-1), I) else if inb v1 6 then bnd1 (f_X0_becomeOther N (12 + 4 * (Int32.toNatClampNeg v1)) I) fun I5 => bnd1 (f_X1_forget I5) fun I7 => bnd1 (f_X0_cells N (12 + 4 * (Int32.toNatClampNeg v1)) I7) fun r9 => some (r9, I7) else none)
set_option maxRecDepth 100000 in
set_option maxHeartbeats 4000000 in
theorem kb_X10_other {G : GX} {Q : State → Prop} {X : MX} (hM : shX10 X) {v1 : Int32}  {N : Nat} {I : MI} {L : ML} {out : Int32 × MI} (hf : f_X10_other N v1 I = some out) (hR : ∀ (z : Int32) (I' : MI), out = (z, I') → Q = RetQ G (some (.int z)) X I' L (0, 0)) : Ex G mX10_other rmX10_other Q (0, 0) X I L 0 [(0, .ref (gB G + 0)), (1, .int v1)] [] := by
  unfold f_X10_other at hf
  refine ex_iload_n 1 (pc' := 1) dX10_other_0 rfl rfl rfl ?_
  obtain ⟨r1, hq2, hf⟩ := of_bnd1 hf
  refine ex_callS_i (rm' := rmX10_isPiece) (st := []) (pc' := 4) [.int v1] dX10_other_1 cl_X10_66 (k_X10_isPiece G hq2) rfl rfl rfl (ROOM_of rfl) (Nat.le_of_ble_eq_true rfl) rfl rfl ?_
  refine ex_ifne (tgt := 9) (pc' := 7) dX10_other_4 (by decide) rfl (fun hc3 => ?_) (fun hc3 => ?_)
  · replace hf := if_t hc3 hf
    refine ex_iconst (v := (-1)) (pc' := 8) dX10_other_7 ic_m1 rfl ?_
    exact ex_iret dX10_other_8 rfl (hR _ _ (Option.some.inj hf).symm)
  · replace hf := if_f hc3 hf
    refine ex_aload_n 0 (pc' := 10) dX10_other_9 rfl rfl rfl ?_
    refine ex_getR (pc' := 13) dX10_other_10 fl_X10_12 rfl (sh10_k hM) (sh10_F0 hM) rfl ?_
    refine ex_getR (pc' := 16) dX10_other_13 fl_X10_143 rfl (sh5_k (sh10_T0 hM)) (sh5_F2 (sh10_T0 hM)) rfl ?_
    refine ex_iload_n 1 (pc' := 17) dX10_other_16 rfl rfl rfl ?_
    obtain ⟨hg4, hf⟩ := of_guard hf
    refine ex_aaldS (pc' := 18) dX10_other_17 (sh5_T2 (sh10_T0 hM)) (by decide) (by decide) (inb_in hg4) (sh5_E2 (sh10_T0 hM) _ (inb_lt hg4)) rfl ?_
    refine ex_astore_n (lv' := [(2, .ref (gB G + (12 + 4 * (Int32.toNatClampNeg v1)))), (0, .ref (gB G + 0)), (1, .int v1)]) (pc' := 19) dX10_other_18 rfl (Nat.le_of_ble_eq_true rfl) rfl rfl ?_
    refine ex_aload_n 0 (pc' := 20) dX10_other_19 rfl rfl rfl ?_
    obtain ⟨I5, hq6, hf⟩ := of_bnd1 hf
    refine ex_callV_v (rm' := rmX0_becomeOther) (st := []) (pc' := 23) [] dX10_other_20 cl_X10_183 (k_X0_becomeOther G (sh5_O2 (sh10_T0 hM) _ (inb_lt hg4)) hq6) rfl (sh0_k (sh5_O2 (sh10_T0 hM) _ (inb_lt hg4))) ⟨_, _, rfl⟩ rfl rfl (ROOM_of rfl) (Nat.le_of_ble_eq_true rfl) rfl rfl ?_
    refine ex_aload_n 1 (pc' := 24) dX10_other_23 rfl rfl rfl ?_
    refine ex_getR (pc' := 27) dX10_other_24 fl_X10_24 rfl (sh10_k hM) (sh10_F3 hM) rfl ?_
    obtain ⟨I7, hq8, hf⟩ := of_bnd1 hf
    refine ex_callV_v (rm' := rmX1_forget) (st := []) (pc' := 30) [] dX10_other_27 cl_X10_156 (k_X1_forget G hM hq8) rfl (sh1_k (sh10_T3 hM)) ⟨_, _, rfl⟩ rfl rfl (ROOM_of rfl) (Nat.le_of_ble_eq_true rfl) rfl rfl ?_
    refine ex_aload_n 0 (pc' := 31) dX10_other_30 rfl rfl rfl ?_
    obtain ⟨r9, hq10, hf⟩ := of_bnd1 hf
    refine ex_callV_i (rm' := rmX0_cells) (st := []) (pc' := 34) [] dX10_other_31 cl_X10_170 (k_X0_cells G (sh5_O2 (sh10_T0 hM) _ (inb_lt hg4)) hq10) rfl (sh0_k (sh5_O2 (sh10_T0 hM) _ (inb_lt hg4))) ⟨_, _, rfl⟩ rfl rfl (ROOM_of rfl) (Nat.le_of_ble_eq_true rfl) rfl rfl ?_
    exact ex_iret dX10_other_34 rfl (hR _ _ (Option.some.inj hf).symm)
set_option maxRecDepth 100000 in
set_option maxHeartbeats 4000000 in
theorem k_X10_other (G : GX) {X : MX} (hM : shX10 X) {v1 : Int32}  {N : Nat} {I : MI} {L : ML} {z : Int32} {I' : MI} (hf : f_X10_other N v1 I = some (z, I')) : Con G mX10_other yX10_other rmX10_other (fun B => [.ref (B + 0), .int v1]) X I L (some (.int z)) X I' L :=
  Con.of (by decide) rfl (fun h => by cases h) (fun B => Nat.le_of_ble_eq_true rfl) (fun G => kb_X10_other hM  hf (fun _ _ he => by cases he; rfl))
theorem fl_X10_38 : FLD RX10 38 10 5 true := ⟨RX10, TX10, 10, rfl, inX10, by decide, lwg_at 279 (by decide +kernel) rfl, nmX10, tyX10_ok, rfl, rfl⟩
theorem fl_X10_317 : FLD RX10 317 3 1 false := ⟨RX3, TX3, 2, rfl, inX3, by decide, lwg_at 224 (by decide +kernel) rfl, nmX3, tyX3_ok, rfl, rfl⟩
theorem fl_X10_318 : FLD RX10 318 3 0 true := ⟨RX3, TX3, 2, rfl, inX3, by decide, lwg_at 222 (by decide +kernel) rfl, nmX3, tyX3_ok, rfl, rfl⟩
-- X10_paper ('RookWords', 'paper', '(I)I')
def rmX10_paper : RM := ((0, 0, 0, 0), false, (some FieldType.int))
def f_X10_paper (v1 : Int32) (I : MI) : Option (Int32) := (if v1 < 0 then some (-1) else (if v1 < (I 76 1) then if inb v1 12 then some (I 77 (Int32.toNatClampNeg v1)) else none else some (-1)))
set_option maxRecDepth 100000 in
set_option maxHeartbeats 4000000 in
theorem kb_X10_paper {G : GX} {Q : State → Prop} {X : MX} (hM : shX10 X) {v1 : Int32}  {I : MI} {L : ML} {out : Int32} (hf : f_X10_paper v1 I = some out) (hR : ∀ (z : Int32), out = z → Q = RetQ G (some (.int z)) X I L (0, 0)) : Ex G mX10_paper rmX10_paper Q (0, 0) X I L 0 [(0, .ref (gB G + 0)), (1, .int v1)] [] := by
  unfold f_X10_paper at hf
  refine ex_iload_n 1 (pc' := 1) dX10_paper_0 rfl rfl rfl ?_
  refine ex_iflt (tgt := 27) (pc' := 4) dX10_paper_1 (by decide) rfl (fun hc1 => ?_) (fun hc1 => ?_)
  · replace hf := if_t hc1 hf
    refine ex_iconst (v := (-1)) (pc' := 28) dX10_paper_27 ic_m1 rfl ?_
    exact ex_iret dX10_paper_28 rfl (hR _ (Option.some.inj hf).symm)
  · replace hf := if_f hc1 hf
    refine ex_iload_n 1 (pc' := 5) dX10_paper_4 rfl rfl rfl ?_
    refine ex_aload_n 0 (pc' := 6) dX10_paper_5 rfl rfl rfl ?_
    refine ex_getR (pc' := 9) dX10_paper_6 fl_X10_38 rfl (sh10_k hM) (sh10_F5 hM) rfl ?_
    refine ex_getI (pc' := 12) dX10_paper_9 fl_X10_317 rfl (sh3_k (sh10_T5 hM)) rfl ?_
    refine ex_icmpge (tgt := 27) (pc' := 15) dX10_paper_12 (by decide) rfl (fun hc2 => ?_) (fun hc2 => ?_)
    · replace hf := if_t hc2 hf
      refine ex_aload_n 0 (pc' := 16) dX10_paper_15 rfl rfl rfl ?_
      refine ex_getR (pc' := 19) dX10_paper_16 fl_X10_38 rfl (sh10_k hM) (sh10_F5 hM) rfl ?_
      refine ex_getR (pc' := 22) dX10_paper_19 fl_X10_318 rfl (sh3_k (sh10_T5 hM)) (sh3_F0 (sh10_T5 hM)) rfl ?_
      refine ex_iload_n 1 (pc' := 23) dX10_paper_22 rfl rfl rfl ?_
      obtain ⟨hg3, hf⟩ := of_guard hf
      refine ex_iald (pc' := 24) dX10_paper_23 (sh3_T0 (sh10_T5 hM)) (inb_in hg3) rfl ?_
      refine ex_goto (tgt := 28) dX10_paper_24 (by decide) ?_
      exact ex_iret dX10_paper_28 rfl (hR _ (Option.some.inj hf).symm)
    · replace hf := if_f hc2 hf
      refine ex_iconst (v := (-1)) (pc' := 28) dX10_paper_27 ic_m1 rfl ?_
      exact ex_iret dX10_paper_28 rfl (hR _ (Option.some.inj hf).symm)
set_option maxRecDepth 100000 in
set_option maxHeartbeats 4000000 in
theorem k_X10_paper (G : GX) {X : MX} (hM : shX10 X) {v1 : Int32}  {I : MI} {L : ML} {z : Int32} (hf : f_X10_paper v1 I = some z) : Con G mX10_paper yX10_paper rmX10_paper (fun B => [.ref (B + 0), .int v1]) X I L (some (.int z)) X I L :=
  Con.of (by decide) rfl (fun h => by cases h) (fun B => Nat.le_of_ble_eq_true rfl) (fun G => kb_X10_paper hM  hf (fun _ he => by cases he; rfl))
-- X10_peek ('RookWords', 'peek', '(II)J')
def rmX10_peek : RM := ((1, 20, 0, 0), false, (some FieldType.long))
def f_X10_peek (v1 : Int32) (v2 : Int32) (I : MI) (L : ML) : Option (Int64) := bnd1 (f_X10_isPiece v1) fun r1 => (if r1 = 0 then some (-9223372036854775808) else if inb v1 6 then (if v2 < 0 then some (-9223372036854775808) else (if v2 < (I (79 + 2 * (Int32.toNatClampNeg v1)) 1) then if inb v2 60 then some (L (79 + 2 * (Int32.toNatClampNeg v1) + 1) (Int32.toNatClampNeg v2)) else none else some (-9223372036854775808))) else none)
set_option maxRecDepth 100000 in
set_option maxHeartbeats 4000000 in
theorem kb_X10_peek {G : GX} {Q : State → Prop} {X : MX} (hM : shX10 X) {v1 : Int32} {v2 : Int32}  {I : MI} {L : ML} {out : Int64} (hf : f_X10_peek v1 v2 I L = some out) (hR : ∀ (z : Int64), out = z → Q = RetQ G (some (.long z)) X I L (0, 0)) : Ex G mX10_peek rmX10_peek Q (0, 0) X I L 0 [(0, .ref (gB G + 0)), (1, .int v1), (2, .int v2)] [] := by
  unfold f_X10_peek at hf
  refine ex_iload_n 1 (pc' := 1) dX10_peek_0 rfl rfl rfl ?_
  obtain ⟨r1, hq2, hf⟩ := of_bnd1 hf
  refine ex_callS_i (rm' := rmX10_isPiece) (st := []) (pc' := 4) [.int v1] dX10_peek_1 cl_X10_66 (k_X10_isPiece G hq2) rfl rfl rfl (ROOM_of rfl) (Nat.le_of_ble_eq_true rfl) rfl rfl ?_
  refine ex_ifne (tgt := 11) (pc' := 7) dX10_peek_4 (by decide) rfl (fun hc3 => ?_) (fun hc3 => ?_)
  · replace hf := if_t hc3 hf
    refine ex_ldc2 (v := (-9223372036854775808)) (pc' := 10) dX10_peek_7 co_X10_101 rfl ?_
    exact ex_lret dX10_peek_10 rfl (hR _ (Option.some.inj hf).symm)
  · replace hf := if_f hc3 hf
    refine ex_aload_n 0 (pc' := 12) dX10_peek_11 rfl rfl rfl ?_
    refine ex_getR (pc' := 15) dX10_peek_12 fl_X10_44 rfl (sh10_k hM) (sh10_F6 hM) rfl ?_
    refine ex_iload_n 1 (pc' := 16) dX10_peek_15 rfl rfl rfl ?_
    obtain ⟨hg4, hf⟩ := of_guard hf
    refine ex_aaldS (pc' := 17) dX10_peek_16 (sh10_T6 hM) (by decide) (by decide) (inb_in hg4) (sh10_E6 hM _ (inb_lt hg4)) rfl ?_
    refine ex_astore_n (lv' := [(3, .ref (gB G + (79 + 2 * (Int32.toNatClampNeg v1)))), (0, .ref (gB G + 0)), (1, .int v1), (2, .int v2)]) (pc' := 18) dX10_peek_17 rfl (Nat.le_of_ble_eq_true rfl) rfl rfl ?_
    refine ex_iload_n 3 (pc' := 19) dX10_peek_18 rfl rfl rfl ?_
    refine ex_iflt (tgt := 39) (pc' := 22) dX10_peek_19 (by decide) rfl (fun hc5 => ?_) (fun hc5 => ?_)
    · replace hf := if_t hc5 hf
      refine ex_ldc2 (v := (-9223372036854775808)) (pc' := 42) dX10_peek_39 co_X10_101 rfl ?_
      exact ex_lret dX10_peek_42 rfl (hR _ (Option.some.inj hf).symm)
    · replace hf := if_f hc5 hf
      refine ex_iload_n 3 (pc' := 23) dX10_peek_22 rfl rfl rfl ?_
      refine ex_aload_n 0 (pc' := 24) dX10_peek_23 rfl rfl rfl ?_
      refine ex_getI (pc' := 27) dX10_peek_24 fl_X10_342 rfl (sh7_k (sh10_O6 hM _ (inb_lt hg4))) rfl ?_
      refine ex_icmpge (tgt := 39) (pc' := 30) dX10_peek_27 (by decide) rfl (fun hc6 => ?_) (fun hc6 => ?_)
      · replace hf := if_t hc6 hf
        refine ex_aload_n 0 (pc' := 31) dX10_peek_30 rfl rfl rfl ?_
        refine ex_getR (pc' := 34) dX10_peek_31 fl_X10_343 rfl (sh7_k (sh10_O6 hM _ (inb_lt hg4))) (sh7_F2 (sh10_O6 hM _ (inb_lt hg4))) rfl ?_
        refine ex_iload_n 3 (pc' := 35) dX10_peek_34 rfl rfl rfl ?_
        obtain ⟨hg7, hf⟩ := of_guard hf
        refine ex_lald (pc' := 36) dX10_peek_35 (sh7_T2 (sh10_O6 hM _ (inb_lt hg4))) (inb_in hg7) rfl ?_
        refine ex_goto (tgt := 42) dX10_peek_36 (by decide) ?_
        exact ex_lret dX10_peek_42 rfl (hR _ (Option.some.inj hf).symm)
      · replace hf := if_f hc6 hf
        refine ex_ldc2 (v := (-9223372036854775808)) (pc' := 42) dX10_peek_39 co_X10_101 rfl ?_
        exact ex_lret dX10_peek_42 rfl (hR _ (Option.some.inj hf).symm)
set_option maxRecDepth 100000 in
set_option maxHeartbeats 4000000 in
theorem k_X10_peek (G : GX) {X : MX} (hM : shX10 X) {v1 : Int32} {v2 : Int32}  {I : MI} {L : ML} {z : Int64} (hf : f_X10_peek v1 v2 I L = some z) : Con G mX10_peek yX10_peek rmX10_peek (fun B => [.ref (B + 0), .int v1, .int v2]) X I L (some (.long z)) X I L :=
  Con.of (by decide) rfl (fun h => by cases h) (fun B => Nat.le_of_ble_eq_true rfl) (fun G => kb_X10_peek hM  hf (fun _ he => by cases he; rfl))
theorem cl_X10_303 : CLV RX10 303 yX8_fault mX8_fault (some FieldType.int) 0 := ⟨⟨lwg_at 807 (by decide +kernel) rfl, lwg_at 808 (by decide +kernel) rfl, lwg_at 809 (by decide +kernel) rfl, lwg_at 57 (by decide +kernel) rfl⟩, lwg_at 810 (by decide +kernel) rfl, ⟨by decide +kernel, by decide +kernel, by decide +kernel⟩⟩
theorem cl_X10_306 : CLV RX10 306 yX8_spell mX8_spell (some FieldType.int) 0 := ⟨⟨lwg_at 819 (by decide +kernel) rfl, lwg_at 820 (by decide +kernel) rfl, lwg_at 821 (by decide +kernel) rfl, lwg_at 57 (by decide +kernel) rfl⟩, lwg_at 822 (by decide +kernel) rfl, ⟨by decide +kernel, by decide +kernel, by decide +kernel⟩⟩
theorem fl_X10_309 : FLD RX10 309 8 2 true := ⟨RX8, TX8, 4, rfl, inX8, by decide, lwg_at 204 (by decide +kernel) rfl, nmX8, tyX8_ok, rfl, rfl⟩
theorem cl_X10_310 : CLV RX10 310 yX9_becomeLetters mX9_becomeLetters none 2 := ⟨⟨lwg_at 829 (by decide +kernel) rfl, lwg_at 830 (by decide +kernel) rfl, lwg_at 831 (by decide +kernel) rfl, lwg_at 53 (by decide +kernel) rfl⟩, lwg_at 832 (by decide +kernel) rfl, ⟨by decide +kernel, by decide +kernel, by decide +kernel⟩⟩
theorem bp_m100 : (Int8.ofInt (-100)).toInt32 = (-100) := by decide
-- X10_read ('RookWords', 'read', '(I)I')
def rmX10_read : RM := ((2, 50, 0, 0), false, (some FieldType.int))
def f_X10_read_j36 (N : Nat) (v1 : Int32) (s0 : Int32) (I : MI) : Option (Int32 × MI) := letv (upI I 72 1 0) fun I10 => (if s0 < 0 then some (s0, I10) else if inb v1 6 then bnd1 (f_X9_becomeLetters N (10 + 4 * (Int32.toNatClampNeg v1)) 74 72 s0 I10) fun I13 => some (s0, I13) else none)
set_option maxRecDepth 100000 in
set_option maxHeartbeats 4000000 in
theorem k_X10_read_j36 {G : GX} {Q : State → Prop} {X : MX} (hM : shX10 X) {v1 : Int32} {s0 : Int32}  {N : Nat} {I : MI} {L : ML} {out : Int32 × MI} (hf : f_X10_read_j36 N v1 s0 I = some out) (hR : ∀ (z : Int32) (I' : MI), out = (z, I') → Q = RetQ G (some (.int z)) X I' L (0, 0)) : Ex G mX10_read rmX10_read Q (0, 0) X I L 36 [(0, .ref (gB G + 0)), (1, .int v1)] [.int s0] := by
  unfold f_X10_read_j36 at hf
  refine ex_istore_n (lv' := [(3, .int s0), (0, .ref (gB G + 0)), (1, .int v1)]) (pc' := 37) dX10_read_36 rfl (Nat.le_of_ble_eq_true rfl) rfl rfl ?_
  refine ex_aload_n 1 (pc' := 38) dX10_read_37 rfl rfl rfl ?_
  refine ex_getR (pc' := 41) dX10_read_38 fl_X10_31 rfl (sh10_k hM) (sh10_F4 hM) rfl ?_
  refine ex_iconst (v := 0) (pc' := 42) dX10_read_41 ic_0 rfl ?_
  refine ex_putI (pc' := 45) dX10_read_42 fl_X10_302 rfl (sh8_k (sh10_T4 hM)) rfl ?_
  obtain ⟨I10, hI10, hf⟩ := of_let hf
  rw [← hI10]
  refine ex_iload_n 0 (pc' := 46) dX10_read_45 rfl rfl rfl ?_
  refine ex_iflt (tgt := 69) (pc' := 49) dX10_read_46 (by decide) rfl (fun hc11 => ?_) (fun hc11 => ?_)
  · replace hf := if_t hc11 hf
    refine ex_iload_n 0 (pc' := 70) dX10_read_69 rfl rfl rfl ?_
    exact ex_iret dX10_read_70 rfl (hR _ _ (Option.some.inj hf).symm)
  · replace hf := if_f hc11 hf
    refine ex_aload_n 1 (pc' := 50) dX10_read_49 rfl rfl rfl ?_
    refine ex_getR (pc' := 53) dX10_read_50 fl_X10_12 rfl (sh10_k hM) (sh10_F0 hM) rfl ?_
    refine ex_getR (pc' := 56) dX10_read_53 fl_X10_70 rfl (sh5_k (sh10_T0 hM)) (sh5_F0 (sh10_T0 hM)) rfl ?_
    refine ex_iload_n 2 (pc' := 57) dX10_read_56 rfl rfl rfl ?_
    obtain ⟨hg12, hf⟩ := of_guard hf
    refine ex_aaldS (pc' := 58) dX10_read_57 (sh5_T0 (sh10_T0 hM)) (by decide) (by decide) (inb_in hg12) (sh5_E0 (sh10_T0 hM) _ (inb_lt hg12)) rfl ?_
    refine ex_aload_n 1 (pc' := 59) dX10_read_58 rfl rfl rfl ?_
    refine ex_getR (pc' := 62) dX10_read_59 fl_X10_31 rfl (sh10_k hM) (sh10_F4 hM) rfl ?_
    refine ex_getR (pc' := 65) dX10_read_62 fl_X10_309 rfl (sh8_k (sh10_T4 hM)) (sh8_F2 (sh10_T4 hM)) rfl ?_
    refine ex_iload_n 0 (pc' := 66) dX10_read_65 rfl rfl rfl ?_
    obtain ⟨I13, hq14, hf⟩ := of_bnd1 hf
    refine ex_callV_v (rm' := rmX9_becomeLetters) (st := []) (pc' := 69) [.ref (gB G + 74), .int s0] dX10_read_66 cl_X10_310 (k_X9_becomeLetters G (sh5_O0 (sh10_T0 hM) _ (inb_lt hg12)) (sh8_T2 (sh10_T4 hM)) hq14) rfl (sh9_k (sh5_O0 (sh10_T0 hM) _ (inb_lt hg12))) ⟨_, _, rfl⟩ rfl rfl (ROOM_of rfl) (Nat.le_of_ble_eq_true rfl) rfl rfl ?_
    refine ex_iload_n 0 (pc' := 70) dX10_read_69 rfl rfl rfl ?_
    exact ex_iret dX10_read_70 rfl (hR _ _ (Option.some.inj hf).symm)
def f_X10_read (N : Nat) (v1 : Int32) (I : MI) : Option (Int32 × MI) := bnd1 (f_X10_isPiece v1) fun r1 => (if r1 = 0 then some ((-1), I) else bnd1 (f_X8_fault N I) fun r4 => (if r4 = (-1) then bnd2 (f_X8_spell N I) fun r7 I8 => f_X10_read_j36 N v1 r7 I8 else f_X10_read_j36 N v1 ((-100) - r4) I))
set_option maxRecDepth 100000 in
set_option maxHeartbeats 4000000 in
theorem kb_X10_read {G : GX} {Q : State → Prop} {X : MX} (hM : shX10 X) {v1 : Int32}  {N : Nat} {I : MI} {L : ML} {out : Int32 × MI} (hf : f_X10_read N v1 I = some out) (hR : ∀ (z : Int32) (I' : MI), out = (z, I') → Q = RetQ G (some (.int z)) X I' L (0, 0)) : Ex G mX10_read rmX10_read Q (0, 0) X I L 0 [(0, .ref (gB G + 0)), (1, .int v1)] [] := by
  unfold f_X10_read at hf
  refine ex_iload_n 1 (pc' := 1) dX10_read_0 rfl rfl rfl ?_
  obtain ⟨r1, hq2, hf⟩ := of_bnd1 hf
  refine ex_callS_i (rm' := rmX10_isPiece) (st := []) (pc' := 4) [.int v1] dX10_read_1 cl_X10_66 (k_X10_isPiece G hq2) rfl rfl rfl (ROOM_of rfl) (Nat.le_of_ble_eq_true rfl) rfl rfl ?_
  refine ex_ifne (tgt := 9) (pc' := 7) dX10_read_4 (by decide) rfl (fun hc3 => ?_) (fun hc3 => ?_)
  · replace hf := if_t hc3 hf
    refine ex_iconst (v := (-1)) (pc' := 8) dX10_read_7 ic_m1 rfl ?_
    exact ex_iret dX10_read_8 rfl (hR _ _ (Option.some.inj hf).symm)
  · replace hf := if_f hc3 hf
    refine ex_aload_n 0 (pc' := 10) dX10_read_9 rfl rfl rfl ?_
    refine ex_getR (pc' := 13) dX10_read_10 fl_X10_31 rfl (sh10_k hM) (sh10_F4 hM) rfl ?_
    obtain ⟨r4, hq5, hf⟩ := of_bnd1 hf
    refine ex_callV_i (rm' := rmX8_fault) (st := []) (pc' := 16) [] dX10_read_13 cl_X10_303 (k_X8_fault G hM hq5) rfl (sh8_k (sh10_T4 hM)) ⟨_, _, rfl⟩ rfl rfl (ROOM_of rfl) (Nat.le_of_ble_eq_true rfl) rfl rfl ?_
    refine ex_istore_n (lv' := [(2, .int r4), (0, .ref (gB G + 0)), (1, .int v1)]) (pc' := 17) dX10_read_16 rfl (Nat.le_of_ble_eq_true rfl) rfl rfl ?_
    refine ex_iload_n 0 (pc' := 18) dX10_read_17 rfl rfl rfl ?_
    refine ex_iconst (v := (-1)) (pc' := 19) dX10_read_18 ic_m1 rfl ?_
    refine ex_icmpne (tgt := 32) (pc' := 22) dX10_read_19 (by decide) rfl (fun hc6 => ?_) (fun hc6 => ?_)
    · replace hf := if_t hc6 hf
      refine ex_aload_n 1 (pc' := 23) dX10_read_22 rfl rfl rfl ?_
      refine ex_getR (pc' := 26) dX10_read_23 fl_X10_31 rfl (sh10_k hM) (sh10_F4 hM) rfl ?_
      obtain ⟨r7, I8, hq9, hf⟩ := of_bnd2 hf
      refine ex_callV_i (rm' := rmX8_spell) (st := []) (pc' := 29) [] dX10_read_26 cl_X10_306 (k_X8_spell G hM hq9) rfl (sh8_k (sh10_T4 hM)) ⟨_, _, rfl⟩ rfl rfl (ROOM_of rfl) (Nat.le_of_ble_eq_true rfl) rfl rfl ?_
      refine ex_goto (tgt := 36) dX10_read_29 (by decide) ?_
      refine ex_sub [1, 2] rfl (k_X10_read_j36 hM  hf hR)
    · replace hf := if_f hc6 hf
      refine ex_bipush (v := (-100)) (pc' := 34) dX10_read_32 bp_m100 rfl ?_
      refine ex_iload_n 0 (pc' := 35) dX10_read_34 rfl rfl rfl ?_
      refine ex_isub (pc' := 36) dX10_read_35 rfl ?_
      refine ex_sub [1, 2] rfl (k_X10_read_j36 hM  hf hR)
set_option maxRecDepth 100000 in
set_option maxHeartbeats 4000000 in
theorem k_X10_read (G : GX) {X : MX} (hM : shX10 X) {v1 : Int32}  {N : Nat} {I : MI} {L : ML} {z : Int32} {I' : MI} (hf : f_X10_read N v1 I = some (z, I')) : Con G mX10_read yX10_read rmX10_read (fun B => [.ref (B + 0), .int v1]) X I L (some (.int z)) X I' L :=
  Con.of (by decide) rfl (fun h => by cases h) (fun B => Nat.le_of_ble_eq_true rfl) (fun G => kb_X10_read hM  hf (fun _ _ he => by cases he; rfl))
-- X10_restore ('RookWords', 'restore', '()I')
def rmX10_restore : RM := ((3, 69, 0, 0), false, (some FieldType.int))
def f_X10_restore (N : Nat)  (I : MI) (L : ML) : Option (Int32 × MI × ML) := (if (I 0 2) = 0 then some ((-3), I, L) else bnd2 (f_X5_becomeLike N 1 34 I L) fun I2 L3 => bnd1 (f_X1_forget I2) fun I5 => bnd1 (f_X5_allLetters N 1 I5) fun r7 => some (r7, I5, L3))
set_option maxRecDepth 100000 in
set_option maxHeartbeats 4000000 in
theorem kb_X10_restore {G : GX} {Q : State → Prop} {X : MX} (hM : shX10 X)   {N : Nat} {I : MI} {L : ML} {out : Int32 × MI × ML} (hf : f_X10_restore N I L = some out) (hR : ∀ (z : Int32) (I' : MI) (L' : ML), out = (z, I', L') → Q = RetQ G (some (.int z)) X I' L' (0, 0)) : Ex G mX10_restore rmX10_restore Q (0, 0) X I L 0 [(0, .ref (gB G + 0))] [] := by
  unfold f_X10_restore at hf
  refine ex_aload_n 0 (pc' := 1) dX10_restore_0 rfl rfl rfl ?_
  refine ex_getI (pc' := 4) dX10_restore_1 fl_X10_329 rfl (sh10_k hM) rfl ?_
  refine ex_ifne (tgt := 10) (pc' := 7) dX10_restore_4 (by decide) rfl (fun hc1 => ?_) (fun hc1 => ?_)
  · replace hf := if_t hc1 hf
    refine ex_bipush (v := (-3)) (pc' := 9) dX10_restore_7 bp_m3 rfl ?_
    exact ex_iret dX10_restore_9 rfl (hR _ _ _ (Option.some.inj hf).symm)
  · replace hf := if_f hc1 hf
    refine ex_aload_n 0 (pc' := 11) dX10_restore_10 rfl rfl rfl ?_
    refine ex_getR (pc' := 14) dX10_restore_11 fl_X10_12 rfl (sh10_k hM) (sh10_F0 hM) rfl ?_
    refine ex_aload_n 0 (pc' := 15) dX10_restore_14 rfl rfl rfl ?_
    refine ex_getR (pc' := 18) dX10_restore_15 fl_X10_18 rfl (sh10_k hM) (sh10_F1 hM) rfl ?_
    obtain ⟨I2, L3, hq4, hf⟩ := of_bnd2 hf
    refine ex_callV_v (rm' := rmX5_becomeLike) (st := []) (pc' := 21) [.ref (gB G + 34)] dX10_restore_18 cl_X10_326 (k_X5_becomeLike G (sh10_T0 hM) (sh10_T1 hM) hq4) rfl (sh5_k (sh10_T0 hM)) ⟨_, _, rfl⟩ rfl rfl (ROOM_of rfl) (Nat.le_of_ble_eq_true rfl) rfl rfl ?_
    refine ex_aload_n 0 (pc' := 22) dX10_restore_21 rfl rfl rfl ?_
    refine ex_getR (pc' := 25) dX10_restore_22 fl_X10_24 rfl (sh10_k hM) (sh10_F3 hM) rfl ?_
    obtain ⟨I5, hq6, hf⟩ := of_bnd1 hf
    refine ex_callV_v (rm' := rmX1_forget) (st := []) (pc' := 28) [] dX10_restore_25 cl_X10_156 (k_X1_forget G hM hq6) rfl (sh1_k (sh10_T3 hM)) ⟨_, _, rfl⟩ rfl rfl (ROOM_of rfl) (Nat.le_of_ble_eq_true rfl) rfl rfl ?_
    refine ex_aload_n 0 (pc' := 29) dX10_restore_28 rfl rfl rfl ?_
    refine ex_getR (pc' := 32) dX10_restore_29 fl_X10_12 rfl (sh10_k hM) (sh10_F0 hM) rfl ?_
    obtain ⟨r7, hq8, hf⟩ := of_bnd1 hf
    refine ex_callV_i (rm' := rmX5_allLetters) (st := []) (pc' := 35) [] dX10_restore_32 cl_X10_333 (k_X5_allLetters G (sh10_T0 hM) hq8) rfl (sh5_k (sh10_T0 hM)) ⟨_, _, rfl⟩ rfl rfl (ROOM_of rfl) (Nat.le_of_ble_eq_true rfl) rfl rfl ?_
    exact ex_iret dX10_restore_35 rfl (hR _ _ _ (Option.some.inj hf).symm)
set_option maxRecDepth 100000 in
set_option maxHeartbeats 4000000 in
theorem k_X10_restore (G : GX) {X : MX} (hM : shX10 X)   {N : Nat} {I : MI} {L : ML} {z : Int32} {I' : MI} {L' : ML} (hf : f_X10_restore N I L = some (z, I', L')) : Con G mX10_restore yX10_restore rmX10_restore (fun B => [.ref (B + 0)]) X I L (some (.int z)) X I' L' :=
  Con.of (by decide) rfl (fun h => by cases h) (fun B => Nat.le_of_ble_eq_true rfl) (fun G => kb_X10_restore hM  hf (fun _ _ _ he => by cases he; rfl))
theorem fl_X10_192 : FLD RX10 192 0 1 true := ⟨RX0, TX0, 2, rfl, inX0, by decide, lwg_at 131 (by decide +kernel) rfl, nmX0, tyX0_ok, rfl, rfl⟩
-- X10_row ('RookWords', 'row', '(II)I')
def rmX10_row : RM := ((1, 22, 0, 0), false, (some FieldType.int))
def f_X10_row (v1 : Int32) (v2 : Int32) (I : MI) : Option (Int32) := bnd1 (f_X10_isPiece v1) fun r1 => (if r1 = 0 then some (-1) else if inb v1 6 then bnd1 (f_X0_isPlace (12 + 4 * (Int32.toNatClampNeg v1)) v2 0 I) fun r5 => (if r5 = 0 then some (-1) else if inb v1 6 then if inb v2 6 then some (I (12 + 4 * (Int32.toNatClampNeg v1) + 1) (Int32.toNatClampNeg v2)) else none else none) else none)
set_option maxRecDepth 100000 in
set_option maxHeartbeats 4000000 in
theorem kb_X10_row {G : GX} {Q : State → Prop} {X : MX} (hM : shX10 X) {v1 : Int32} {v2 : Int32}  {I : MI} {L : ML} {out : Int32} (hf : f_X10_row v1 v2 I = some out) (hR : ∀ (z : Int32), out = z → Q = RetQ G (some (.int z)) X I L (0, 0)) : Ex G mX10_row rmX10_row Q (0, 0) X I L 0 [(0, .ref (gB G + 0)), (1, .int v1), (2, .int v2)] [] := by
  unfold f_X10_row at hf
  refine ex_iload_n 1 (pc' := 1) dX10_row_0 rfl rfl rfl ?_
  obtain ⟨r1, hq2, hf⟩ := of_bnd1 hf
  refine ex_callS_i (rm' := rmX10_isPiece) (st := []) (pc' := 4) [.int v1] dX10_row_1 cl_X10_66 (k_X10_isPiece G hq2) rfl rfl rfl (ROOM_of rfl) (Nat.le_of_ble_eq_true rfl) rfl rfl ?_
  refine ex_ifeq (tgt := 24) (pc' := 7) dX10_row_4 (by decide) rfl (fun hc3 => ?_) (fun hc3 => ?_)
  · replace hf := if_t hc3 hf
    refine ex_iconst (v := (-1)) (pc' := 25) dX10_row_24 ic_m1 rfl ?_
    exact ex_iret dX10_row_25 rfl (hR _ (Option.some.inj hf).symm)
  · replace hf := if_f hc3 hf
    refine ex_aload_n 0 (pc' := 8) dX10_row_7 rfl rfl rfl ?_
    refine ex_getR (pc' := 11) dX10_row_8 fl_X10_12 rfl (sh10_k hM) (sh10_F0 hM) rfl ?_
    refine ex_getR (pc' := 14) dX10_row_11 fl_X10_143 rfl (sh5_k (sh10_T0 hM)) (sh5_F2 (sh10_T0 hM)) rfl ?_
    refine ex_iload_n 1 (pc' := 15) dX10_row_14 rfl rfl rfl ?_
    obtain ⟨hg4, hf⟩ := of_guard hf
    refine ex_aaldS (pc' := 16) dX10_row_15 (sh5_T2 (sh10_T0 hM)) (by decide) (by decide) (inb_in hg4) (sh5_E2 (sh10_T0 hM) _ (inb_lt hg4)) rfl ?_
    refine ex_iload_n 2 (pc' := 17) dX10_row_16 rfl rfl rfl ?_
    refine ex_iconst (v := 0) (pc' := 18) dX10_row_17 ic_0 rfl ?_
    obtain ⟨r5, hq6, hf⟩ := of_bnd1 hf
    refine ex_callV_i (rm' := rmX0_isPlace) (st := []) (pc' := 21) [.int v2, .int 0] dX10_row_18 cl_X10_159 (k_X0_isPlace G (sh5_O2 (sh10_T0 hM) _ (inb_lt hg4)) hq6) rfl (sh0_k (sh5_O2 (sh10_T0 hM) _ (inb_lt hg4))) ⟨_, _, rfl⟩ rfl rfl (ROOM_of rfl) (Nat.le_of_ble_eq_true rfl) rfl rfl ?_
    refine ex_ifne (tgt := 26) (pc' := 24) dX10_row_21 (by decide) rfl (fun hc7 => ?_) (fun hc7 => ?_)
    · replace hf := if_t hc7 hf
      refine ex_iconst (v := (-1)) (pc' := 25) dX10_row_24 ic_m1 rfl ?_
      exact ex_iret dX10_row_25 rfl (hR _ (Option.some.inj hf).symm)
    · replace hf := if_f hc7 hf
      refine ex_aload_n 0 (pc' := 27) dX10_row_26 rfl rfl rfl ?_
      refine ex_getR (pc' := 30) dX10_row_27 fl_X10_12 rfl (sh10_k hM) (sh10_F0 hM) rfl ?_
      refine ex_getR (pc' := 33) dX10_row_30 fl_X10_143 rfl (sh5_k (sh10_T0 hM)) (sh5_F2 (sh10_T0 hM)) rfl ?_
      refine ex_iload_n 1 (pc' := 34) dX10_row_33 rfl rfl rfl ?_
      obtain ⟨hg8, hf⟩ := of_guard hf
      refine ex_aaldS (pc' := 35) dX10_row_34 (sh5_T2 (sh10_T0 hM)) (by decide) (by decide) (inb_in hg8) (sh5_E2 (sh10_T0 hM) _ (inb_lt hg8)) rfl ?_
      refine ex_getR (pc' := 38) dX10_row_35 fl_X10_192 rfl (sh0_k (sh5_O2 (sh10_T0 hM) _ (inb_lt hg8))) (sh0_F1 (sh5_O2 (sh10_T0 hM) _ (inb_lt hg8))) rfl ?_
      refine ex_iload_n 2 (pc' := 39) dX10_row_38 rfl rfl rfl ?_
      obtain ⟨hg9, hf⟩ := of_guard hf
      refine ex_iald (pc' := 40) dX10_row_39 (sh0_T1 (sh5_O2 (sh10_T0 hM) _ (inb_lt hg8))) (inb_in hg9) rfl ?_
      exact ex_iret dX10_row_40 rfl (hR _ (Option.some.inj hf).symm)
set_option maxRecDepth 100000 in
set_option maxHeartbeats 4000000 in
theorem k_X10_row (G : GX) {X : MX} (hM : shX10 X) {v1 : Int32} {v2 : Int32}  {I : MI} {L : ML} {z : Int32} (hf : f_X10_row v1 v2 I = some z) : Con G mX10_row yX10_row rmX10_row (fun B => [.ref (B + 0), .int v1, .int v2]) X I L (some (.int z)) X I L :=
  Con.of (by decide) rfl (fun h => by cases h) (fun B => Nat.le_of_ble_eq_true rfl) (fun G => kb_X10_row hM  hf (fun _ he => by cases he; rfl))
theorem fl_X10_252 : FLD RX10 252 5 6 false := ⟨RX5, TX5, 7, rfl, inX5, by decide, lwg_at 155 (by decide +kernel) rfl, nmX5, tyX5_ok, rfl, rfl⟩
theorem sp_9999 : (Int16.ofInt 9999).toInt32 = 9999 := by decide
theorem fl_X10_255 : FLD RX10 255 5 4 true := ⟨RX5, TX5, 7, rfl, inX5, by decide, lwg_at 151 (by decide +kernel) rfl, nmX5, tyX5_ok, rfl, rfl⟩
theorem fl_X10_258 : FLD RX10 258 5 5 true := ⟨RX5, TX5, 7, rfl, inX5, by decide, lwg_at 153 (by decide +kernel) rfl, nmX5, tyX5_ok, rfl, rfl⟩
-- X10_see ('RookWords', 'see', '(II)I')
def rmX10_see : RM := ((0, 0, 0, 0), false, (some FieldType.int))
def f_X10_see (v1 : Int32) (v2 : Int32) (I : MI) : Option (Int32 × MI) := (if v1 < (-1) then some ((-1), I) else (if 6 < v1 then some ((-1), I) else (if v1 = (-1) then letv (upI I 1 6 0) fun I4 => some (0, I4) else (if v2 < 0 then some ((-2), I) else (if 9999 < v2 then some ((-2), I) else (if (I 1 6) < 4 then if inb (I 1 6) 4 then letv (upI I 8 (Int32.toNatClampNeg (I 1 6)) v1) fun I9 => if inb (I9 1 6) 4 then letv (upI I9 9 (Int32.toNatClampNeg (I9 1 6)) v2) fun I11 => letv (upI I11 1 6 ((I11 1 6) + 1)) fun I12 => some (I12 1 6, I12) else none else none else some ((-4), I)))))))
set_option maxRecDepth 100000 in
set_option maxHeartbeats 4000000 in
theorem kb_X10_see {G : GX} {Q : State → Prop} {X : MX} (hM : shX10 X) {v1 : Int32} {v2 : Int32}  {I : MI} {L : ML} {out : Int32 × MI} (hf : f_X10_see v1 v2 I = some out) (hR : ∀ (z : Int32) (I' : MI), out = (z, I') → Q = RetQ G (some (.int z)) X I' L (0, 0)) : Ex G mX10_see rmX10_see Q (0, 0) X I L 0 [(0, .ref (gB G + 0)), (1, .int v1), (2, .int v2)] [] := by
  unfold f_X10_see at hf
  refine ex_iload_n 1 (pc' := 1) dX10_see_0 rfl rfl rfl ?_
  refine ex_iconst (v := (-1)) (pc' := 2) dX10_see_1 ic_m1 rfl ?_
  refine ex_icmplt (tgt := 11) (pc' := 5) dX10_see_2 (by decide) rfl (fun hc1 => ?_) (fun hc1 => ?_)
  · replace hf := if_t hc1 hf
    refine ex_iconst (v := (-1)) (pc' := 12) dX10_see_11 ic_m1 rfl ?_
    exact ex_iret dX10_see_12 rfl (hR _ _ (Option.some.inj hf).symm)
  · replace hf := if_f hc1 hf
    refine ex_iload_n 1 (pc' := 6) dX10_see_5 rfl rfl rfl ?_
    refine ex_bipush (v := 6) (pc' := 8) dX10_see_6 bp_6 rfl ?_
    refine ex_icmple (tgt := 13) (pc' := 11) dX10_see_8 (by decide) rfl (fun hc2 => ?_) (fun hc2 => ?_)
    · replace hf := if_t hc2 hf
      refine ex_iconst (v := (-1)) (pc' := 12) dX10_see_11 ic_m1 rfl ?_
      exact ex_iret dX10_see_12 rfl (hR _ _ (Option.some.inj hf).symm)
    · replace hf := if_f hc2 hf
      refine ex_iload_n 1 (pc' := 14) dX10_see_13 rfl rfl rfl ?_
      refine ex_iconst (v := (-1)) (pc' := 15) dX10_see_14 ic_m1 rfl ?_
      refine ex_icmpne (tgt := 28) (pc' := 18) dX10_see_15 (by decide) rfl (fun hc3 => ?_) (fun hc3 => ?_)
      · replace hf := if_t hc3 hf
        refine ex_aload_n 0 (pc' := 19) dX10_see_18 rfl rfl rfl ?_
        refine ex_getR (pc' := 22) dX10_see_19 fl_X10_12 rfl (sh10_k hM) (sh10_F0 hM) rfl ?_
        refine ex_iconst (v := 0) (pc' := 23) dX10_see_22 ic_0 rfl ?_
        refine ex_putI (pc' := 26) dX10_see_23 fl_X10_252 rfl (sh5_k (sh10_T0 hM)) rfl ?_
        obtain ⟨I4, hI4, hf⟩ := of_let hf
        rw [← hI4]
        refine ex_iconst (v := 0) (pc' := 27) dX10_see_26 ic_0 rfl ?_
        exact ex_iret dX10_see_27 rfl (hR _ _ (Option.some.inj hf).symm)
      · replace hf := if_f hc3 hf
        refine ex_iload_n 2 (pc' := 29) dX10_see_28 rfl rfl rfl ?_
        refine ex_iflt (tgt := 39) (pc' := 32) dX10_see_29 (by decide) rfl (fun hc5 => ?_) (fun hc5 => ?_)
        · replace hf := if_t hc5 hf
          refine ex_bipush (v := (-2)) (pc' := 41) dX10_see_39 bp_m2 rfl ?_
          exact ex_iret dX10_see_41 rfl (hR _ _ (Option.some.inj hf).symm)
        · replace hf := if_f hc5 hf
          refine ex_iload_n 2 (pc' := 33) dX10_see_32 rfl rfl rfl ?_
          refine ex_sipush (v := 9999) (pc' := 36) dX10_see_33 sp_9999 rfl ?_
          refine ex_icmple (tgt := 42) (pc' := 39) dX10_see_36 (by decide) rfl (fun hc6 => ?_) (fun hc6 => ?_)
          · replace hf := if_t hc6 hf
            refine ex_bipush (v := (-2)) (pc' := 41) dX10_see_39 bp_m2 rfl ?_
            exact ex_iret dX10_see_41 rfl (hR _ _ (Option.some.inj hf).symm)
          · replace hf := if_f hc6 hf
            refine ex_aload_n 0 (pc' := 43) dX10_see_42 rfl rfl rfl ?_
            refine ex_getR (pc' := 46) dX10_see_43 fl_X10_12 rfl (sh10_k hM) (sh10_F0 hM) rfl ?_
            refine ex_getI (pc' := 49) dX10_see_46 fl_X10_252 rfl (sh5_k (sh10_T0 hM)) rfl ?_
            refine ex_iconst (v := 4) (pc' := 50) dX10_see_49 ic_4 rfl ?_
            refine ex_icmplt (tgt := 56) (pc' := 53) dX10_see_50 (by decide) rfl (fun hc7 => ?_) (fun hc7 => ?_)
            · replace hf := if_t hc7 hf
              refine ex_aload_n 0 (pc' := 57) dX10_see_56 rfl rfl rfl ?_
              refine ex_getR (pc' := 60) dX10_see_57 fl_X10_12 rfl (sh10_k hM) (sh10_F0 hM) rfl ?_
              refine ex_getR (pc' := 63) dX10_see_60 fl_X10_255 rfl (sh5_k (sh10_T0 hM)) (sh5_F4 (sh10_T0 hM)) rfl ?_
              refine ex_aload_n 0 (pc' := 64) dX10_see_63 rfl rfl rfl ?_
              refine ex_getR (pc' := 67) dX10_see_64 fl_X10_12 rfl (sh10_k hM) (sh10_F0 hM) rfl ?_
              refine ex_getI (pc' := 70) dX10_see_67 fl_X10_252 rfl (sh5_k (sh10_T0 hM)) rfl ?_
              refine ex_iload_n 1 (pc' := 71) dX10_see_70 rfl rfl rfl ?_
              obtain ⟨hg8, hf⟩ := of_guard hf
              refine ex_iast (pc' := 72) dX10_see_71 (sh5_T4 (sh10_T0 hM)) (inb_in hg8) rfl ?_
              obtain ⟨I9, hI9, hf⟩ := of_let hf
              rw [← hI9]
              refine ex_aload_n 0 (pc' := 73) dX10_see_72 rfl rfl rfl ?_
              refine ex_getR (pc' := 76) dX10_see_73 fl_X10_12 rfl (sh10_k hM) (sh10_F0 hM) rfl ?_
              refine ex_getR (pc' := 79) dX10_see_76 fl_X10_258 rfl (sh5_k (sh10_T0 hM)) (sh5_F5 (sh10_T0 hM)) rfl ?_
              refine ex_aload_n 0 (pc' := 80) dX10_see_79 rfl rfl rfl ?_
              refine ex_getR (pc' := 83) dX10_see_80 fl_X10_12 rfl (sh10_k hM) (sh10_F0 hM) rfl ?_
              refine ex_getI (pc' := 86) dX10_see_83 fl_X10_252 rfl (sh5_k (sh10_T0 hM)) rfl ?_
              refine ex_iload_n 2 (pc' := 87) dX10_see_86 rfl rfl rfl ?_
              obtain ⟨hg10, hf⟩ := of_guard hf
              refine ex_iast (pc' := 88) dX10_see_87 (sh5_T5 (sh10_T0 hM)) (inb_in hg10) rfl ?_
              obtain ⟨I11, hI11, hf⟩ := of_let hf
              rw [← hI11]
              refine ex_aload_n 0 (pc' := 89) dX10_see_88 rfl rfl rfl ?_
              refine ex_getR (pc' := 92) dX10_see_89 fl_X10_12 rfl (sh10_k hM) (sh10_F0 hM) rfl ?_
              refine ex_dup (pc' := 93) dX10_see_92 rfl rfl ?_
              refine ex_getI (pc' := 96) dX10_see_93 fl_X10_252 rfl (sh5_k (sh10_T0 hM)) rfl ?_
              refine ex_iconst (v := 1) (pc' := 97) dX10_see_96 ic_1 rfl ?_
              refine ex_iadd (pc' := 98) dX10_see_97 rfl ?_
              refine ex_putI (pc' := 101) dX10_see_98 fl_X10_252 rfl (sh5_k (sh10_T0 hM)) rfl ?_
              obtain ⟨I12, hI12, hf⟩ := of_let hf
              rw [← hI12]
              refine ex_aload_n 0 (pc' := 102) dX10_see_101 rfl rfl rfl ?_
              refine ex_getR (pc' := 105) dX10_see_102 fl_X10_12 rfl (sh10_k hM) (sh10_F0 hM) rfl ?_
              refine ex_getI (pc' := 108) dX10_see_105 fl_X10_252 rfl (sh5_k (sh10_T0 hM)) rfl ?_
              exact ex_iret dX10_see_108 rfl (hR _ _ (Option.some.inj hf).symm)
            · replace hf := if_f hc7 hf
              refine ex_bipush (v := (-4)) (pc' := 55) dX10_see_53 bp_m4 rfl ?_
              exact ex_iret dX10_see_55 rfl (hR _ _ (Option.some.inj hf).symm)
set_option maxRecDepth 100000 in
set_option maxHeartbeats 4000000 in
theorem k_X10_see (G : GX) {X : MX} (hM : shX10 X) {v1 : Int32} {v2 : Int32}  {I : MI} {L : ML} {z : Int32} {I' : MI} (hf : f_X10_see v1 v2 I = some (z, I')) : Con G mX10_see yX10_see rmX10_see (fun B => [.ref (B + 0), .int v1, .int v2]) X I L (some (.int z)) X I' L :=
  Con.of (by decide) rfl (fun h => by cases h) (fun B => Nat.le_of_ble_eq_true rfl) (fun G => kb_X10_see hM  hf (fun _ _ he => by cases he; rfl))
theorem cl_X10_353 : CLV RX10 353 yX7_hasPart mX7_hasPart (some FieldType.boolean) 2 := ⟨⟨lwg_at 923 (by decide +kernel) rfl, lwg_at 924 (by decide +kernel) rfl, lwg_at 925 (by decide +kernel) rfl, lwg_at 59 (by decide +kernel) rfl⟩, lwg_at 926 (by decide +kernel) rfl, ⟨by decide +kernel, by decide +kernel, by decide +kernel⟩⟩
theorem cl_X10_356 : CPW RX10 356 := ⟨lwg_at 927 (by decide +kernel) rfl, lwg_at 413 (by decide +kernel) rfl, lwg_at 412 (by decide +kernel) rfl, lwg_at 63 (by decide +kernel) rfl⟩
-- X10_shift ('RookWords', 'shift', '(IIIII)I')
def rmX10_shift : RM := ((1, 26, 0, 0), false, (some FieldType.int))
def f_X10_shift (v1 : Int32) (v2 : Int32) (v3 : Int32) (v4 : Int32) (v5 : Int32) (I : MI) (L : ML) : Option (Int32 × ML) := bnd1 (f_X10_isPiece v1) fun r1 => (if r1 = 0 then some ((-1), L) else bnd1 (f_X10_isPiece v3) fun r4 => (if r4 = 0 then some ((-1), L) else if inb v1 6 then if inb v3 6 then (if (I (79 + 2 * (Int32.toNatClampNeg v1)) 0) = (-1) then some ((-11), L) else (if (I (79 + 2 * (Int32.toNatClampNeg v3)) 0) = (-1) then some ((-11), L) else (if (I (79 + 2 * (Int32.toNatClampNeg v1)) 0) = (I (79 + 2 * (Int32.toNatClampNeg v3)) 0) then bnd1 (f_X7_hasPart (79 + 2 * (Int32.toNatClampNeg v1)) v2 v5 I) fun r12 => (if r12 = 0 then some ((-13), L) else bnd1 (f_X7_hasPart (79 + 2 * (Int32.toNatClampNeg v3)) v4 v5 I) fun r15 => (if r15 = 0 then some ((-13), L) else if cpok v2 v4 v5 60 60 then letv (cpL L (79 + 2 * (Int32.toNatClampNeg v1) + 1) (79 + 2 * (Int32.toNatClampNeg v3) + 1) (Int32.toNatClampNeg v2) (Int32.toNatClampNeg v4) (Int32.toNatClampNeg v5)) fun L19 => some (v5, L19) else none)) else some ((-12), L)))) else none else none))
set_option maxRecDepth 100000 in
set_option maxHeartbeats 4000000 in
theorem kb_X10_shift {G : GX} {Q : State → Prop} {X : MX} (hM : shX10 X) {v1 : Int32} {v2 : Int32} {v3 : Int32} {v4 : Int32} {v5 : Int32}  {I : MI} {L : ML} {out : Int32 × ML} (hf : f_X10_shift v1 v2 v3 v4 v5 I L = some out) (hR : ∀ (z : Int32) (L' : ML), out = (z, L') → Q = RetQ G (some (.int z)) X I L' (0, 0)) : Ex G mX10_shift rmX10_shift Q (0, 0) X I L 0 [(0, .ref (gB G + 0)), (1, .int v1), (2, .int v2), (3, .int v3), (4, .int v4), (5, .int v5)] [] := by
  unfold f_X10_shift at hf
  refine ex_iload_n 1 (pc' := 1) dX10_shift_0 rfl rfl rfl ?_
  obtain ⟨r1, hq2, hf⟩ := of_bnd1 hf
  refine ex_callS_i (rm' := rmX10_isPiece) (st := []) (pc' := 4) [.int v1] dX10_shift_1 cl_X10_66 (k_X10_isPiece G hq2) rfl rfl rfl (ROOM_of rfl) (Nat.le_of_ble_eq_true rfl) rfl rfl ?_
  refine ex_ifeq (tgt := 14) (pc' := 7) dX10_shift_4 (by decide) rfl (fun hc3 => ?_) (fun hc3 => ?_)
  · replace hf := if_t hc3 hf
    refine ex_iconst (v := (-1)) (pc' := 15) dX10_shift_14 ic_m1 rfl ?_
    exact ex_iret dX10_shift_15 rfl (hR _ _ (Option.some.inj hf).symm)
  · replace hf := if_f hc3 hf
    refine ex_iload_n 3 (pc' := 8) dX10_shift_7 rfl rfl rfl ?_
    obtain ⟨r4, hq5, hf⟩ := of_bnd1 hf
    refine ex_callS_i (rm' := rmX10_isPiece) (st := []) (pc' := 11) [.int v3] dX10_shift_8 cl_X10_66 (k_X10_isPiece G hq5) rfl rfl rfl (ROOM_of rfl) (Nat.le_of_ble_eq_true rfl) rfl rfl ?_
    refine ex_ifne (tgt := 16) (pc' := 14) dX10_shift_11 (by decide) rfl (fun hc6 => ?_) (fun hc6 => ?_)
    · replace hf := if_t hc6 hf
      refine ex_iconst (v := (-1)) (pc' := 15) dX10_shift_14 ic_m1 rfl ?_
      exact ex_iret dX10_shift_15 rfl (hR _ _ (Option.some.inj hf).symm)
    · replace hf := if_f hc6 hf
      refine ex_aload_n 0 (pc' := 17) dX10_shift_16 rfl rfl rfl ?_
      refine ex_getR (pc' := 20) dX10_shift_17 fl_X10_44 rfl (sh10_k hM) (sh10_F6 hM) rfl ?_
      refine ex_iload_n 1 (pc' := 21) dX10_shift_20 rfl rfl rfl ?_
      obtain ⟨hg7, hf⟩ := of_guard hf
      refine ex_aaldS (pc' := 22) dX10_shift_21 (sh10_T6 hM) (by decide) (by decide) (inb_in hg7) (sh10_E6 hM _ (inb_lt hg7)) rfl ?_
      refine ex_astore (lv' := [(6, .ref (gB G + (79 + 2 * (Int32.toNatClampNeg v1)))), (0, .ref (gB G + 0)), (1, .int v1), (2, .int v2), (3, .int v3), (4, .int v4), (5, .int v5)]) (pc' := 24) dX10_shift_22 (Nat.le_of_ble_eq_true rfl) rfl rfl ?_
      refine ex_aload_n 1 (pc' := 25) dX10_shift_24 rfl rfl rfl ?_
      refine ex_getR (pc' := 28) dX10_shift_25 fl_X10_44 rfl (sh10_k hM) (sh10_F6 hM) rfl ?_
      refine ex_iload_n 4 (pc' := 29) dX10_shift_28 rfl rfl rfl ?_
      obtain ⟨hg8, hf⟩ := of_guard hf
      refine ex_aaldS (pc' := 30) dX10_shift_29 (sh10_T6 hM) (by decide) (by decide) (inb_in hg8) (sh10_E6 hM _ (inb_lt hg8)) rfl ?_
      refine ex_astore (lv' := [(7, .ref (gB G + (79 + 2 * (Int32.toNatClampNeg v3)))), (6, .ref (gB G + (79 + 2 * (Int32.toNatClampNeg v1)))), (0, .ref (gB G + 0)), (1, .int v1), (2, .int v2), (3, .int v3), (4, .int v4), (5, .int v5)]) (pc' := 32) dX10_shift_30 (Nat.le_of_ble_eq_true rfl) rfl rfl ?_
      refine ex_aload 1 (pc' := 34) dX10_shift_32 rfl rfl ?_
      refine ex_getI (pc' := 37) dX10_shift_34 fl_X10_339 rfl (sh7_k (sh10_O6 hM _ (inb_lt hg7))) rfl ?_
      refine ex_iconst (v := (-1)) (pc' := 38) dX10_shift_37 ic_m1 rfl ?_
      refine ex_icmpeq (tgt := 50) (pc' := 41) dX10_shift_38 (by decide) rfl (fun hc9 => ?_) (fun hc9 => ?_)
      · replace hf := if_t hc9 hf
        refine ex_bipush (v := (-11)) (pc' := 52) dX10_shift_50 bp_m11 rfl ?_
        exact ex_iret dX10_shift_52 rfl (hR _ _ (Option.some.inj hf).symm)
      · replace hf := if_f hc9 hf
        refine ex_aload 0 (pc' := 43) dX10_shift_41 rfl rfl ?_
        refine ex_getI (pc' := 46) dX10_shift_43 fl_X10_339 rfl (sh7_k (sh10_O6 hM _ (inb_lt hg8))) rfl ?_
        refine ex_iconst (v := (-1)) (pc' := 47) dX10_shift_46 ic_m1 rfl ?_
        refine ex_icmpne (tgt := 53) (pc' := 50) dX10_shift_47 (by decide) rfl (fun hc10 => ?_) (fun hc10 => ?_)
        · replace hf := if_t hc10 hf
          refine ex_bipush (v := (-11)) (pc' := 52) dX10_shift_50 bp_m11 rfl ?_
          exact ex_iret dX10_shift_52 rfl (hR _ _ (Option.some.inj hf).symm)
        · replace hf := if_f hc10 hf
          refine ex_aload 1 (pc' := 55) dX10_shift_53 rfl rfl ?_
          refine ex_getI (pc' := 58) dX10_shift_55 fl_X10_339 rfl (sh7_k (sh10_O6 hM _ (inb_lt hg7))) rfl ?_
          refine ex_aload 0 (pc' := 60) dX10_shift_58 rfl rfl ?_
          refine ex_getI (pc' := 63) dX10_shift_60 fl_X10_339 rfl (sh7_k (sh10_O6 hM _ (inb_lt hg8))) rfl ?_
          refine ex_icmpeq (tgt := 69) (pc' := 66) dX10_shift_63 (by decide) rfl (fun hc11 => ?_) (fun hc11 => ?_)
          · replace hf := if_t hc11 hf
            refine ex_aload 1 (pc' := 71) dX10_shift_69 rfl rfl ?_
            refine ex_iload_n 4 (pc' := 72) dX10_shift_71 rfl rfl rfl ?_
            refine ex_iload 7 (pc' := 74) dX10_shift_72 rfl rfl ?_
            obtain ⟨r12, hq13, hf⟩ := of_bnd1 hf
            refine ex_callV_i (rm' := rmX7_hasPart) (st := []) (pc' := 77) [.int v2, .int v5] dX10_shift_74 cl_X10_353 (k_X7_hasPart G (sh10_O6 hM _ (inb_lt hg7)) hq13) rfl (sh7_k (sh10_O6 hM _ (inb_lt hg7))) ⟨_, _, rfl⟩ rfl rfl (ROOM_of rfl) (Nat.le_of_ble_eq_true rfl) rfl rfl ?_
            refine ex_ifeq (tgt := 92) (pc' := 80) dX10_shift_77 (by decide) rfl (fun hc14 => ?_) (fun hc14 => ?_)
            · replace hf := if_t hc14 hf
              refine ex_bipush (v := (-13)) (pc' := 94) dX10_shift_92 bp_m13 rfl ?_
              exact ex_iret dX10_shift_94 rfl (hR _ _ (Option.some.inj hf).symm)
            · replace hf := if_f hc14 hf
              refine ex_aload 0 (pc' := 82) dX10_shift_80 rfl rfl ?_
              refine ex_iload 6 (pc' := 84) dX10_shift_82 rfl rfl ?_
              refine ex_iload 7 (pc' := 86) dX10_shift_84 rfl rfl ?_
              obtain ⟨r15, hq16, hf⟩ := of_bnd1 hf
              refine ex_callV_i (rm' := rmX7_hasPart) (st := []) (pc' := 89) [.int v4, .int v5] dX10_shift_86 cl_X10_353 (k_X7_hasPart G (sh10_O6 hM _ (inb_lt hg8)) hq16) rfl (sh7_k (sh10_O6 hM _ (inb_lt hg8))) ⟨_, _, rfl⟩ rfl rfl (ROOM_of rfl) (Nat.le_of_ble_eq_true rfl) rfl rfl ?_
              refine ex_ifne (tgt := 95) (pc' := 92) dX10_shift_89 (by decide) rfl (fun hc17 => ?_) (fun hc17 => ?_)
              · replace hf := if_t hc17 hf
                refine ex_bipush (v := (-13)) (pc' := 94) dX10_shift_92 bp_m13 rfl ?_
                exact ex_iret dX10_shift_94 rfl (hR _ _ (Option.some.inj hf).symm)
              · replace hf := if_f hc17 hf
                refine ex_aload 1 (pc' := 97) dX10_shift_95 rfl rfl ?_
                refine ex_getR (pc' := 100) dX10_shift_97 fl_X10_343 rfl (sh7_k (sh10_O6 hM _ (inb_lt hg7))) (sh7_F2 (sh10_O6 hM _ (inb_lt hg7))) rfl ?_
                refine ex_iload_n 4 (pc' := 101) dX10_shift_100 rfl rfl rfl ?_
                refine ex_aload 0 (pc' := 103) dX10_shift_101 rfl rfl ?_
                refine ex_getR (pc' := 106) dX10_shift_103 fl_X10_343 rfl (sh7_k (sh10_O6 hM _ (inb_lt hg8))) (sh7_F2 (sh10_O6 hM _ (inb_lt hg8))) rfl ?_
                refine ex_iload 6 (pc' := 108) dX10_shift_106 rfl rfl ?_
                refine ex_iload 7 (pc' := 110) dX10_shift_108 rfl rfl ?_
                obtain ⟨hg18, hf⟩ := of_guard hf
                refine ex_copyL (pc' := 113) dX10_shift_110 cl_X10_356 (sh7_T2 (sh10_O6 hM _ (inb_lt hg7))) (sh7_T2 (sh10_O6 hM _ (inb_lt hg8))) (cpok_ok hg18) ⟨Nat.le_of_ble_eq_true rfl, Nat.le_of_ble_eq_true rfl⟩ rfl ?_
                obtain ⟨L19, hL19, hf⟩ := of_let hf
                rw [← hL19]
                refine ex_iload 7 (pc' := 115) dX10_shift_113 rfl rfl ?_
                exact ex_iret dX10_shift_115 rfl (hR _ _ (Option.some.inj hf).symm)
          · replace hf := if_f hc11 hf
            refine ex_bipush (v := (-12)) (pc' := 68) dX10_shift_66 bp_m12 rfl ?_
            exact ex_iret dX10_shift_68 rfl (hR _ _ (Option.some.inj hf).symm)
set_option maxRecDepth 100000 in
set_option maxHeartbeats 4000000 in
theorem k_X10_shift (G : GX) {X : MX} (hM : shX10 X) {v1 : Int32} {v2 : Int32} {v3 : Int32} {v4 : Int32} {v5 : Int32}  {I : MI} {L : ML} {z : Int32} {L' : ML} (hf : f_X10_shift v1 v2 v3 v4 v5 I L = some (z, L')) : Con G mX10_shift yX10_shift rmX10_shift (fun B => [.ref (B + 0), .int v1, .int v2, .int v3, .int v4, .int v5]) X I L (some (.int z)) X I L' :=
  Con.of (by decide) rfl (fun h => by cases h) (fun B => Nat.le_of_ble_eq_true rfl) (fun G => kb_X10_shift hM  hf (fun _ _ he => by cases he; rfl))
theorem cl_X10_140 : CLS RX10 140 yX10_isSide mX10_isSide (some FieldType.boolean) 1 := ⟨⟨lwg_at 454 (by decide +kernel) rfl, lwg_at 455 (by decide +kernel) rfl, lwg_at 50 (by decide +kernel) rfl⟩, lwg_at 456 (by decide +kernel) rfl, ⟨by decide +kernel, by decide +kernel, by decide +kernel⟩⟩
theorem cl_X10_152 : CLV RX10 152 yX0_clean mX0_clean none 1 := ⟨⟨lwg_at 457 (by decide +kernel) rfl, lwg_at 458 (by decide +kernel) rfl, lwg_at 459 (by decide +kernel) rfl, lwg_at 54 (by decide +kernel) rfl⟩, lwg_at 460 (by decide +kernel) rfl, ⟨by decide +kernel, by decide +kernel, by decide +kernel⟩⟩
-- X10_side ('RookWords', 'side', '(II)I')
def rmX10_side : RM := ((2, 44, 0, 0), false, (some FieldType.int))
def f_X10_side (N : Nat) (v1 : Int32) (v2 : Int32) (I : MI) : Option (Int32 × MI) := bnd1 (f_X10_isPiece v1) fun r1 => (if r1 = 0 then some ((-1), I) else bnd1 (f_X10_isSide v2) fun r4 => (if r4 = 0 then some ((-2), I) else if inb v1 6 then letv (I (12 + 4 * (Int32.toNatClampNeg v1)) 0) fun x8 => bnd1 (f_X0_clean N (12 + 4 * (Int32.toNatClampNeg v1)) v2 I) fun I9 => bnd1 (f_X1_forget I9) fun I11 => some (x8, I11) else none))
set_option maxRecDepth 100000 in
set_option maxHeartbeats 4000000 in
theorem kb_X10_side {G : GX} {Q : State → Prop} {X : MX} (hM : shX10 X) {v1 : Int32} {v2 : Int32}  {N : Nat} {I : MI} {L : ML} {out : Int32 × MI} (hf : f_X10_side N v1 v2 I = some out) (hR : ∀ (z : Int32) (I' : MI), out = (z, I') → Q = RetQ G (some (.int z)) X I' L (0, 0)) : Ex G mX10_side rmX10_side Q (0, 0) X I L 0 [(0, .ref (gB G + 0)), (1, .int v1), (2, .int v2)] [] := by
  unfold f_X10_side at hf
  refine ex_iload_n 1 (pc' := 1) dX10_side_0 rfl rfl rfl ?_
  obtain ⟨r1, hq2, hf⟩ := of_bnd1 hf
  refine ex_callS_i (rm' := rmX10_isPiece) (st := []) (pc' := 4) [.int v1] dX10_side_1 cl_X10_66 (k_X10_isPiece G hq2) rfl rfl rfl (ROOM_of rfl) (Nat.le_of_ble_eq_true rfl) rfl rfl ?_
  refine ex_ifne (tgt := 9) (pc' := 7) dX10_side_4 (by decide) rfl (fun hc3 => ?_) (fun hc3 => ?_)
  · replace hf := if_t hc3 hf
    refine ex_iconst (v := (-1)) (pc' := 8) dX10_side_7 ic_m1 rfl ?_
    exact ex_iret dX10_side_8 rfl (hR _ _ (Option.some.inj hf).symm)
  · replace hf := if_f hc3 hf
    refine ex_iload_n 2 (pc' := 10) dX10_side_9 rfl rfl rfl ?_
    obtain ⟨r4, hq5, hf⟩ := of_bnd1 hf
    refine ex_callS_i (rm' := rmX10_isSide) (st := []) (pc' := 13) [.int v2] dX10_side_10 cl_X10_140 (k_X10_isSide G hq5) rfl rfl rfl (ROOM_of rfl) (Nat.le_of_ble_eq_true rfl) rfl rfl ?_
    refine ex_ifne (tgt := 19) (pc' := 16) dX10_side_13 (by decide) rfl (fun hc6 => ?_) (fun hc6 => ?_)
    · replace hf := if_t hc6 hf
      refine ex_bipush (v := (-2)) (pc' := 18) dX10_side_16 bp_m2 rfl ?_
      exact ex_iret dX10_side_18 rfl (hR _ _ (Option.some.inj hf).symm)
    · replace hf := if_f hc6 hf
      refine ex_aload_n 0 (pc' := 20) dX10_side_19 rfl rfl rfl ?_
      refine ex_getR (pc' := 23) dX10_side_20 fl_X10_12 rfl (sh10_k hM) (sh10_F0 hM) rfl ?_
      refine ex_getR (pc' := 26) dX10_side_23 fl_X10_143 rfl (sh5_k (sh10_T0 hM)) (sh5_F2 (sh10_T0 hM)) rfl ?_
      refine ex_iload_n 1 (pc' := 27) dX10_side_26 rfl rfl rfl ?_
      obtain ⟨hg7, hf⟩ := of_guard hf
      refine ex_aaldS (pc' := 28) dX10_side_27 (sh5_T2 (sh10_T0 hM)) (by decide) (by decide) (inb_in hg7) (sh5_E2 (sh10_T0 hM) _ (inb_lt hg7)) rfl ?_
      refine ex_astore_n (lv' := [(3, .ref (gB G + (12 + 4 * (Int32.toNatClampNeg v1)))), (0, .ref (gB G + 0)), (1, .int v1), (2, .int v2)]) (pc' := 29) dX10_side_28 rfl (Nat.le_of_ble_eq_true rfl) rfl rfl ?_
      refine ex_aload_n 0 (pc' := 30) dX10_side_29 rfl rfl rfl ?_
      refine ex_getI (pc' := 33) dX10_side_30 fl_X10_147 rfl (sh0_k (sh5_O2 (sh10_T0 hM) _ (inb_lt hg7))) rfl ?_
      obtain ⟨x8, hx8, hf⟩ := of_let hf
      rw [← hx8]
      refine ex_istore (lv' := [(4, .int x8), (3, .ref (gB G + (12 + 4 * (Int32.toNatClampNeg v1)))), (0, .ref (gB G + 0)), (1, .int v1), (2, .int v2)]) (pc' := 35) dX10_side_33 (Nat.le_of_ble_eq_true rfl) rfl rfl ?_
      refine ex_aload_n 1 (pc' := 36) dX10_side_35 rfl rfl rfl ?_
      refine ex_iload_n 4 (pc' := 37) dX10_side_36 rfl rfl rfl ?_
      obtain ⟨I9, hq10, hf⟩ := of_bnd1 hf
      refine ex_callV_v (rm' := rmX0_clean) (st := []) (pc' := 40) [.int v2] dX10_side_37 cl_X10_152 (k_X0_clean G (sh5_O2 (sh10_T0 hM) _ (inb_lt hg7)) hq10) rfl (sh0_k (sh5_O2 (sh10_T0 hM) _ (inb_lt hg7))) ⟨_, _, rfl⟩ rfl rfl (ROOM_of rfl) (Nat.le_of_ble_eq_true rfl) rfl rfl ?_
      refine ex_aload_n 2 (pc' := 41) dX10_side_40 rfl rfl rfl ?_
      refine ex_getR (pc' := 44) dX10_side_41 fl_X10_24 rfl (sh10_k hM) (sh10_F3 hM) rfl ?_
      obtain ⟨I11, hq12, hf⟩ := of_bnd1 hf
      refine ex_callV_v (rm' := rmX1_forget) (st := []) (pc' := 47) [] dX10_side_44 cl_X10_156 (k_X1_forget G hM hq12) rfl (sh1_k (sh10_T3 hM)) ⟨_, _, rfl⟩ rfl rfl (ROOM_of rfl) (Nat.le_of_ble_eq_true rfl) rfl rfl ?_
      refine ex_iload 0 (pc' := 49) dX10_side_47 rfl rfl ?_
      exact ex_iret dX10_side_49 rfl (hR _ _ (Option.some.inj hf).symm)
set_option maxRecDepth 100000 in
set_option maxHeartbeats 4000000 in
theorem k_X10_side (G : GX) {X : MX} (hM : shX10 X) {v1 : Int32} {v2 : Int32}  {N : Nat} {I : MI} {L : ML} {z : Int32} {I' : MI} (hf : f_X10_side N v1 v2 I = some (z, I')) : Con G mX10_side yX10_side rmX10_side (fun B => [.ref (B + 0), .int v1, .int v2]) X I L (some (.int z)) X I' L :=
  Con.of (by decide) rfl (fun h => by cases h) (fun B => Nat.le_of_ble_eq_true rfl) (fun G => kb_X10_side hM  hf (fun _ _ he => by cases he; rfl))
theorem cl_X10_177 : CLS RX10 177 yX10_areHeights mX10_areHeights (some FieldType.boolean) 2 := ⟨⟨lwg_at 513 (by decide +kernel) rfl, lwg_at 514 (by decide +kernel) rfl, lwg_at 50 (by decide +kernel) rfl⟩, lwg_at 515 (by decide +kernel) rfl, ⟨by decide +kernel, by decide +kernel, by decide +kernel⟩⟩
theorem cl_X10_180 : CLV RX10 180 yX0_becomeSteps mX0_becomeSteps none 2 := ⟨⟨lwg_at 516 (by decide +kernel) rfl, lwg_at 517 (by decide +kernel) rfl, lwg_at 518 (by decide +kernel) rfl, lwg_at 54 (by decide +kernel) rfl⟩, lwg_at 519 (by decide +kernel) rfl, ⟨by decide +kernel, by decide +kernel, by decide +kernel⟩⟩
-- X10_steps ('RookWords', 'steps', '(III)I')
def rmX10_steps : RM := ((3, 67, 0, 0), false, (some FieldType.int))
def f_X10_steps (N : Nat) (v1 : Int32) (v2 : Int32) (v3 : Int32) (I : MI) : Option (Int32 × MI) := bnd1 (f_X10_isPiece v1) fun r1 => (if r1 = 0 then some ((-1), I) else bnd1 (f_X10_isSide v2) fun r4 => (if r4 = 0 then some ((-2), I) else bnd1 (f_X10_areHeights N v2 v3) fun r7 => (if r7 = 0 then some ((-2), I) else if inb v1 6 then bnd1 (f_X0_becomeSteps N (12 + 4 * (Int32.toNatClampNeg v1)) v2 v3 I) fun I11 => bnd1 (f_X1_forget I11) fun I13 => bnd1 (f_X0_cells N (12 + 4 * (Int32.toNatClampNeg v1)) I13) fun r15 => some (r15, I13) else none)))
set_option maxRecDepth 100000 in
set_option maxHeartbeats 4000000 in
theorem kb_X10_steps {G : GX} {Q : State → Prop} {X : MX} (hM : shX10 X) {v1 : Int32} {v2 : Int32} {v3 : Int32}  {N : Nat} {I : MI} {L : ML} {out : Int32 × MI} (hf : f_X10_steps N v1 v2 v3 I = some out) (hR : ∀ (z : Int32) (I' : MI), out = (z, I') → Q = RetQ G (some (.int z)) X I' L (0, 0)) : Ex G mX10_steps rmX10_steps Q (0, 0) X I L 0 [(0, .ref (gB G + 0)), (1, .int v1), (2, .int v2), (3, .int v3)] [] := by
  unfold f_X10_steps at hf
  refine ex_iload_n 1 (pc' := 1) dX10_steps_0 rfl rfl rfl ?_
  obtain ⟨r1, hq2, hf⟩ := of_bnd1 hf
  refine ex_callS_i (rm' := rmX10_isPiece) (st := []) (pc' := 4) [.int v1] dX10_steps_1 cl_X10_66 (k_X10_isPiece G hq2) rfl rfl rfl (ROOM_of rfl) (Nat.le_of_ble_eq_true rfl) rfl rfl ?_
  refine ex_ifne (tgt := 9) (pc' := 7) dX10_steps_4 (by decide) rfl (fun hc3 => ?_) (fun hc3 => ?_)
  · replace hf := if_t hc3 hf
    refine ex_iconst (v := (-1)) (pc' := 8) dX10_steps_7 ic_m1 rfl ?_
    exact ex_iret dX10_steps_8 rfl (hR _ _ (Option.some.inj hf).symm)
  · replace hf := if_f hc3 hf
    refine ex_iload_n 2 (pc' := 10) dX10_steps_9 rfl rfl rfl ?_
    obtain ⟨r4, hq5, hf⟩ := of_bnd1 hf
    refine ex_callS_i (rm' := rmX10_isSide) (st := []) (pc' := 13) [.int v2] dX10_steps_10 cl_X10_140 (k_X10_isSide G hq5) rfl rfl rfl (ROOM_of rfl) (Nat.le_of_ble_eq_true rfl) rfl rfl ?_
    refine ex_ifeq (tgt := 24) (pc' := 16) dX10_steps_13 (by decide) rfl (fun hc6 => ?_) (fun hc6 => ?_)
    · replace hf := if_t hc6 hf
      refine ex_bipush (v := (-2)) (pc' := 26) dX10_steps_24 bp_m2 rfl ?_
      exact ex_iret dX10_steps_26 rfl (hR _ _ (Option.some.inj hf).symm)
    · replace hf := if_f hc6 hf
      refine ex_iload_n 2 (pc' := 17) dX10_steps_16 rfl rfl rfl ?_
      refine ex_iload_n 3 (pc' := 18) dX10_steps_17 rfl rfl rfl ?_
      obtain ⟨r7, hq8, hf⟩ := of_bnd1 hf
      refine ex_callS_i (rm' := rmX10_areHeights) (st := []) (pc' := 21) [.int v2, .int v3] dX10_steps_18 cl_X10_177 (k_X10_areHeights G hq8) rfl rfl rfl (ROOM_of rfl) (Nat.le_of_ble_eq_true rfl) rfl rfl ?_
      refine ex_ifne (tgt := 27) (pc' := 24) dX10_steps_21 (by decide) rfl (fun hc9 => ?_) (fun hc9 => ?_)
      · replace hf := if_t hc9 hf
        refine ex_bipush (v := (-2)) (pc' := 26) dX10_steps_24 bp_m2 rfl ?_
        exact ex_iret dX10_steps_26 rfl (hR _ _ (Option.some.inj hf).symm)
      · replace hf := if_f hc9 hf
        refine ex_aload_n 0 (pc' := 28) dX10_steps_27 rfl rfl rfl ?_
        refine ex_getR (pc' := 31) dX10_steps_28 fl_X10_12 rfl (sh10_k hM) (sh10_F0 hM) rfl ?_
        refine ex_getR (pc' := 34) dX10_steps_31 fl_X10_143 rfl (sh5_k (sh10_T0 hM)) (sh5_F2 (sh10_T0 hM)) rfl ?_
        refine ex_iload_n 1 (pc' := 35) dX10_steps_34 rfl rfl rfl ?_
        obtain ⟨hg10, hf⟩ := of_guard hf
        refine ex_aaldS (pc' := 36) dX10_steps_35 (sh5_T2 (sh10_T0 hM)) (by decide) (by decide) (inb_in hg10) (sh5_E2 (sh10_T0 hM) _ (inb_lt hg10)) rfl ?_
        refine ex_astore (lv' := [(4, .ref (gB G + (12 + 4 * (Int32.toNatClampNeg v1)))), (0, .ref (gB G + 0)), (1, .int v1), (2, .int v2), (3, .int v3)]) (pc' := 38) dX10_steps_36 (Nat.le_of_ble_eq_true rfl) rfl rfl ?_
        refine ex_aload 0 (pc' := 40) dX10_steps_38 rfl rfl ?_
        refine ex_iload_n 3 (pc' := 41) dX10_steps_40 rfl rfl rfl ?_
        refine ex_iload_n 4 (pc' := 42) dX10_steps_41 rfl rfl rfl ?_
        obtain ⟨I11, hq12, hf⟩ := of_bnd1 hf
        refine ex_callV_v (rm' := rmX0_becomeSteps) (st := []) (pc' := 45) [.int v2, .int v3] dX10_steps_42 cl_X10_180 (k_X0_becomeSteps G (sh5_O2 (sh10_T0 hM) _ (inb_lt hg10)) hq12) rfl (sh0_k (sh5_O2 (sh10_T0 hM) _ (inb_lt hg10))) ⟨_, _, rfl⟩ rfl rfl (ROOM_of rfl) (Nat.le_of_ble_eq_true rfl) rfl rfl ?_
        refine ex_aload_n 1 (pc' := 46) dX10_steps_45 rfl rfl rfl ?_
        refine ex_getR (pc' := 49) dX10_steps_46 fl_X10_24 rfl (sh10_k hM) (sh10_F3 hM) rfl ?_
        obtain ⟨I13, hq14, hf⟩ := of_bnd1 hf
        refine ex_callV_v (rm' := rmX1_forget) (st := []) (pc' := 52) [] dX10_steps_49 cl_X10_156 (k_X1_forget G hM hq14) rfl (sh1_k (sh10_T3 hM)) ⟨_, _, rfl⟩ rfl rfl (ROOM_of rfl) (Nat.le_of_ble_eq_true rfl) rfl rfl ?_
        refine ex_aload 0 (pc' := 54) dX10_steps_52 rfl rfl ?_
        obtain ⟨r15, hq16, hf⟩ := of_bnd1 hf
        refine ex_callV_i (rm' := rmX0_cells) (st := []) (pc' := 57) [] dX10_steps_54 cl_X10_170 (k_X0_cells G (sh5_O2 (sh10_T0 hM) _ (inb_lt hg10)) hq16) rfl (sh0_k (sh5_O2 (sh10_T0 hM) _ (inb_lt hg10))) ⟨_, _, rfl⟩ rfl rfl (ROOM_of rfl) (Nat.le_of_ble_eq_true rfl) rfl rfl ?_
        exact ex_iret dX10_steps_57 rfl (hR _ _ (Option.some.inj hf).symm)
set_option maxRecDepth 100000 in
set_option maxHeartbeats 4000000 in
theorem k_X10_steps (G : GX) {X : MX} (hM : shX10 X) {v1 : Int32} {v2 : Int32} {v3 : Int32}  {N : Nat} {I : MI} {L : ML} {z : Int32} {I' : MI} (hf : f_X10_steps N v1 v2 v3 I = some (z, I')) : Con G mX10_steps yX10_steps rmX10_steps (fun B => [.ref (B + 0), .int v1, .int v2, .int v3]) X I L (some (.int z)) X I' L :=
  Con.of (by decide) rfl (fun h => by cases h) (fun B => Nat.le_of_ble_eq_true rfl) (fun G => kb_X10_steps hM  hf (fun _ _ he => by cases he; rfl))
theorem cl_X10_346 : CLV RX10 346 yX7_become mX7_become none 2 := ⟨⟨lwg_at 902 (by decide +kernel) rfl, lwg_at 903 (by decide +kernel) rfl, lwg_at 904 (by decide +kernel) rfl, lwg_at 59 (by decide +kernel) rfl⟩, lwg_at 905 (by decide +kernel) rfl, ⟨by decide +kernel, by decide +kernel, by decide +kernel⟩⟩
theorem bp_60 : (Int8.ofInt 60).toInt32 = 60 := by decide
theorem bp_m14 : (Int8.ofInt (-14)).toInt32 = (-14) := by decide
-- X10_tape ('RookWords', 'tape', '(III)I')
def rmX10_tape : RM := ((2, 46, 0, 0), false, (some FieldType.int))
def f_X10_tape (N : Nat) (v1 : Int32) (v2 : Int32) (v3 : Int32) (I : MI) (L : ML) : Option (Int32 × MI × ML) := bnd1 (f_X10_isPiece v1) fun r1 => (if r1 = 0 then some ((-1), I, L) else (if v2 < (-1) then some ((-2), I, L) else (if 4 < v2 then some ((-2), I, L) else (if v2 = (-1) then if inb v1 6 then bnd2 (f_X7_become N (79 + 2 * (Int32.toNatClampNeg v1)) (-1) 0 I L) fun I8 L9 => some (1, I8, L9) else none else (if 60 < v3 then some ((-2), I, L) else (if v3 < 0 then some ((-14), I, L) else if inb v1 6 then bnd2 (f_X7_become N (79 + 2 * (Int32.toNatClampNeg v1)) v2 v3 I L) fun I14 L15 => some (1, I14, L15) else none))))))
set_option maxRecDepth 100000 in
set_option maxHeartbeats 4000000 in
theorem kb_X10_tape {G : GX} {Q : State → Prop} {X : MX} (hM : shX10 X) {v1 : Int32} {v2 : Int32} {v3 : Int32}  {N : Nat} {I : MI} {L : ML} {out : Int32 × MI × ML} (hf : f_X10_tape N v1 v2 v3 I L = some out) (hR : ∀ (z : Int32) (I' : MI) (L' : ML), out = (z, I', L') → Q = RetQ G (some (.int z)) X I' L' (0, 0)) : Ex G mX10_tape rmX10_tape Q (0, 0) X I L 0 [(0, .ref (gB G + 0)), (1, .int v1), (2, .int v2), (3, .int v3)] [] := by
  unfold f_X10_tape at hf
  refine ex_iload_n 1 (pc' := 1) dX10_tape_0 rfl rfl rfl ?_
  obtain ⟨r1, hq2, hf⟩ := of_bnd1 hf
  refine ex_callS_i (rm' := rmX10_isPiece) (st := []) (pc' := 4) [.int v1] dX10_tape_1 cl_X10_66 (k_X10_isPiece G hq2) rfl rfl rfl (ROOM_of rfl) (Nat.le_of_ble_eq_true rfl) rfl rfl ?_
  refine ex_ifne (tgt := 9) (pc' := 7) dX10_tape_4 (by decide) rfl (fun hc3 => ?_) (fun hc3 => ?_)
  · replace hf := if_t hc3 hf
    refine ex_iconst (v := (-1)) (pc' := 8) dX10_tape_7 ic_m1 rfl ?_
    exact ex_iret dX10_tape_8 rfl (hR _ _ _ (Option.some.inj hf).symm)
  · replace hf := if_f hc3 hf
    refine ex_iload_n 2 (pc' := 10) dX10_tape_9 rfl rfl rfl ?_
    refine ex_iconst (v := (-1)) (pc' := 11) dX10_tape_10 ic_m1 rfl ?_
    refine ex_icmplt (tgt := 19) (pc' := 14) dX10_tape_11 (by decide) rfl (fun hc4 => ?_) (fun hc4 => ?_)
    · replace hf := if_t hc4 hf
      refine ex_bipush (v := (-2)) (pc' := 21) dX10_tape_19 bp_m2 rfl ?_
      exact ex_iret dX10_tape_21 rfl (hR _ _ _ (Option.some.inj hf).symm)
    · replace hf := if_f hc4 hf
      refine ex_iload_n 2 (pc' := 15) dX10_tape_14 rfl rfl rfl ?_
      refine ex_iconst (v := 4) (pc' := 16) dX10_tape_15 ic_4 rfl ?_
      refine ex_icmple (tgt := 22) (pc' := 19) dX10_tape_16 (by decide) rfl (fun hc5 => ?_) (fun hc5 => ?_)
      · replace hf := if_t hc5 hf
        refine ex_bipush (v := (-2)) (pc' := 21) dX10_tape_19 bp_m2 rfl ?_
        exact ex_iret dX10_tape_21 rfl (hR _ _ _ (Option.some.inj hf).symm)
      · replace hf := if_f hc5 hf
        refine ex_iload_n 2 (pc' := 23) dX10_tape_22 rfl rfl rfl ?_
        refine ex_iconst (v := (-1)) (pc' := 24) dX10_tape_23 ic_m1 rfl ?_
        refine ex_icmpne (tgt := 40) (pc' := 27) dX10_tape_24 (by decide) rfl (fun hc6 => ?_) (fun hc6 => ?_)
        · replace hf := if_t hc6 hf
          refine ex_aload_n 0 (pc' := 28) dX10_tape_27 rfl rfl rfl ?_
          refine ex_getR (pc' := 31) dX10_tape_28 fl_X10_44 rfl (sh10_k hM) (sh10_F6 hM) rfl ?_
          refine ex_iload_n 1 (pc' := 32) dX10_tape_31 rfl rfl rfl ?_
          obtain ⟨hg7, hf⟩ := of_guard hf
          refine ex_aaldS (pc' := 33) dX10_tape_32 (sh10_T6 hM) (by decide) (by decide) (inb_in hg7) (sh10_E6 hM _ (inb_lt hg7)) rfl ?_
          refine ex_iconst (v := (-1)) (pc' := 34) dX10_tape_33 ic_m1 rfl ?_
          refine ex_iconst (v := 0) (pc' := 35) dX10_tape_34 ic_0 rfl ?_
          obtain ⟨I8, L9, hq10, hf⟩ := of_bnd2 hf
          refine ex_callV_v (rm' := rmX7_become) (st := []) (pc' := 38) [.int (-1), .int 0] dX10_tape_35 cl_X10_346 (k_X7_become G (sh10_O6 hM _ (inb_lt hg7)) hq10) rfl (sh7_k (sh10_O6 hM _ (inb_lt hg7))) ⟨_, _, rfl⟩ rfl rfl (ROOM_of rfl) (Nat.le_of_ble_eq_true rfl) rfl rfl ?_
          refine ex_iconst (v := 1) (pc' := 39) dX10_tape_38 ic_1 rfl ?_
          exact ex_iret dX10_tape_39 rfl (hR _ _ _ (Option.some.inj hf).symm)
        · replace hf := if_f hc6 hf
          refine ex_iload_n 3 (pc' := 41) dX10_tape_40 rfl rfl rfl ?_
          refine ex_bipush (v := 60) (pc' := 43) dX10_tape_41 bp_60 rfl ?_
          refine ex_icmple (tgt := 49) (pc' := 46) dX10_tape_43 (by decide) rfl (fun hc11 => ?_) (fun hc11 => ?_)
          · replace hf := if_t hc11 hf
            refine ex_bipush (v := (-2)) (pc' := 48) dX10_tape_46 bp_m2 rfl ?_
            exact ex_iret dX10_tape_48 rfl (hR _ _ _ (Option.some.inj hf).symm)
          · replace hf := if_f hc11 hf
            refine ex_iload_n 3 (pc' := 50) dX10_tape_49 rfl rfl rfl ?_
            refine ex_ifge (tgt := 56) (pc' := 53) dX10_tape_50 (by decide) rfl (fun hc12 => ?_) (fun hc12 => ?_)
            · replace hf := if_t hc12 hf
              refine ex_bipush (v := (-14)) (pc' := 55) dX10_tape_53 bp_m14 rfl ?_
              exact ex_iret dX10_tape_55 rfl (hR _ _ _ (Option.some.inj hf).symm)
            · replace hf := if_f hc12 hf
              refine ex_aload_n 0 (pc' := 57) dX10_tape_56 rfl rfl rfl ?_
              refine ex_getR (pc' := 60) dX10_tape_57 fl_X10_44 rfl (sh10_k hM) (sh10_F6 hM) rfl ?_
              refine ex_iload_n 1 (pc' := 61) dX10_tape_60 rfl rfl rfl ?_
              obtain ⟨hg13, hf⟩ := of_guard hf
              refine ex_aaldS (pc' := 62) dX10_tape_61 (sh10_T6 hM) (by decide) (by decide) (inb_in hg13) (sh10_E6 hM _ (inb_lt hg13)) rfl ?_
              refine ex_iload_n 2 (pc' := 63) dX10_tape_62 rfl rfl rfl ?_
              refine ex_iload_n 3 (pc' := 64) dX10_tape_63 rfl rfl rfl ?_
              obtain ⟨I14, L15, hq16, hf⟩ := of_bnd2 hf
              refine ex_callV_v (rm' := rmX7_become) (st := []) (pc' := 67) [.int v2, .int v3] dX10_tape_64 cl_X10_346 (k_X7_become G (sh10_O6 hM _ (inb_lt hg13)) hq16) rfl (sh7_k (sh10_O6 hM _ (inb_lt hg13))) ⟨_, _, rfl⟩ rfl rfl (ROOM_of rfl) (Nat.le_of_ble_eq_true rfl) rfl rfl ?_
              refine ex_iconst (v := 1) (pc' := 68) dX10_tape_67 ic_1 rfl ?_
              exact ex_iret dX10_tape_68 rfl (hR _ _ _ (Option.some.inj hf).symm)
set_option maxRecDepth 100000 in
set_option maxHeartbeats 4000000 in
theorem k_X10_tape (G : GX) {X : MX} (hM : shX10 X) {v1 : Int32} {v2 : Int32} {v3 : Int32}  {N : Nat} {I : MI} {L : ML} {z : Int32} {I' : MI} {L' : ML} (hf : f_X10_tape N v1 v2 v3 I L = some (z, I', L')) : Con G mX10_tape yX10_tape rmX10_tape (fun B => [.ref (B + 0), .int v1, .int v2, .int v3]) X I L (some (.int z)) X I' L' :=
  Con.of (by decide) rfl (fun h => by cases h) (fun B => Nat.le_of_ble_eq_true rfl) (fun G => kb_X10_tape hM  hf (fun _ _ _ he => by cases he; rfl))
theorem cl_X10_132 : CLV RX10 132 yX6_multiply mX6_multiply (some FieldType.boolean) 1 := ⟨⟨lwg_at 430 (by decide +kernel) rfl, lwg_at 431 (by decide +kernel) rfl, lwg_at 432 (by decide +kernel) rfl, lwg_at 52 (by decide +kernel) rfl⟩, lwg_at 433 (by decide +kernel) rfl, ⟨by decide +kernel, by decide +kernel, by decide +kernel⟩⟩
-- X10_times ('RookWords', 'times', '(I)I')
def rmX10_times : RM := ((3, 71, 0, 0), false, (some FieldType.int))
def f_X10_times (N : Nat) (v1 : Int32) (I : MI) (L : ML) : Option (Int32 × ML) := bnd1 (f_X10_isPiece v1) fun r1 => (if r1 = 0 then some ((-1), L) else if inb v1 6 then bnd2 (f_X6_multiply N 3 (10 + 4 * (Int32.toNatClampNeg v1)) I L) fun r5 L6 => (if r5 = 0 then some ((-6), L6) else bnd1 (f_X6_notZero N 3 L6) fun r9 => some (r9, L6)) else none)
set_option maxRecDepth 100000 in
set_option maxHeartbeats 4000000 in
theorem kb_X10_times {G : GX} {Q : State → Prop} {X : MX} (hM : shX10 X) {v1 : Int32}  {N : Nat} {I : MI} {L : ML} {out : Int32 × ML} (hf : f_X10_times N v1 I L = some out) (hR : ∀ (z : Int32) (L' : ML), out = (z, L') → Q = RetQ G (some (.int z)) X I L' (0, 0)) : Ex G mX10_times rmX10_times Q (0, 0) X I L 0 [(0, .ref (gB G + 0)), (1, .int v1)] [] := by
  unfold f_X10_times at hf
  refine ex_iload_n 1 (pc' := 1) dX10_times_0 rfl rfl rfl ?_
  obtain ⟨r1, hq2, hf⟩ := of_bnd1 hf
  refine ex_callS_i (rm' := rmX10_isPiece) (st := []) (pc' := 4) [.int v1] dX10_times_1 cl_X10_66 (k_X10_isPiece G hq2) rfl rfl rfl (ROOM_of rfl) (Nat.le_of_ble_eq_true rfl) rfl rfl ?_
  refine ex_ifne (tgt := 9) (pc' := 7) dX10_times_4 (by decide) rfl (fun hc3 => ?_) (fun hc3 => ?_)
  · replace hf := if_t hc3 hf
    refine ex_iconst (v := (-1)) (pc' := 8) dX10_times_7 ic_m1 rfl ?_
    exact ex_iret dX10_times_8 rfl (hR _ _ (Option.some.inj hf).symm)
  · replace hf := if_f hc3 hf
    refine ex_aload_n 0 (pc' := 10) dX10_times_9 rfl rfl rfl ?_
    refine ex_getR (pc' := 13) dX10_times_10 fl_X10_12 rfl (sh10_k hM) (sh10_F0 hM) rfl ?_
    refine ex_getR (pc' := 16) dX10_times_13 fl_X10_113 rfl (sh5_k (sh10_T0 hM)) (sh5_F1 (sh10_T0 hM)) rfl ?_
    refine ex_aload_n 0 (pc' := 17) dX10_times_16 rfl rfl rfl ?_
    refine ex_getR (pc' := 20) dX10_times_17 fl_X10_12 rfl (sh10_k hM) (sh10_F0 hM) rfl ?_
    refine ex_getR (pc' := 23) dX10_times_20 fl_X10_70 rfl (sh5_k (sh10_T0 hM)) (sh5_F0 (sh10_T0 hM)) rfl ?_
    refine ex_iload_n 1 (pc' := 24) dX10_times_23 rfl rfl rfl ?_
    obtain ⟨hg4, hf⟩ := of_guard hf
    refine ex_aaldS (pc' := 25) dX10_times_24 (sh5_T0 (sh10_T0 hM)) (by decide) (by decide) (inb_in hg4) (sh5_E0 (sh10_T0 hM) _ (inb_lt hg4)) rfl ?_
    obtain ⟨r5, L6, hq7, hf⟩ := of_bnd2 hf
    refine ex_callV_i (rm' := rmX6_multiply) (st := []) (pc' := 28) [.ref (gB G + (10 + 4 * (Int32.toNatClampNeg v1)))] dX10_times_25 cl_X10_132 (k_X6_multiply G (sh5_T1 (sh10_T0 hM)) (sh5_O0 (sh10_T0 hM) _ (inb_lt hg4)) hq7) rfl (sh6_k (sh5_T1 (sh10_T0 hM))) ⟨_, _, rfl⟩ rfl rfl (ROOM_of rfl) (Nat.le_of_ble_eq_true rfl) rfl rfl ?_
    refine ex_ifne (tgt := 34) (pc' := 31) dX10_times_28 (by decide) rfl (fun hc8 => ?_) (fun hc8 => ?_)
    · replace hf := if_t hc8 hf
      refine ex_bipush (v := (-6)) (pc' := 33) dX10_times_31 bp_m6 rfl ?_
      exact ex_iret dX10_times_33 rfl (hR _ _ (Option.some.inj hf).symm)
    · replace hf := if_f hc8 hf
      refine ex_aload_n 0 (pc' := 35) dX10_times_34 rfl rfl rfl ?_
      refine ex_getR (pc' := 38) dX10_times_35 fl_X10_12 rfl (sh10_k hM) (sh10_F0 hM) rfl ?_
      refine ex_getR (pc' := 41) dX10_times_38 fl_X10_113 rfl (sh5_k (sh10_T0 hM)) (sh5_F1 (sh10_T0 hM)) rfl ?_
      obtain ⟨r9, hq10, hf⟩ := of_bnd1 hf
      refine ex_callV_i (rm' := rmX6_notZero) (st := []) (pc' := 44) [] dX10_times_41 cl_X10_117 (k_X6_notZero G (sh5_T1 (sh10_T0 hM)) hq10) rfl (sh6_k (sh5_T1 (sh10_T0 hM))) ⟨_, _, rfl⟩ rfl rfl (ROOM_of rfl) (Nat.le_of_ble_eq_true rfl) rfl rfl ?_
      exact ex_iret dX10_times_44 rfl (hR _ _ (Option.some.inj hf).symm)
set_option maxRecDepth 100000 in
set_option maxHeartbeats 4000000 in
theorem k_X10_times (G : GX) {X : MX} (hM : shX10 X) {v1 : Int32}  {N : Nat} {I : MI} {L : ML} {z : Int32} {L' : ML} (hf : f_X10_times N v1 I L = some (z, L')) : Con G mX10_times yX10_times rmX10_times (fun B => [.ref (B + 0), .int v1]) X I L (some (.int z)) X I L' :=
  Con.of (by decide) rfl (fun h => by cases h) (fun B => Nat.le_of_ble_eq_true rfl) (fun G => kb_X10_times hM  hf (fun _ _ he => by cases he; rfl))
theorem cl_X10_336 : CLV RX10 336 yX5_allCells mX5_allCells (some FieldType.int) 0 := ⟨⟨lwg_at 889 (by decide +kernel) rfl, lwg_at 890 (by decide +kernel) rfl, lwg_at 891 (by decide +kernel) rfl, lwg_at 51 (by decide +kernel) rfl⟩, lwg_at 892 (by decide +kernel) rfl, ⟨by decide +kernel, by decide +kernel, by decide +kernel⟩⟩
theorem fl_X10_321 : FLD RX10 321 1 4 false := ⟨RX1, TX1, 5, rfl, inX1, by decide, lwg_at 182 (by decide +kernel) rfl, nmX1, tyX1_ok, rfl, rfl⟩
-- X10_told ('RookWords', 'told', '(I)I')
def rmX10_told : RM := ((3, 64, 0, 0), false, (some FieldType.int))
def f_X10_told (N : Nat) (v1 : Int32) (I : MI) (L : ML) : Option (Int32) := (if v1 = 0 then bnd1 (f_X5_allLetters N 1 I) fun r2 => some r2 else (if v1 = 1 then bnd1 (f_X5_allCells N 1 I) fun r5 => some r5 else (if v1 = 2 then some (I 67 4) else (if v1 = 3 then some (I 72 1) else (if v1 = 4 then some (I 76 1) else (if v1 = 5 then some (I 1 6) else (if v1 = 6 then bnd1 (f_X6_notZero N 3 L) fun r12 => some r12 else some (-2))))))))
set_option maxRecDepth 100000 in
set_option maxHeartbeats 4000000 in
theorem kb_X10_told {G : GX} {Q : State → Prop} {X : MX} (hM : shX10 X) {v1 : Int32}  {N : Nat} {I : MI} {L : ML} {out : Int32} (hf : f_X10_told N v1 I L = some out) (hR : ∀ (z : Int32), out = z → Q = RetQ G (some (.int z)) X I L (0, 0)) : Ex G mX10_told rmX10_told Q (0, 0) X I L 0 [(0, .ref (gB G + 0)), (1, .int v1)] [] := by
  unfold f_X10_told at hf
  refine ex_iload_n 1 (pc' := 1) dX10_told_0 rfl rfl rfl ?_
  by_cases hc1 : v1 = 0
  · replace hf := if_t hc1 hf
    refine ex_tableIn (off := 43) (tgt := 44) dX10_told_1 (by rw [hc1]; decide) (by rw [hc1]; decide) (by rw [hc1]; decide) (by decide) ?_
    refine ex_aload_n 0 (pc' := 45) dX10_told_44 rfl rfl rfl ?_
    refine ex_getR (pc' := 48) dX10_told_45 fl_X10_12 rfl (sh10_k hM) (sh10_F0 hM) rfl ?_
    obtain ⟨r2, hq3, hf⟩ := of_bnd1 hf
    refine ex_callV_i (rm' := rmX5_allLetters) (st := []) (pc' := 51) [] dX10_told_48 cl_X10_333 (k_X5_allLetters G (sh10_T0 hM) hq3) rfl (sh5_k (sh10_T0 hM)) ⟨_, _, rfl⟩ rfl rfl (ROOM_of rfl) (Nat.le_of_ble_eq_true rfl) rfl rfl ?_
    exact ex_iret dX10_told_51 rfl (hR _ (Option.some.inj hf).symm)
  replace hf := if_f hc1 hf
  by_cases hc4 : v1 = 1
  · replace hf := if_t hc4 hf
    refine ex_tableIn (off := 51) (tgt := 52) dX10_told_1 (by rw [hc4]; decide) (by rw [hc4]; decide) (by rw [hc4]; decide) (by decide) ?_
    refine ex_aload_n 0 (pc' := 53) dX10_told_52 rfl rfl rfl ?_
    refine ex_getR (pc' := 56) dX10_told_53 fl_X10_12 rfl (sh10_k hM) (sh10_F0 hM) rfl ?_
    obtain ⟨r5, hq6, hf⟩ := of_bnd1 hf
    refine ex_callV_i (rm' := rmX5_allCells) (st := []) (pc' := 59) [] dX10_told_56 cl_X10_336 (k_X5_allCells G (sh10_T0 hM) hq6) rfl (sh5_k (sh10_T0 hM)) ⟨_, _, rfl⟩ rfl rfl (ROOM_of rfl) (Nat.le_of_ble_eq_true rfl) rfl rfl ?_
    exact ex_iret dX10_told_59 rfl (hR _ (Option.some.inj hf).symm)
  replace hf := if_f hc4 hf
  by_cases hc7 : v1 = 2
  · replace hf := if_t hc7 hf
    refine ex_tableIn (off := 59) (tgt := 60) dX10_told_1 (by rw [hc7]; decide) (by rw [hc7]; decide) (by rw [hc7]; decide) (by decide) ?_
    refine ex_aload_n 0 (pc' := 61) dX10_told_60 rfl rfl rfl ?_
    refine ex_getR (pc' := 64) dX10_told_61 fl_X10_24 rfl (sh10_k hM) (sh10_F3 hM) rfl ?_
    refine ex_getI (pc' := 67) dX10_told_64 fl_X10_321 rfl (sh1_k (sh10_T3 hM)) rfl ?_
    exact ex_iret dX10_told_67 rfl (hR _ (Option.some.inj hf).symm)
  replace hf := if_f hc7 hf
  by_cases hc8 : v1 = 3
  · replace hf := if_t hc8 hf
    refine ex_tableIn (off := 67) (tgt := 68) dX10_told_1 (by rw [hc8]; decide) (by rw [hc8]; decide) (by rw [hc8]; decide) (by decide) ?_
    refine ex_aload_n 0 (pc' := 69) dX10_told_68 rfl rfl rfl ?_
    refine ex_getR (pc' := 72) dX10_told_69 fl_X10_31 rfl (sh10_k hM) (sh10_F4 hM) rfl ?_
    refine ex_getI (pc' := 75) dX10_told_72 fl_X10_302 rfl (sh8_k (sh10_T4 hM)) rfl ?_
    exact ex_iret dX10_told_75 rfl (hR _ (Option.some.inj hf).symm)
  replace hf := if_f hc8 hf
  by_cases hc9 : v1 = 4
  · replace hf := if_t hc9 hf
    refine ex_tableIn (off := 75) (tgt := 76) dX10_told_1 (by rw [hc9]; decide) (by rw [hc9]; decide) (by rw [hc9]; decide) (by decide) ?_
    refine ex_aload_n 0 (pc' := 77) dX10_told_76 rfl rfl rfl ?_
    refine ex_getR (pc' := 80) dX10_told_77 fl_X10_38 rfl (sh10_k hM) (sh10_F5 hM) rfl ?_
    refine ex_getI (pc' := 83) dX10_told_80 fl_X10_317 rfl (sh3_k (sh10_T5 hM)) rfl ?_
    exact ex_iret dX10_told_83 rfl (hR _ (Option.some.inj hf).symm)
  replace hf := if_f hc9 hf
  by_cases hc10 : v1 = 5
  · replace hf := if_t hc10 hf
    refine ex_tableIn (off := 83) (tgt := 84) dX10_told_1 (by rw [hc10]; decide) (by rw [hc10]; decide) (by rw [hc10]; decide) (by decide) ?_
    refine ex_aload_n 0 (pc' := 85) dX10_told_84 rfl rfl rfl ?_
    refine ex_getR (pc' := 88) dX10_told_85 fl_X10_12 rfl (sh10_k hM) (sh10_F0 hM) rfl ?_
    refine ex_getI (pc' := 91) dX10_told_88 fl_X10_252 rfl (sh5_k (sh10_T0 hM)) rfl ?_
    exact ex_iret dX10_told_91 rfl (hR _ (Option.some.inj hf).symm)
  replace hf := if_f hc10 hf
  by_cases hc11 : v1 = 6
  · replace hf := if_t hc11 hf
    refine ex_tableIn (off := 91) (tgt := 92) dX10_told_1 (by rw [hc11]; decide) (by rw [hc11]; decide) (by rw [hc11]; decide) (by decide) ?_
    refine ex_aload_n 0 (pc' := 93) dX10_told_92 rfl rfl rfl ?_
    refine ex_getR (pc' := 96) dX10_told_93 fl_X10_12 rfl (sh10_k hM) (sh10_F0 hM) rfl ?_
    refine ex_getR (pc' := 99) dX10_told_96 fl_X10_113 rfl (sh5_k (sh10_T0 hM)) (sh5_F1 (sh10_T0 hM)) rfl ?_
    obtain ⟨r12, hq13, hf⟩ := of_bnd1 hf
    refine ex_callV_i (rm' := rmX6_notZero) (st := []) (pc' := 102) [] dX10_told_99 cl_X10_117 (k_X6_notZero G (sh5_T1 (sh10_T0 hM)) hq13) rfl (sh6_k (sh5_T1 (sh10_T0 hM))) ⟨_, _, rfl⟩ rfl rfl (ROOM_of rfl) (Nat.le_of_ble_eq_true rfl) rfl rfl ?_
    exact ex_iret dX10_told_102 rfl (hR _ (Option.some.inj hf).symm)
  replace hf := if_f hc11 hf
  have hc1t := lv_neT (a := 0) hc1 (by decide)
  have hc4t := lv_neT (a := 1) hc4 (by decide)
  have hc7t := lv_neT (a := 2) hc7 (by decide)
  have hc8t := lv_neT (a := 3) hc8 (by decide)
  have hc9t := lv_neT (a := 4) hc9 (by decide)
  have hc10t := lv_neT (a := 5) hc10 (by decide)
  have hc11t := lv_neT (a := 6) hc11 (by decide)
  refine ex_tableOut (tgt := 103) dX10_told_1 (by omega) (by decide) ?_
  refine ex_bipush (v := (-2)) (pc' := 105) dX10_told_103 bp_m2 rfl ?_
  exact ex_iret dX10_told_105 rfl (hR _ (Option.some.inj hf).symm)
set_option maxRecDepth 100000 in
set_option maxHeartbeats 4000000 in
theorem k_X10_told (G : GX) {X : MX} (hM : shX10 X) {v1 : Int32}  {N : Nat} {I : MI} {L : ML} {z : Int32} (hf : f_X10_told N v1 I L = some z) : Con G mX10_told yX10_told rmX10_told (fun B => [.ref (B + 0), .int v1]) X I L (some (.int z)) X I L :=
  Con.of (by decide) rfl (fun h => by cases h) (fun B => Nat.le_of_ble_eq_true rfl) (fun G => kb_X10_told hM  hf (fun _ he => by cases he; rfl))
theorem cl_X10_94 : CLV RX10 94 yX9_turnAbout mX9_turnAbout none 0 := ⟨⟨lwg_at 350 (by decide +kernel) rfl, lwg_at 351 (by decide +kernel) rfl, lwg_at 352 (by decide +kernel) rfl, lwg_at 53 (by decide +kernel) rfl⟩, lwg_at 353 (by decide +kernel) rfl, ⟨by decide +kernel, by decide +kernel, by decide +kernel⟩⟩
-- X10_turn ('RookWords', 'turn', '(I)I')
def rmX10_turn : RM := ((1, 23, 0, 0), false, (some FieldType.int))
def f_X10_turn (N : Nat) (v1 : Int32) (I : MI) : Option (Int32 × MI) := bnd1 (f_X10_isPiece v1) fun r1 => (if r1 = 0 then some ((-1), I) else if inb v1 6 then bnd1 (f_X9_turnAbout N (10 + 4 * (Int32.toNatClampNeg v1)) I) fun I5 => some (I5 (10 + 4 * (Int32.toNatClampNeg v1)) 1, I5) else none)
set_option maxRecDepth 100000 in
set_option maxHeartbeats 4000000 in
theorem kb_X10_turn {G : GX} {Q : State → Prop} {X : MX} (hM : shX10 X) {v1 : Int32}  {N : Nat} {I : MI} {L : ML} {out : Int32 × MI} (hf : f_X10_turn N v1 I = some out) (hR : ∀ (z : Int32) (I' : MI), out = (z, I') → Q = RetQ G (some (.int z)) X I' L (0, 0)) : Ex G mX10_turn rmX10_turn Q (0, 0) X I L 0 [(0, .ref (gB G + 0)), (1, .int v1)] [] := by
  unfold f_X10_turn at hf
  refine ex_iload_n 1 (pc' := 1) dX10_turn_0 rfl rfl rfl ?_
  obtain ⟨r1, hq2, hf⟩ := of_bnd1 hf
  refine ex_callS_i (rm' := rmX10_isPiece) (st := []) (pc' := 4) [.int v1] dX10_turn_1 cl_X10_66 (k_X10_isPiece G hq2) rfl rfl rfl (ROOM_of rfl) (Nat.le_of_ble_eq_true rfl) rfl rfl ?_
  refine ex_ifne (tgt := 9) (pc' := 7) dX10_turn_4 (by decide) rfl (fun hc3 => ?_) (fun hc3 => ?_)
  · replace hf := if_t hc3 hf
    refine ex_iconst (v := (-1)) (pc' := 8) dX10_turn_7 ic_m1 rfl ?_
    exact ex_iret dX10_turn_8 rfl (hR _ _ (Option.some.inj hf).symm)
  · replace hf := if_f hc3 hf
    refine ex_aload_n 0 (pc' := 10) dX10_turn_9 rfl rfl rfl ?_
    refine ex_getR (pc' := 13) dX10_turn_10 fl_X10_12 rfl (sh10_k hM) (sh10_F0 hM) rfl ?_
    refine ex_getR (pc' := 16) dX10_turn_13 fl_X10_70 rfl (sh5_k (sh10_T0 hM)) (sh5_F0 (sh10_T0 hM)) rfl ?_
    refine ex_iload_n 1 (pc' := 17) dX10_turn_16 rfl rfl rfl ?_
    obtain ⟨hg4, hf⟩ := of_guard hf
    refine ex_aaldS (pc' := 18) dX10_turn_17 (sh5_T0 (sh10_T0 hM)) (by decide) (by decide) (inb_in hg4) (sh5_E0 (sh10_T0 hM) _ (inb_lt hg4)) rfl ?_
    refine ex_astore_n (lv' := [(2, .ref (gB G + (10 + 4 * (Int32.toNatClampNeg v1)))), (0, .ref (gB G + 0)), (1, .int v1)]) (pc' := 19) dX10_turn_18 rfl (Nat.le_of_ble_eq_true rfl) rfl rfl ?_
    refine ex_aload_n 0 (pc' := 20) dX10_turn_19 rfl rfl rfl ?_
    obtain ⟨I5, hq6, hf⟩ := of_bnd1 hf
    refine ex_callV_v (rm' := rmX9_turnAbout) (st := []) (pc' := 23) [] dX10_turn_20 cl_X10_94 (k_X9_turnAbout G (sh5_O0 (sh10_T0 hM) _ (inb_lt hg4)) hq6) rfl (sh9_k (sh5_O0 (sh10_T0 hM) _ (inb_lt hg4))) ⟨_, _, rfl⟩ rfl rfl (ROOM_of rfl) (Nat.le_of_ble_eq_true rfl) rfl rfl ?_
    refine ex_aload_n 0 (pc' := 24) dX10_turn_23 rfl rfl rfl ?_
    refine ex_getI (pc' := 27) dX10_turn_24 fl_X10_83 rfl (sh9_k (sh5_O0 (sh10_T0 hM) _ (inb_lt hg4))) rfl ?_
    exact ex_iret dX10_turn_27 rfl (hR _ _ (Option.some.inj hf).symm)
set_option maxRecDepth 100000 in
set_option maxHeartbeats 4000000 in
theorem k_X10_turn (G : GX) {X : MX} (hM : shX10 X) {v1 : Int32}  {N : Nat} {I : MI} {L : ML} {z : Int32} {I' : MI} (hf : f_X10_turn N v1 I = some (z, I')) : Con G mX10_turn yX10_turn rmX10_turn (fun B => [.ref (B + 0), .int v1]) X I L (some (.int z)) X I' L :=
  Con.of (by decide) rfl (fun h => by cases h) (fun B => Nat.le_of_ble_eq_true rfl) (fun G => kb_X10_turn hM  hf (fun _ _ he => by cases he; rfl))
