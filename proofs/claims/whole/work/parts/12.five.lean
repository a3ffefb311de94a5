theorem cl_X10_199 : CLV RX10 199 yX10_ladderOf mX10_ladderOf (some (FieldType.object "RookWords$Ladder")) 1 := ⟨⟨lwg_at 568 (by decide +kernel) rfl, lwg_at 570 (by decide +kernel) rfl, lwg_at 7 (by decide +kernel) rfl, lwg_at 50 (by decide +kernel) rfl⟩, lwg_at 571 (by decide +kernel) rfl, ⟨by decide +kernel, by decide +kernel, by decide +kernel⟩⟩
theorem cl_X10_203 : CLV RX10 203 yX0_heightDigits mX0_heightDigits (some FieldType.int) 0 := ⟨⟨lwg_at 632 (by decide +kernel) rfl, lwg_at 633 (by decide +kernel) rfl, lwg_at 634 (by decide +kernel) rfl, lwg_at 54 (by decide +kernel) rfl⟩, lwg_at 635 (by decide +kernel) rfl, ⟨by decide +kernel, by decide +kernel, by decide +kernel⟩⟩
theorem cl_X10_206 : CLV RX10 206 yX2_numberOf mX2_numberOf (some FieldType.int) 1 := ⟨⟨lwg_at 636 (by decide +kernel) rfl, lwg_at 637 (by decide +kernel) rfl, lwg_at 638 (by decide +kernel) rfl, lwg_at 65 (by decide +kernel) rfl⟩, lwg_at 639 (by decide +kernel) rfl, ⟨by decide +kernel, by decide +kernel, by decide +kernel⟩⟩
theorem cl_X10_214 : CLS RX10 214 yX10_greatestStanding mX10_greatestStanding (some FieldType.int) 1 := ⟨⟨lwg_at 650 (by decide +kernel) rfl, lwg_at 651 (by decide +kernel) rfl, lwg_at 50 (by decide +kernel) rfl⟩, lwg_at 652 (by decide +kernel) rfl, ⟨by decide +kernel, by decide +kernel, by decide +kernel⟩⟩
theorem fl_X10_225 : FLD RX10 225 2 0 true := ⟨RX2, TX2, 7, rfl, inX2, by decide, lwg_at 605 (by decide +kernel) rfl, nmX2, tyX2_ok, rfl, rfl⟩
theorem fl_X10_226 : FLD RX10 226 2 1 true := ⟨RX2, TX2, 7, rfl, inX2, by decide, lwg_at 607 (by decide +kernel) rfl, nmX2, tyX2_ok, rfl, rfl⟩
theorem cl_X10_229 : CLS RX10 229 yX10_digit mX10_digit (some FieldType.int) 2 := ⟨⟨lwg_at 681 (by decide +kernel) rfl, lwg_at 521 (by decide +kernel) rfl, lwg_at 50 (by decide +kernel) rfl⟩, lwg_at 522 (by decide +kernel) rfl, ⟨by decide +kernel, by decide +kernel, by decide +kernel⟩⟩
theorem cl_X10_232 : CLS RX10 232 yX10_keyOf mX10_keyOf (some FieldType.long) 1 := ⟨⟨lwg_at 686 (by decide +kernel) rfl, lwg_at 587 (by decide +kernel) rfl, lwg_at 50 (by decide +kernel) rfl⟩, lwg_at 588 (by decide +kernel) rfl, ⟨by decide +kernel, by decide +kernel, by decide +kernel⟩⟩
theorem cl_X10_236 : CLV RX10 236 yX2_partOf mX2_partOf (some FieldType.int) 1 := ⟨⟨lwg_at 687 (by decide +kernel) rfl, lwg_at 688 (by decide +kernel) rfl, lwg_at 689 (by decide +kernel) rfl, lwg_at 65 (by decide +kernel) rfl⟩, lwg_at 690 (by decide +kernel) rfl, ⟨by decide +kernel, by decide +kernel, by decide +kernel⟩⟩
theorem fl_X10_240 : FLD RX10 240 2 5 true := ⟨RX2, TX2, 7, rfl, inX2, by decide, lwg_at 614 (by decide +kernel) rfl, nmX2, tyX2_ok, rfl, rfl⟩
theorem fl_X10_243 : FLD RX10 243 2 6 true := ⟨RX2, TX2, 7, rfl, inX2, by decide, lwg_at 616 (by decide +kernel) rfl, nmX2, tyX2_ok, rfl, rfl⟩
theorem fl_X10_246 : FLD RX10 246 2 3 false := ⟨RX2, TX2, 7, rfl, inX2, by decide, lwg_at 611 (by decide +kernel) rfl, nmX2, tyX2_ok, rfl, rfl⟩
theorem cl_X10_249 : CLV RX10 249 yX2_greatestPart mX2_greatestPart (some FieldType.int) 0 := ⟨⟨lwg_at 695 (by decide +kernel) rfl, lwg_at 696 (by decide +kernel) rfl, lwg_at 697 (by decide +kernel) rfl, lwg_at 65 (by decide +kernel) rfl⟩, lwg_at 698 (by decide +kernel) rfl, ⟨by decide +kernel, by decide +kernel, by decide +kernel⟩⟩
theorem fl_X10_261 : FLD RX10 261 2 2 true := ⟨RX2, TX2, 7, rfl, inX2, by decide, lwg_at 609 (by decide +kernel) rfl, nmX2, tyX2_ok, rfl, rfl⟩
theorem cl_X10_264 : CLV RX10 264 yX5_agreesWithSeen mX5_agreesWithSeen (some FieldType.boolean) 1 := ⟨⟨lwg_at 707 (by decide +kernel) rfl, lwg_at 708 (by decide +kernel) rfl, lwg_at 709 (by decide +kernel) rfl, lwg_at 51 (by decide +kernel) rfl⟩, lwg_at 710 (by decide +kernel) rfl, ⟨by decide +kernel, by decide +kernel, by decide +kernel⟩⟩
-- X10_of
def rmX10_of : RM := ((4, 94, 8, 4700), false, (some FieldType.int))
def f_X10_of (N : Nat) (v1 : Int32) (v2 : Int32) (X : MX) (I : MI) (L : ML) : Option (Int32 × MX × MI × ML) := bnd1 (f_X10_isPiece v1) fun r1 => (if r1 = 0 then some ((-1), X, I, L) else (if v2 < 0 then some ((-1), X, I, L) else (if 4 < v2 then some ((-1), X, I, L) else if inb v1 6 then (if v2 = 0 then some (I (12 + 4 * (Int32.toNatClampNeg v1)) 0, X, I, L) else (if v2 = 1 then bnd1 (f_X0_cells N (12 + 4 * (Int32.toNatClampNeg v1)) I) fun r9 => some (r9, X, I, L) else (if v2 = 2 then bnd1 (f_X0_isSteps N (12 + 4 * (Int32.toNatClampNeg v1)) I) fun r12 => (if r12 = 0 then some (0, X, I, L) else some (1, X, I, L)) else (if v2 = 3 then bnd1 (f_X0_isSteps N (12 + 4 * (Int32.toNatClampNeg v1)) I) fun r16 => (if r16 = 0 then some ((-5), X, I, L) else bnd4 (f_X10_ladderOf N (I (12 + 4 * (Int32.toNatClampNeg v1)) 0) X I L) fun q19 X20 I21 L22 => bnd1 (f_X0_heightDigits N (12 + 4 * (Int32.toNatClampNeg v1)) I21) fun r26 => bnd1 (f_X2_numberOf N q19 (Int32.toNatClampNeg (tabI 3 (Int32.toNatClampNeg (I (12 + 4 * (Int32.toNatClampNeg v1)) 0)))) r26 I21) fun r28 => some (r28, X20, I21, L22)) else bnd1 (f_X4_countsOf N (12 + 4 * (Int32.toNatClampNeg v1)) I) fun I30 => bnd1 (f_X10_greatestStanding N 93 7 I30) fun r32 => some (r32, X, I30, L))))) else none)))
set_option maxRecDepth 100000 in
set_option maxHeartbeats 4000000 in
theorem kb_X10_of {G : GX} {Q : State → Prop} {X : MX} (hM : shX10 X) {v1 : Int32} {v2 : Int32}  {N : Nat} {I : MI} {L : ML} {out : Int32 × MX × MI × ML} (hf : f_X10_of N v1 v2 X I L = some out) (hR : ∀ (z : Int32) (X' : MX) (I' : MI) (L' : ML), out = (z, X', I', L') → Q = RetQ G (some (.int z)) X' I' L' (8, 4700)) : Ex G mX10_of rmX10_of Q (0, 0) X I L 0 [(0, .ref (gB G + 0)), (1, .int v1), (2, .int v2)] [] := by
  unfold f_X10_of at hf
  refine ex_iload_n 1 (pc' := 1) dX10_of_0 rfl rfl rfl ?_
  obtain ⟨r1, hq2, hf⟩ := of_bnd1 hf
  refine ex_callS_i (rm' := rmX10_isPiece) (st := []) (pc' := 4) [.int v1] dX10_of_1 cl_X10_66 (k_X10_isPiece G hq2) rfl rfl rfl (ROOM_of rfl) (Nat.le_of_ble_eq_true rfl) rfl rfl ?_
  refine ex_ifeq (tgt := 16) (pc' := 7) dX10_of_4 (by decide) rfl (fun hc3 => ?_) (fun hc3 => ?_)
  · replace hf := if_t hc3 hf
    refine ex_iconst (v := (-1)) (pc' := 17) dX10_of_16 ic_m1 rfl ?_
    refine ex_widen (kn' := (8, 4700)) (Nat.le_of_ble_eq_true rfl) (Nat.le_of_ble_eq_true rfl) ?_
    exact ex_iret dX10_of_17 rfl (hR _ _ _ _ (Option.some.inj hf).symm)
  · replace hf := if_f hc3 hf
    refine ex_iload_n 2 (pc' := 8) dX10_of_7 rfl rfl rfl ?_
    refine ex_iflt (tgt := 16) (pc' := 11) dX10_of_8 (by decide) rfl (fun hc4 => ?_) (fun hc4 => ?_)
    · replace hf := if_t hc4 hf
      refine ex_iconst (v := (-1)) (pc' := 17) dX10_of_16 ic_m1 rfl ?_
      refine ex_widen (kn' := (8, 4700)) (Nat.le_of_ble_eq_true rfl) (Nat.le_of_ble_eq_true rfl) ?_
      exact ex_iret dX10_of_17 rfl (hR _ _ _ _ (Option.some.inj hf).symm)
    · replace hf := if_f hc4 hf
      refine ex_iload_n 2 (pc' := 12) dX10_of_11 rfl rfl rfl ?_
      refine ex_iconst (v := 4) (pc' := 13) dX10_of_12 ic_4 rfl ?_
      refine ex_icmple (tgt := 18) (pc' := 16) dX10_of_13 (by decide) rfl (fun hc5 => ?_) (fun hc5 => ?_)
      · replace hf := if_t hc5 hf
        refine ex_iconst (v := (-1)) (pc' := 17) dX10_of_16 ic_m1 rfl ?_
        refine ex_widen (kn' := (8, 4700)) (Nat.le_of_ble_eq_true rfl) (Nat.le_of_ble_eq_true rfl) ?_
        exact ex_iret dX10_of_17 rfl (hR _ _ _ _ (Option.some.inj hf).symm)
      · replace hf := if_f hc5 hf
        refine ex_aload_n 0 (pc' := 19) dX10_of_18 rfl rfl rfl ?_
        refine ex_getR (pc' := 22) dX10_of_19 fl_X10_12 rfl (sh10_k hM) (sh10_F0 hM) rfl ?_
        refine ex_getR (pc' := 25) dX10_of_22 fl_X10_143 rfl (sh5_k (sh10_T0 hM)) (sh5_F2 (sh10_T0 hM)) rfl ?_
        refine ex_iload_n 1 (pc' := 26) dX10_of_25 rfl rfl rfl ?_
        obtain ⟨hg6, hf⟩ := of_guard hf
        refine ex_aaldS (pc' := 27) dX10_of_26 (sh5_T2 (sh10_T0 hM)) (by decide) (by decide) (inb_in hg6) (sh5_E2 (sh10_T0 hM) _ (inb_lt hg6)) rfl ?_
        refine ex_astore_n (lv' := [(3, .ref (gB G + (12 + 4 * (Int32.toNatClampNeg v1)))), (0, .ref (gB G + 0)), (1, .int v1), (2, .int v2)]) (pc' := 28) dX10_of_27 rfl (Nat.le_of_ble_eq_true rfl) rfl rfl ?_
        refine ex_iload_n 3 (pc' := 29) dX10_of_28 rfl rfl rfl ?_
        by_cases hc7 : v2 = 0
        · replace hf := if_t hc7 hf
          refine ex_tableIn (off := 31) (tgt := 60) dX10_of_29 (by rw [hc7]; decide) (by rw [hc7]; decide) (by rw [hc7]; decide) (by decide) ?_
          refine ex_aload_n 0 (pc' := 61) dX10_of_60 rfl rfl rfl ?_
          refine ex_getI (pc' := 64) dX10_of_61 fl_X10_147 rfl (sh0_k (sh5_O2 (sh10_T0 hM) _ (inb_lt hg6))) rfl ?_
          refine ex_widen (kn' := (8, 4700)) (Nat.le_of_ble_eq_true rfl) (Nat.le_of_ble_eq_true rfl) ?_
          exact ex_iret dX10_of_64 rfl (hR _ _ _ _ (Option.some.inj hf).symm)
        replace hf := if_f hc7 hf
        by_cases hc8 : v2 = 1
        · replace hf := if_t hc8 hf
          refine ex_tableIn (off := 36) (tgt := 65) dX10_of_29 (by rw [hc8]; decide) (by rw [hc8]; decide) (by rw [hc8]; decide) (by decide) ?_
          refine ex_aload_n 0 (pc' := 66) dX10_of_65 rfl rfl rfl ?_
          obtain ⟨r9, hq10, hf⟩ := of_bnd1 hf
          refine ex_callV_i (rm' := rmX0_cells) (st := []) (pc' := 69) [] dX10_of_66 cl_X10_170 (k_X0_cells G (sh5_O2 (sh10_T0 hM) _ (inb_lt hg6)) hq10) rfl (sh0_k (sh5_O2 (sh10_T0 hM) _ (inb_lt hg6))) ⟨_, _, rfl⟩ rfl rfl (ROOM_of rfl) (Nat.le_of_ble_eq_true rfl) rfl rfl ?_
          refine ex_widen (kn' := (8, 4700)) (Nat.le_of_ble_eq_true rfl) (Nat.le_of_ble_eq_true rfl) ?_
          exact ex_iret dX10_of_69 rfl (hR _ _ _ _ (Option.some.inj hf).symm)
        replace hf := if_f hc8 hf
        by_cases hc11 : v2 = 2
        · replace hf := if_t hc11 hf
          refine ex_tableIn (off := 41) (tgt := 70) dX10_of_29 (by rw [hc11]; decide) (by rw [hc11]; decide) (by rw [hc11]; decide) (by decide) ?_
          refine ex_aload_n 0 (pc' := 71) dX10_of_70 rfl rfl rfl ?_
          obtain ⟨r12, hq13, hf⟩ := of_bnd1 hf
          refine ex_callV_i (rm' := rmX0_isSteps) (st := []) (pc' := 74) [] dX10_of_71 cl_X10_195 (k_X0_isSteps G (sh5_O2 (sh10_T0 hM) _ (inb_lt hg6)) hq13) rfl (sh0_k (sh5_O2 (sh10_T0 hM) _ (inb_lt hg6))) ⟨_, _, rfl⟩ rfl rfl (ROOM_of rfl) (Nat.le_of_ble_eq_true rfl) rfl rfl ?_
          refine ex_ifeq (tgt := 81) (pc' := 77) dX10_of_74 (by decide) rfl (fun hc14 => ?_) (fun hc14 => ?_)
          · replace hf := if_t hc14 hf
            refine ex_iconst (v := 0) (pc' := 82) dX10_of_81 ic_0 rfl ?_
            refine ex_widen (kn' := (8, 4700)) (Nat.le_of_ble_eq_true rfl) (Nat.le_of_ble_eq_true rfl) ?_
            exact ex_iret dX10_of_82 rfl (hR _ _ _ _ (Option.some.inj hf).symm)
          · replace hf := if_f hc14 hf
            refine ex_iconst (v := 1) (pc' := 78) dX10_of_77 ic_1 rfl ?_
            refine ex_goto (tgt := 82) dX10_of_78 (by decide) ?_
            refine ex_widen (kn' := (8, 4700)) (Nat.le_of_ble_eq_true rfl) (Nat.le_of_ble_eq_true rfl) ?_
            exact ex_iret dX10_of_82 rfl (hR _ _ _ _ (Option.some.inj hf).symm)
        replace hf := if_f hc11 hf
        by_cases hc15 : v2 = 3
        · replace hf := if_t hc15 hf
          refine ex_tableIn (off := 54) (tgt := 83) dX10_of_29 (by rw [hc15]; decide) (by rw [hc15]; decide) (by rw [hc15]; decide) (by decide) ?_
          refine ex_aload_n 0 (pc' := 84) dX10_of_83 rfl rfl rfl ?_
          obtain ⟨r16, hq17, hf⟩ := of_bnd1 hf
          refine ex_callV_i (rm' := rmX0_isSteps) (st := []) (pc' := 87) [] dX10_of_84 cl_X10_195 (k_X0_isSteps G (sh5_O2 (sh10_T0 hM) _ (inb_lt hg6)) hq17) rfl (sh0_k (sh5_O2 (sh10_T0 hM) _ (inb_lt hg6))) ⟨_, _, rfl⟩ rfl rfl (ROOM_of rfl) (Nat.le_of_ble_eq_true rfl) rfl rfl ?_
          refine ex_ifeq (tgt := 108) (pc' := 90) dX10_of_87 (by decide) rfl (fun hc18 => ?_) (fun hc18 => ?_)
          · replace hf := if_t hc18 hf
            refine ex_bipush (v := (-5)) (pc' := 110) dX10_of_108 bp_m5 rfl ?_
            refine ex_widen (kn' := (8, 4700)) (Nat.le_of_ble_eq_true rfl) (Nat.le_of_ble_eq_true rfl) ?_
            exact ex_iret dX10_of_110 rfl (hR _ _ _ _ (Option.some.inj hf).symm)
          · replace hf := if_f hc18 hf
            refine ex_aload_n 1 (pc' := 91) dX10_of_90 rfl rfl rfl ?_
            refine ex_aload_n 0 (pc' := 92) dX10_of_91 rfl rfl rfl ?_
            refine ex_getI (pc' := 95) dX10_of_92 fl_X10_147 rfl (sh0_k (sh5_O2 (sh10_T0 hM) _ (inb_lt hg6))) rfl ?_
            obtain ⟨q19, X20, I21, L22, hq23, hf⟩ := of_bnd4 hf
            obtain ⟨hM24, hl25⟩ := ladderOf_shape hM hq23
            refine ex_callV (rm' := rmX10_ladderOf) (st := []) (pc' := 98) [.int (I (12 + 4 * (Int32.toNatClampNeg v1)) 0)] dX10_of_95 cl_X10_199 (k_X10_ladderOf G hM hq23) rfl (sh10_k hM) ⟨_, _, rfl⟩ rfl rfl (ROOM_of rfl) (Nat.le_of_ble_eq_true rfl) rfl ?_
            show Ex G mX10_of rmX10_of Q (8, 4700) X20 I21 L22 98 [(3, .ref (gB G + (12 + 4 * (Int32.toNatClampNeg v1)))), (0, .ref (gB G + 0)), (1, .int v1), (2, .int v2)] (.ref (gB G + q19) :: [])
            refine ex_aload_n 0 (pc' := 99) dX10_of_98 rfl rfl rfl ?_
            obtain ⟨r26, hq27, hf⟩ := of_bnd1 hf
            refine ex_callV_i (rm' := rmX0_heightDigits) (st := [.ref (gB G + q19)]) (pc' := 102) [] dX10_of_99 cl_X10_203 (k_X0_heightDigits G (sh5_O2 (sh10_T0 hM24) _ (inb_lt hg6)) hq27) rfl (sh0_k (sh5_O2 (sh10_T0 hM24) _ (inb_lt hg6))) ⟨_, _, rfl⟩ rfl rfl (ROOM_of rfl) (Nat.le_of_ble_eq_true rfl) rfl rfl ?_
            obtain ⟨r28, hq29, hf⟩ := of_bnd1 hf
            refine ex_callV_i (rm' := rmX2_numberOf) (st := []) (pc' := 105) [.int r26] dX10_of_102 cl_X10_206 (k_X2_numberOf G hl25 hq29) rfl (sh2_k hl25) ⟨_, _, rfl⟩ rfl rfl (ROOM_of rfl) (Nat.le_of_ble_eq_true rfl) rfl rfl ?_
            refine ex_goto (tgt := 110) dX10_of_105 (by decide) ?_
            exact ex_iret dX10_of_110 rfl (hR _ _ _ _ (Option.some.inj hf).symm)
        replace hf := if_f hc15 hf
        have hc7t := lv_neT (a := 0) hc7 (by decide)
        have hc8t := lv_neT (a := 1) hc8 (by decide)
        have hc11t := lv_neT (a := 2) hc11 (by decide)
        have hc15t := lv_neT (a := 3) hc15 (by decide)
        refine ex_tableOut (tgt := 111) dX10_of_29 (by omega) (by decide) ?_
        refine ex_aload_n 1 (pc' := 112) dX10_of_111 rfl rfl rfl ?_
        refine ex_getR (pc' := 115) dX10_of_112 fl_X10_52 rfl (sh10_k hM) (sh10_F7 hM) rfl ?_
        refine ex_aload_n 0 (pc' := 116) dX10_of_115 rfl rfl rfl ?_
        obtain ⟨I30, hq31, hf⟩ := of_bnd1 hf
        refine ex_callV_r (rm' := rmX4_countsOf) (st := []) (pc' := 119) [.ref (gB G + (12 + 4 * (Int32.toNatClampNeg v1)))] dX10_of_116 cl_X10_210 (k_X4_countsOf G hM (sh5_O2 (sh10_T0 hM) _ (inb_lt hg6)) hq31) rfl (sh4_k (sh10_T7 hM)) ⟨_, _, rfl⟩ rfl rfl (ROOM_of rfl) (Nat.le_of_ble_eq_true rfl) rfl rfl ?_
        obtain ⟨r32, hq33, hf⟩ := of_bnd1 hf
        refine ex_callS_i (rm' := rmX10_greatestStanding) (st := []) (pc' := 122) [.ref (gB G + 93)] dX10_of_119 cl_X10_214 (k_X10_greatestStanding G (sh4_T1 (sh10_T7 hM)) hq33) rfl rfl rfl (ROOM_of rfl) (Nat.le_of_ble_eq_true rfl) rfl rfl ?_
        refine ex_widen (kn' := (8, 4700)) (Nat.le_of_ble_eq_true rfl) (Nat.le_of_ble_eq_true rfl) ?_
        exact ex_iret dX10_of_122 rfl (hR _ _ _ _ (Option.some.inj hf).symm)
set_option maxRecDepth 100000 in
set_option maxHeartbeats 4000000 in
theorem k_X10_of (G : GX) {X : MX} (hM : shX10 X) {v1 : Int32} {v2 : Int32}  {N : Nat} {I : MI} {L : ML} {z : Int32} {X' : MX} {I' : MI} {L' : ML} (hf : f_X10_of N v1 v2 X I L = some (z, X', I', L')) : Con G mX10_of yX10_of rmX10_of (fun B => [.ref (B + 0), .int v1, .int v2]) X I L (some (.int z)) X' I' L' :=
  Con.of (by decide) rfl (fun h => by cases h) (fun B => Nat.le_of_ble_eq_true rfl) (fun G => kb_X10_of hM  hf (fun _ _ _ _ he => by cases he; rfl))
-- X10_all
def rmX10_all : RM := ((4, 94, 8, 4700), false, (some FieldType.int))
def f_X10_all (N : Nat) (v1 : Int32) (v2 : Int32) (v3 : Int32) (X : MX) (I : MI) (L : ML) : Option (Int32 × MX × MI × ML) := bnd1 (f_X10_isSide v1) fun r1 => (if r1 = 0 then some ((-2), X, I, L) else (if v3 < (-1) then some ((-1), X, I, L) else (if v3 < v1 then bnd4 (f_X10_ladderOf N v1 X I L) fun q6 X7 I8 L9 => (if v3 = (-1) then some (I8 q6 0, X7, I8, L9) else (if v2 < 0 then some ((-5), X7, I8, L9) else (if v2 < (I8 q6 0) then if inb v2 (Int32.toNatClampNeg (tabI 3 (Int32.toNatClampNeg v1))) then bnd1 (f_X10_digit N (I8 (q6 + 1) (Int32.toNatClampNeg v2)) ((v1 - 1) - v3)) fun r17 => some (r17, X7, I8, L9) else none else some ((-5), X7, I8, L9)))) else some ((-1), X, I, L))))
set_option maxRecDepth 100000 in
set_option maxHeartbeats 4000000 in
theorem kb_X10_all {G : GX} {Q : State → Prop} {X : MX} (hM : shX10 X) {v1 : Int32} {v2 : Int32} {v3 : Int32}  {N : Nat} {I : MI} {L : ML} {out : Int32 × MX × MI × ML} (hf : f_X10_all N v1 v2 v3 X I L = some out) (hR : ∀ (z : Int32) (X' : MX) (I' : MI) (L' : ML), out = (z, X', I', L') → Q = RetQ G (some (.int z)) X' I' L' (8, 4700)) : Ex G mX10_all rmX10_all Q (0, 0) X I L 0 [(0, .ref (gB G + 0)), (1, .int v1), (2, .int v2), (3, .int v3)] [] := by
  unfold f_X10_all at hf
  refine ex_iload_n 1 (pc' := 1) dX10_all_0 rfl rfl rfl ?_
  obtain ⟨r1, hq2, hf⟩ := of_bnd1 hf
  refine ex_callS_i (rm' := rmX10_isSide) (st := []) (pc' := 4) [.int v1] dX10_all_1 cl_X10_140 (k_X10_isSide G hq2) rfl rfl rfl (ROOM_of rfl) (Nat.le_of_ble_eq_true rfl) rfl rfl ?_
  refine ex_ifne (tgt := 10) (pc' := 7) dX10_all_4 (by decide) rfl (fun hc3 => ?_) (fun hc3 => ?_)
  · replace hf := if_t hc3 hf
    refine ex_bipush (v := (-2)) (pc' := 9) dX10_all_7 bp_m2 rfl ?_
    refine ex_widen (kn' := (8, 4700)) (Nat.le_of_ble_eq_true rfl) (Nat.le_of_ble_eq_true rfl) ?_
    exact ex_iret dX10_all_9 rfl (hR _ _ _ _ (Option.some.inj hf).symm)
  · replace hf := if_f hc3 hf
    refine ex_iload_n 3 (pc' := 11) dX10_all_10 rfl rfl rfl ?_
    refine ex_iconst (v := (-1)) (pc' := 12) dX10_all_11 ic_m1 rfl ?_
    refine ex_icmplt (tgt := 20) (pc' := 15) dX10_all_12 (by decide) rfl (fun hc4 => ?_) (fun hc4 => ?_)
    · replace hf := if_t hc4 hf
      refine ex_iconst (v := (-1)) (pc' := 21) dX10_all_20 ic_m1 rfl ?_
      refine ex_widen (kn' := (8, 4700)) (Nat.le_of_ble_eq_true rfl) (Nat.le_of_ble_eq_true rfl) ?_
      exact ex_iret dX10_all_21 rfl (hR _ _ _ _ (Option.some.inj hf).symm)
    · replace hf := if_f hc4 hf
      refine ex_iload_n 3 (pc' := 16) dX10_all_15 rfl rfl rfl ?_
      refine ex_iload_n 1 (pc' := 17) dX10_all_16 rfl rfl rfl ?_
      refine ex_icmplt (tgt := 22) (pc' := 20) dX10_all_17 (by decide) rfl (fun hc5 => ?_) (fun hc5 => ?_)
      · replace hf := if_t hc5 hf
        refine ex_aload_n 0 (pc' := 23) dX10_all_22 rfl rfl rfl ?_
        refine ex_iload_n 1 (pc' := 24) dX10_all_23 rfl rfl rfl ?_
        obtain ⟨q6, X7, I8, L9, hq10, hf⟩ := of_bnd4 hf
        obtain ⟨hM11, hl12⟩ := ladderOf_shape hM hq10
        refine ex_callV (rm' := rmX10_ladderOf) (st := []) (pc' := 27) [.int v1] dX10_all_24 cl_X10_199 (k_X10_ladderOf G hM hq10) rfl (sh10_k hM) ⟨_, _, rfl⟩ rfl rfl (ROOM_of rfl) (Nat.le_of_ble_eq_true rfl) rfl ?_
        show Ex G mX10_all rmX10_all Q (8, 4700) X7 I8 L9 27 [(0, .ref (gB G + 0)), (1, .int v1), (2, .int v2), (3, .int v3)] (.ref (gB G + q6) :: [])
        refine ex_astore (lv' := [(4, .ref (gB G + q6)), (0, .ref (gB G + 0)), (1, .int v1), (2, .int v2), (3, .int v3)]) (pc' := 29) dX10_all_27 (Nat.le_of_ble_eq_true rfl) rfl rfl ?_
        refine ex_iload_n 4 (pc' := 30) dX10_all_29 rfl rfl rfl ?_
        refine ex_iconst (v := (-1)) (pc' := 31) dX10_all_30 ic_m1 rfl ?_
        refine ex_icmpne (tgt := 40) (pc' := 34) dX10_all_31 (by decide) rfl (fun hc13 => ?_) (fun hc13 => ?_)
        · replace hf := if_t hc13 hf
          refine ex_aload 0 (pc' := 36) dX10_all_34 rfl rfl ?_
          refine ex_getI (pc' := 39) dX10_all_36 fl_X10_225 rfl (sh2_k hl12) rfl ?_
          exact ex_iret dX10_all_39 rfl (hR _ _ _ _ (Option.some.inj hf).symm)
        · replace hf := if_f hc13 hf
          refine ex_iload_n 3 (pc' := 41) dX10_all_40 rfl rfl rfl ?_
          refine ex_iflt (tgt := 53) (pc' := 44) dX10_all_41 (by decide) rfl (fun hc14 => ?_) (fun hc14 => ?_)
          · replace hf := if_t hc14 hf
            refine ex_bipush (v := (-5)) (pc' := 55) dX10_all_53 bp_m5 rfl ?_
            exact ex_iret dX10_all_55 rfl (hR _ _ _ _ (Option.some.inj hf).symm)
          · replace hf := if_f hc14 hf
            refine ex_iload_n 3 (pc' := 45) dX10_all_44 rfl rfl rfl ?_
            refine ex_aload 0 (pc' := 47) dX10_all_45 rfl rfl ?_
            refine ex_getI (pc' := 50) dX10_all_47 fl_X10_225 rfl (sh2_k hl12) rfl ?_
            refine ex_icmplt (tgt := 56) (pc' := 53) dX10_all_50 (by decide) rfl (fun hc15 => ?_) (fun hc15 => ?_)
            · replace hf := if_t hc15 hf
              refine ex_aload 0 (pc' := 58) dX10_all_56 rfl rfl ?_
              refine ex_getR (pc' := 61) dX10_all_58 fl_X10_226 rfl (sh2_k hl12) (sh2_F1 hl12) rfl ?_
              refine ex_iload_n 3 (pc' := 62) dX10_all_61 rfl rfl rfl ?_
              obtain ⟨hg16, hf⟩ := of_guard hf
              refine ex_iald (pc' := 63) dX10_all_62 (sh2_T1 hl12) (inb_in hg16) rfl ?_
              refine ex_iload_n 2 (pc' := 64) dX10_all_63 rfl rfl rfl ?_
              refine ex_iconst (v := 1) (pc' := 65) dX10_all_64 ic_1 rfl ?_
              refine ex_isub (pc' := 66) dX10_all_65 rfl ?_
              refine ex_iload_n 4 (pc' := 67) dX10_all_66 rfl rfl rfl ?_
              refine ex_isub (pc' := 68) dX10_all_67 rfl ?_
              obtain ⟨r17, hq18, hf⟩ := of_bnd1 hf
              refine ex_callS_i (rm' := rmX10_digit) (st := []) (pc' := 71) [.int (I8 (q6 + 1) (Int32.toNatClampNeg v2)), .int ((v1 - 1) - v3)] dX10_all_68 cl_X10_229 (k_X10_digit G hq18) rfl rfl rfl (ROOM_of rfl) (Nat.le_of_ble_eq_true rfl) rfl rfl ?_
              exact ex_iret dX10_all_71 rfl (hR _ _ _ _ (Option.some.inj hf).symm)
            · replace hf := if_f hc15 hf
              refine ex_bipush (v := (-5)) (pc' := 55) dX10_all_53 bp_m5 rfl ?_
              exact ex_iret dX10_all_55 rfl (hR _ _ _ _ (Option.some.inj hf).symm)
      · replace hf := if_f hc5 hf
        refine ex_iconst (v := (-1)) (pc' := 21) dX10_all_20 ic_m1 rfl ?_
        refine ex_widen (kn' := (8, 4700)) (Nat.le_of_ble_eq_true rfl) (Nat.le_of_ble_eq_true rfl) ?_
        exact ex_iret dX10_all_21 rfl (hR _ _ _ _ (Option.some.inj hf).symm)
set_option maxRecDepth 100000 in
set_option maxHeartbeats 4000000 in
theorem k_X10_all (G : GX) {X : MX} (hM : shX10 X) {v1 : Int32} {v2 : Int32} {v3 : Int32}  {N : Nat} {I : MI} {L : ML} {z : Int32} {X' : MX} {I' : MI} {L' : ML} (hf : f_X10_all N v1 v2 v3 X I L = some (z, X', I', L')) : Con G mX10_all yX10_all rmX10_all (fun B => [.ref (B + 0), .int v1, .int v2, .int v3]) X I L (some (.int z)) X' I' L' :=
  Con.of (by decide) rfl (fun h => by cases h) (fun B => Nat.le_of_ble_eq_true rfl) (fun G => kb_X10_all hM  hf (fun _ _ _ _ he => by cases he; rfl))
-- X10_like
def rmX10_like : RM := ((4, 94, 8, 4700), false, (some FieldType.int))
def f_X10_like (N : Nat) (v1 : Int32) (v2 : Int32) (X : MX) (I : MI) (L : ML) : Option (Int32 × MX × MI × ML) := bnd1 (f_X10_isPiece v1) fun r1 => (if r1 = 0 then some ((-1), X, I, L) else (if v2 < 0 then some ((-1), X, I, L) else (if 1 < v2 then some ((-1), X, I, L) else if inb v1 6 then bnd4 (f_X10_ladderOf N (I (12 + 4 * (Int32.toNatClampNeg v1)) 0) X I L) fun q7 X8 I9 L10 => bnd1 (f_X4_countsOf N (12 + 4 * (Int32.toNatClampNeg v1)) I9) fun I14 => bnd1 (f_X10_keyOf N 93 7 I14) fun r16 => bnd1 (f_X2_partOf N q7 (Int32.toNatClampNeg (tabI 3 (Int32.toNatClampNeg (I (12 + 4 * (Int32.toNatClampNeg v1)) 0)))) r16 I14 L10) fun r18 => (if r18 < 0 then (if v2 = 0 then some (0, X8, I14, L10) else some ((-5), X8, I14, L10)) else (if v2 = 0 then if inb r18 (Int32.toNatClampNeg (tabI 3 (Int32.toNatClampNeg (I (12 + 4 * (Int32.toNatClampNeg v1)) 0)))) then some (I14 (q7 + 4) (Int32.toNatClampNeg r18), X8, I14, L10) else none else if inb r18 (Int32.toNatClampNeg (tabI 3 (Int32.toNatClampNeg (I (12 + 4 * (Int32.toNatClampNeg v1)) 0)))) then some (I14 (q7 + 5) (Int32.toNatClampNeg r18), X8, I14, L10) else none)) else none)))
set_option maxRecDepth 100000 in
set_option maxHeartbeats 4000000 in
theorem kb_X10_like {G : GX} {Q : State → Prop} {X : MX} (hM : shX10 X) {v1 : Int32} {v2 : Int32}  {N : Nat} {I : MI} {L : ML} {out : Int32 × MX × MI × ML} (hf : f_X10_like N v1 v2 X I L = some out) (hR : ∀ (z : Int32) (X' : MX) (I' : MI) (L' : ML), out = (z, X', I', L') → Q = RetQ G (some (.int z)) X' I' L' (8, 4700)) : Ex G mX10_like rmX10_like Q (0, 0) X I L 0 [(0, .ref (gB G + 0)), (1, .int v1), (2, .int v2)] [] := by
  unfold f_X10_like at hf
  refine ex_iload_n 1 (pc' := 1) dX10_like_0 rfl rfl rfl ?_
  obtain ⟨r1, hq2, hf⟩ := of_bnd1 hf
  refine ex_callS_i (rm' := rmX10_isPiece) (st := []) (pc' := 4) [.int v1] dX10_like_1 cl_X10_66 (k_X10_isPiece G hq2) rfl rfl rfl (ROOM_of rfl) (Nat.le_of_ble_eq_true rfl) rfl rfl ?_
  refine ex_ifeq (tgt := 16) (pc' := 7) dX10_like_4 (by decide) rfl (fun hc3 => ?_) (fun hc3 => ?_)
  · replace hf := if_t hc3 hf
    refine ex_iconst (v := (-1)) (pc' := 17) dX10_like_16 ic_m1 rfl ?_
    refine ex_widen (kn' := (8, 4700)) (Nat.le_of_ble_eq_true rfl) (Nat.le_of_ble_eq_true rfl) ?_
    exact ex_iret dX10_like_17 rfl (hR _ _ _ _ (Option.some.inj hf).symm)
  · replace hf := if_f hc3 hf
    refine ex_iload_n 2 (pc' := 8) dX10_like_7 rfl rfl rfl ?_
    refine ex_iflt (tgt := 16) (pc' := 11) dX10_like_8 (by decide) rfl (fun hc4 => ?_) (fun hc4 => ?_)
    · replace hf := if_t hc4 hf
      refine ex_iconst (v := (-1)) (pc' := 17) dX10_like_16 ic_m1 rfl ?_
      refine ex_widen (kn' := (8, 4700)) (Nat.le_of_ble_eq_true rfl) (Nat.le_of_ble_eq_true rfl) ?_
      exact ex_iret dX10_like_17 rfl (hR _ _ _ _ (Option.some.inj hf).symm)
    · replace hf := if_f hc4 hf
      refine ex_iload_n 2 (pc' := 12) dX10_like_11 rfl rfl rfl ?_
      refine ex_iconst (v := 1) (pc' := 13) dX10_like_12 ic_1 rfl ?_
      refine ex_icmple (tgt := 18) (pc' := 16) dX10_like_13 (by decide) rfl (fun hc5 => ?_) (fun hc5 => ?_)
      · replace hf := if_t hc5 hf
        refine ex_iconst (v := (-1)) (pc' := 17) dX10_like_16 ic_m1 rfl ?_
        refine ex_widen (kn' := (8, 4700)) (Nat.le_of_ble_eq_true rfl) (Nat.le_of_ble_eq_true rfl) ?_
        exact ex_iret dX10_like_17 rfl (hR _ _ _ _ (Option.some.inj hf).symm)
      · replace hf := if_f hc5 hf
        refine ex_aload_n 0 (pc' := 19) dX10_like_18 rfl rfl rfl ?_
        refine ex_getR (pc' := 22) dX10_like_19 fl_X10_12 rfl (sh10_k hM) (sh10_F0 hM) rfl ?_
        refine ex_getR (pc' := 25) dX10_like_22 fl_X10_143 rfl (sh5_k (sh10_T0 hM)) (sh5_F2 (sh10_T0 hM)) rfl ?_
        refine ex_iload_n 1 (pc' := 26) dX10_like_25 rfl rfl rfl ?_
        obtain ⟨hg6, hf⟩ := of_guard hf
        refine ex_aaldS (pc' := 27) dX10_like_26 (sh5_T2 (sh10_T0 hM)) (by decide) (by decide) (inb_in hg6) (sh5_E2 (sh10_T0 hM) _ (inb_lt hg6)) rfl ?_
        refine ex_astore_n (lv' := [(3, .ref (gB G + (12 + 4 * (Int32.toNatClampNeg v1)))), (0, .ref (gB G + 0)), (1, .int v1), (2, .int v2)]) (pc' := 28) dX10_like_27 rfl (Nat.le_of_ble_eq_true rfl) rfl rfl ?_
        refine ex_aload_n 1 (pc' := 29) dX10_like_28 rfl rfl rfl ?_
        refine ex_aload_n 0 (pc' := 30) dX10_like_29 rfl rfl rfl ?_
        refine ex_getI (pc' := 33) dX10_like_30 fl_X10_147 rfl (sh0_k (sh5_O2 (sh10_T0 hM) _ (inb_lt hg6))) rfl ?_
        obtain ⟨q7, X8, I9, L10, hq11, hf⟩ := of_bnd4 hf
        obtain ⟨hM12, hl13⟩ := ladderOf_shape hM hq11
        refine ex_callV (rm' := rmX10_ladderOf) (st := []) (pc' := 36) [.int (I (12 + 4 * (Int32.toNatClampNeg v1)) 0)] dX10_like_33 cl_X10_199 (k_X10_ladderOf G hM hq11) rfl (sh10_k hM) ⟨_, _, rfl⟩ rfl rfl (ROOM_of rfl) (Nat.le_of_ble_eq_true rfl) rfl ?_
        show Ex G mX10_like rmX10_like Q (8, 4700) X8 I9 L10 36 [(3, .ref (gB G + (12 + 4 * (Int32.toNatClampNeg v1)))), (0, .ref (gB G + 0)), (1, .int v1), (2, .int v2)] (.ref (gB G + q7) :: [])
        refine ex_astore (lv' := [(4, .ref (gB G + q7)), (3, .ref (gB G + (12 + 4 * (Int32.toNatClampNeg v1)))), (0, .ref (gB G + 0)), (1, .int v1), (2, .int v2)]) (pc' := 38) dX10_like_36 (Nat.le_of_ble_eq_true rfl) rfl rfl ?_
        refine ex_aload 0 (pc' := 40) dX10_like_38 rfl rfl ?_
        refine ex_aload_n 2 (pc' := 41) dX10_like_40 rfl rfl rfl ?_
        refine ex_getR (pc' := 44) dX10_like_41 fl_X10_52 rfl (sh10_k hM12) (sh10_F7 hM12) rfl ?_
        refine ex_aload_n 1 (pc' := 45) dX10_like_44 rfl rfl rfl ?_
        obtain ⟨I14, hq15, hf⟩ := of_bnd1 hf
        refine ex_callV_r (rm' := rmX4_countsOf) (st := [.ref (gB G + q7)]) (pc' := 48) [.ref (gB G + (12 + 4 * (Int32.toNatClampNeg v1)))] dX10_like_45 cl_X10_210 (k_X4_countsOf G hM12 (sh5_O2 (sh10_T0 hM12) _ (inb_lt hg6)) hq15) rfl (sh4_k (sh10_T7 hM12)) ⟨_, _, rfl⟩ rfl rfl (ROOM_of rfl) (Nat.le_of_ble_eq_true rfl) rfl rfl ?_
        obtain ⟨r16, hq17, hf⟩ := of_bnd1 hf
        refine ex_callS_l (rm' := rmX10_keyOf) (st := [.ref (gB G + q7)]) (pc' := 51) [.ref (gB G + 93)] dX10_like_48 cl_X10_232 (k_X10_keyOf G (sh4_T1 (sh10_T7 hM12)) hq17) rfl rfl rfl (ROOM_of rfl) (Nat.le_of_ble_eq_true rfl) rfl rfl ?_
        obtain ⟨r18, hq19, hf⟩ := of_bnd1 hf
        refine ex_callV_i (rm' := rmX2_partOf) (st := []) (pc' := 54) [.long r16] dX10_like_51 cl_X10_236 (k_X2_partOf G hl13 hq19) rfl (sh2_k hl13) ⟨_, _, rfl⟩ rfl rfl (ROOM_of rfl) (Nat.le_of_ble_eq_true rfl) rfl rfl ?_
        refine ex_istore (lv' := [(5, .int r18), (4, .ref (gB G + q7)), (3, .ref (gB G + (12 + 4 * (Int32.toNatClampNeg v1)))), (0, .ref (gB G + 0)), (1, .int v1), (2, .int v2)]) (pc' := 56) dX10_like_54 (Nat.le_of_ble_eq_true rfl) rfl rfl ?_
        refine ex_iload 0 (pc' := 58) dX10_like_56 rfl rfl ?_
        refine ex_ifge (tgt := 72) (pc' := 61) dX10_like_58 (by decide) rfl (fun hc20 => ?_) (fun hc20 => ?_)
        · replace hf := if_t hc20 hf
          refine ex_iload_n 5 (pc' := 62) dX10_like_61 rfl rfl rfl ?_
          refine ex_ifne (tgt := 69) (pc' := 65) dX10_like_62 (by decide) rfl (fun hc21 => ?_) (fun hc21 => ?_)
          · replace hf := if_t hc21 hf
            refine ex_iconst (v := 0) (pc' := 66) dX10_like_65 ic_0 rfl ?_
            refine ex_goto (tgt := 71) dX10_like_66 (by decide) ?_
            exact ex_iret dX10_like_71 rfl (hR _ _ _ _ (Option.some.inj hf).symm)
          · replace hf := if_f hc21 hf
            refine ex_bipush (v := (-5)) (pc' := 71) dX10_like_69 bp_m5 rfl ?_
            exact ex_iret dX10_like_71 rfl (hR _ _ _ _ (Option.some.inj hf).symm)
        · replace hf := if_f hc20 hf
          refine ex_iload_n 5 (pc' := 73) dX10_like_72 rfl rfl rfl ?_
          refine ex_ifne (tgt := 87) (pc' := 76) dX10_like_73 (by decide) rfl (fun hc22 => ?_) (fun hc22 => ?_)
          · replace hf := if_t hc22 hf
            refine ex_aload 1 (pc' := 78) dX10_like_76 rfl rfl ?_
            refine ex_getR (pc' := 81) dX10_like_78 fl_X10_240 rfl (sh2_k hl13) (sh2_F5 hl13) rfl ?_
            refine ex_iload 0 (pc' := 83) dX10_like_81 rfl rfl ?_
            obtain ⟨hg23, hf⟩ := of_guard hf
            refine ex_iald (pc' := 84) dX10_like_83 (sh2_T5 hl13) (inb_in hg23) rfl ?_
            refine ex_goto (tgt := 95) dX10_like_84 (by decide) ?_
            exact ex_iret dX10_like_95 rfl (hR _ _ _ _ (Option.some.inj hf).symm)
          · replace hf := if_f hc22 hf
            refine ex_aload 1 (pc' := 89) dX10_like_87 rfl rfl ?_
            refine ex_getR (pc' := 92) dX10_like_89 fl_X10_243 rfl (sh2_k hl13) (sh2_F6 hl13) rfl ?_
            refine ex_iload 0 (pc' := 94) dX10_like_92 rfl rfl ?_
            obtain ⟨hg24, hf⟩ := of_guard hf
            refine ex_iald (pc' := 95) dX10_like_94 (sh2_T6 hl13) (inb_in hg24) rfl ?_
            exact ex_iret dX10_like_95 rfl (hR _ _ _ _ (Option.some.inj hf).symm)
set_option maxRecDepth 100000 in
set_option maxHeartbeats 4000000 in
theorem k_X10_like (G : GX) {X : MX} (hM : shX10 X) {v1 : Int32} {v2 : Int32}  {N : Nat} {I : MI} {L : ML} {z : Int32} {X' : MX} {I' : MI} {L' : ML} (hf : f_X10_like N v1 v2 X I L = some (z, X', I', L')) : Con G mX10_like yX10_like rmX10_like (fun B => [.ref (B + 0), .int v1, .int v2]) X I L (some (.int z)) X' I' L' :=
  Con.of (by decide) rfl (fun h => by cases h) (fun B => Nat.le_of_ble_eq_true rfl) (fun G => kb_X10_like hM  hf (fun _ _ _ _ he => by cases he; rfl))
-- X10_classes
def rmX10_classes : RM := ((4, 94, 8, 4700), false, (some FieldType.int))
def f_X10_classes (N : Nat) (v1 : Int32) (v2 : Int32) (v3 : Int32) (X : MX) (I : MI) (L : ML) : Option (Int32 × MX × MI × ML) := bnd1 (f_X10_isSide v1) fun r1 => (if r1 = 0 then some ((-2), X, I, L) else (if v2 < (-1) then some ((-1), X, I, L) else (if v3 < 0 then some ((-1), X, I, L) else (if 1 < v3 then some ((-1), X, I, L) else bnd4 (f_X10_ladderOf N v1 X I L) fun q7 X8 I9 L10 => (if v2 = (-1) then (if v3 = 0 then some (I9 q7 3, X8, I9, L10) else bnd1 (f_X2_greatestPart N q7 (Int32.toNatClampNeg (tabI 3 (Int32.toNatClampNeg v1))) I9) fun r16 => some (r16, X8, I9, L10)) else (if v2 < (I9 q7 3) then (if v3 = 0 then if inb v2 (Int32.toNatClampNeg (tabI 3 (Int32.toNatClampNeg v1))) then some (I9 (q7 + 4) (Int32.toNatClampNeg v2), X8, I9, L10) else none else if inb v2 (Int32.toNatClampNeg (tabI 3 (Int32.toNatClampNeg v1))) then some (I9 (q7 + 5) (Int32.toNatClampNeg v2), X8, I9, L10) else none) else some ((-5), X8, I9, L10)))))))
set_option maxRecDepth 100000 in
set_option maxHeartbeats 4000000 in
theorem kb_X10_classes {G : GX} {Q : State → Prop} {X : MX} (hM : shX10 X) {v1 : Int32} {v2 : Int32} {v3 : Int32}  {N : Nat} {I : MI} {L : ML} {out : Int32 × MX × MI × ML} (hf : f_X10_classes N v1 v2 v3 X I L = some out) (hR : ∀ (z : Int32) (X' : MX) (I' : MI) (L' : ML), out = (z, X', I', L') → Q = RetQ G (some (.int z)) X' I' L' (8, 4700)) : Ex G mX10_classes rmX10_classes Q (0, 0) X I L 0 [(0, .ref (gB G + 0)), (1, .int v1), (2, .int v2), (3, .int v3)] [] := by
  unfold f_X10_classes at hf
  refine ex_iload_n 1 (pc' := 1) dX10_classes_0 rfl rfl rfl ?_
  obtain ⟨r1, hq2, hf⟩ := of_bnd1 hf
  refine ex_callS_i (rm' := rmX10_isSide) (st := []) (pc' := 4) [.int v1] dX10_classes_1 cl_X10_140 (k_X10_isSide G hq2) rfl rfl rfl (ROOM_of rfl) (Nat.le_of_ble_eq_true rfl) rfl rfl ?_
  refine ex_ifne (tgt := 10) (pc' := 7) dX10_classes_4 (by decide) rfl (fun hc3 => ?_) (fun hc3 => ?_)
  · replace hf := if_t hc3 hf
    refine ex_bipush (v := (-2)) (pc' := 9) dX10_classes_7 bp_m2 rfl ?_
    refine ex_widen (kn' := (8, 4700)) (Nat.le_of_ble_eq_true rfl) (Nat.le_of_ble_eq_true rfl) ?_
    exact ex_iret dX10_classes_9 rfl (hR _ _ _ _ (Option.some.inj hf).symm)
  · replace hf := if_f hc3 hf
    refine ex_iload_n 2 (pc' := 11) dX10_classes_10 rfl rfl rfl ?_
    refine ex_iconst (v := (-1)) (pc' := 12) dX10_classes_11 ic_m1 rfl ?_
    refine ex_icmplt (tgt := 24) (pc' := 15) dX10_classes_12 (by decide) rfl (fun hc4 => ?_) (fun hc4 => ?_)
    · replace hf := if_t hc4 hf
      refine ex_iconst (v := (-1)) (pc' := 25) dX10_classes_24 ic_m1 rfl ?_
      refine ex_widen (kn' := (8, 4700)) (Nat.le_of_ble_eq_true rfl) (Nat.le_of_ble_eq_true rfl) ?_
      exact ex_iret dX10_classes_25 rfl (hR _ _ _ _ (Option.some.inj hf).symm)
    · replace hf := if_f hc4 hf
      refine ex_iload_n 3 (pc' := 16) dX10_classes_15 rfl rfl rfl ?_
      refine ex_iflt (tgt := 24) (pc' := 19) dX10_classes_16 (by decide) rfl (fun hc5 => ?_) (fun hc5 => ?_)
      · replace hf := if_t hc5 hf
        refine ex_iconst (v := (-1)) (pc' := 25) dX10_classes_24 ic_m1 rfl ?_
        refine ex_widen (kn' := (8, 4700)) (Nat.le_of_ble_eq_true rfl) (Nat.le_of_ble_eq_true rfl) ?_
        exact ex_iret dX10_classes_25 rfl (hR _ _ _ _ (Option.some.inj hf).symm)
      · replace hf := if_f hc5 hf
        refine ex_iload_n 3 (pc' := 20) dX10_classes_19 rfl rfl rfl ?_
        refine ex_iconst (v := 1) (pc' := 21) dX10_classes_20 ic_1 rfl ?_
        refine ex_icmple (tgt := 26) (pc' := 24) dX10_classes_21 (by decide) rfl (fun hc6 => ?_) (fun hc6 => ?_)
        · replace hf := if_t hc6 hf
          refine ex_iconst (v := (-1)) (pc' := 25) dX10_classes_24 ic_m1 rfl ?_
          refine ex_widen (kn' := (8, 4700)) (Nat.le_of_ble_eq_true rfl) (Nat.le_of_ble_eq_true rfl) ?_
          exact ex_iret dX10_classes_25 rfl (hR _ _ _ _ (Option.some.inj hf).symm)
        · replace hf := if_f hc6 hf
          refine ex_aload_n 0 (pc' := 27) dX10_classes_26 rfl rfl rfl ?_
          refine ex_iload_n 1 (pc' := 28) dX10_classes_27 rfl rfl rfl ?_
          obtain ⟨q7, X8, I9, L10, hq11, hf⟩ := of_bnd4 hf
          obtain ⟨hM12, hl13⟩ := ladderOf_shape hM hq11
          refine ex_callV (rm' := rmX10_ladderOf) (st := []) (pc' := 31) [.int v1] dX10_classes_28 cl_X10_199 (k_X10_ladderOf G hM hq11) rfl (sh10_k hM) ⟨_, _, rfl⟩ rfl rfl (ROOM_of rfl) (Nat.le_of_ble_eq_true rfl) rfl ?_
          show Ex G mX10_classes rmX10_classes Q (8, 4700) X8 I9 L10 31 [(0, .ref (gB G + 0)), (1, .int v1), (2, .int v2), (3, .int v3)] (.ref (gB G + q7) :: [])
          refine ex_astore (lv' := [(4, .ref (gB G + q7)), (0, .ref (gB G + 0)), (1, .int v1), (2, .int v2), (3, .int v3)]) (pc' := 33) dX10_classes_31 (Nat.le_of_ble_eq_true rfl) rfl rfl ?_
          refine ex_iload_n 3 (pc' := 34) dX10_classes_33 rfl rfl rfl ?_
          refine ex_iconst (v := (-1)) (pc' := 35) dX10_classes_34 ic_m1 rfl ?_
          refine ex_icmpne (tgt := 56) (pc' := 38) dX10_classes_35 (by decide) rfl (fun hc14 => ?_) (fun hc14 => ?_)
          · replace hf := if_t hc14 hf
            refine ex_iload_n 4 (pc' := 39) dX10_classes_38 rfl rfl rfl ?_
            refine ex_ifne (tgt := 50) (pc' := 42) dX10_classes_39 (by decide) rfl (fun hc15 => ?_) (fun hc15 => ?_)
            · replace hf := if_t hc15 hf
              refine ex_aload 0 (pc' := 44) dX10_classes_42 rfl rfl ?_
              refine ex_getI (pc' := 47) dX10_classes_44 fl_X10_246 rfl (sh2_k hl13) rfl ?_
              refine ex_goto (tgt := 55) dX10_classes_47 (by decide) ?_
              exact ex_iret dX10_classes_55 rfl (hR _ _ _ _ (Option.some.inj hf).symm)
            · replace hf := if_f hc15 hf
              refine ex_aload 0 (pc' := 52) dX10_classes_50 rfl rfl ?_
              obtain ⟨r16, hq17, hf⟩ := of_bnd1 hf
              refine ex_callV_i (rm' := rmX2_greatestPart) (st := []) (pc' := 55) [] dX10_classes_52 cl_X10_249 (k_X2_greatestPart G hl13 hq17) rfl (sh2_k hl13) ⟨_, _, rfl⟩ rfl rfl (ROOM_of rfl) (Nat.le_of_ble_eq_true rfl) rfl rfl ?_
              exact ex_iret dX10_classes_55 rfl (hR _ _ _ _ (Option.some.inj hf).symm)
          · replace hf := if_f hc14 hf
            refine ex_iload_n 3 (pc' := 57) dX10_classes_56 rfl rfl rfl ?_
            refine ex_aload 0 (pc' := 59) dX10_classes_57 rfl rfl ?_
            refine ex_getI (pc' := 62) dX10_classes_59 fl_X10_246 rfl (sh2_k hl13) rfl ?_
            refine ex_icmplt (tgt := 68) (pc' := 65) dX10_classes_62 (by decide) rfl (fun hc18 => ?_) (fun hc18 => ?_)
            · replace hf := if_t hc18 hf
              refine ex_iload_n 4 (pc' := 69) dX10_classes_68 rfl rfl rfl ?_
              refine ex_ifne (tgt := 82) (pc' := 72) dX10_classes_69 (by decide) rfl (fun hc19 => ?_) (fun hc19 => ?_)
              · replace hf := if_t hc19 hf
                refine ex_aload 0 (pc' := 74) dX10_classes_72 rfl rfl ?_
                refine ex_getR (pc' := 77) dX10_classes_74 fl_X10_240 rfl (sh2_k hl13) (sh2_F5 hl13) rfl ?_
                refine ex_iload_n 3 (pc' := 78) dX10_classes_77 rfl rfl rfl ?_
                obtain ⟨hg20, hf⟩ := of_guard hf
                refine ex_iald (pc' := 79) dX10_classes_78 (sh2_T5 hl13) (inb_in hg20) rfl ?_
                refine ex_goto (tgt := 89) dX10_classes_79 (by decide) ?_
                exact ex_iret dX10_classes_89 rfl (hR _ _ _ _ (Option.some.inj hf).symm)
              · replace hf := if_f hc19 hf
                refine ex_aload 0 (pc' := 84) dX10_classes_82 rfl rfl ?_
                refine ex_getR (pc' := 87) dX10_classes_84 fl_X10_243 rfl (sh2_k hl13) (sh2_F6 hl13) rfl ?_
                refine ex_iload_n 3 (pc' := 88) dX10_classes_87 rfl rfl rfl ?_
                obtain ⟨hg21, hf⟩ := of_guard hf
                refine ex_iald (pc' := 89) dX10_classes_88 (sh2_T6 hl13) (inb_in hg21) rfl ?_
                exact ex_iret dX10_classes_89 rfl (hR _ _ _ _ (Option.some.inj hf).symm)
            · replace hf := if_f hc18 hf
              refine ex_bipush (v := (-5)) (pc' := 67) dX10_classes_65 bp_m5 rfl ?_
              exact ex_iret dX10_classes_67 rfl (hR _ _ _ _ (Option.some.inj hf).symm)
set_option maxRecDepth 100000 in
set_option maxHeartbeats 4000000 in
theorem k_X10_classes (G : GX) {X : MX} (hM : shX10 X) {v1 : Int32} {v2 : Int32} {v3 : Int32}  {N : Nat} {I : MI} {L : ML} {z : Int32} {X' : MX} {I' : MI} {L' : ML} (hf : f_X10_classes N v1 v2 v3 X I L = some (z, X', I', L')) : Con G mX10_classes yX10_classes rmX10_classes (fun B => [.ref (B + 0), .int v1, .int v2, .int v3]) X I L (some (.int z)) X' I' L' :=
  Con.of (by decide) rfl (fun h => by cases h) (fun B => Nat.le_of_ble_eq_true rfl) (fun G => kb_X10_classes hM  hf (fun _ _ _ _ he => by cases he; rfl))
-- X10_fits
def rmX10_fits : RM := ((4, 94, 8, 4700), false, (some FieldType.int))
def f_X10_fits_b42 (N : Nat) (v2 : Int32) (a3 : Nat) (n3 : Nat) (v4 : Int32) (v5 : Int32) (v6 : Int32) (I : MI) (L : ML) : Option ((Int32 × Int32 × Int32) ⊕ (Int32 × Int32)) := (if v6 < 0 then some (.inr (v4, v5)) else if inb v6 n3 then bnd1 (f_X5_agreesWithSeen N 1 (L (a3 + 2) (Int32.toNatClampNeg v6)) I) fun r15 => (if r15 = 0 then some (.inl (v4, v5, v6 + (-1))) else some (.inl (v4 + 1, v6, v6 + (-1)))) else none)
set_option maxRecDepth 100000 in
set_option maxHeartbeats 4000000 in
theorem k_X10_fits_b42 {G : GX} {Q : State → Prop} {X : MX} (hM : shX10 X) {v2 : Int32} {a3 : Nat} {n3 : Nat} (h3 : shX2 X a3 n3) {v4 : Int32} {v5 : Int32} {v6 : Int32} {N : Nat} {I : MI} {L : ML} {out : (Int32 × Int32 × Int32) ⊕ (Int32 × Int32)} (hf : f_X10_fits_b42 N v2 a3 n3 v4 v5 v6 I L = some out) (hC : ∀ (v4' : Int32) (v5' : Int32) (v6' : Int32), out = .inl (v4', v5', v6') → Ex G mX10_fits rmX10_fits Q (8, 4700) X I L 42 [(0, .ref (gB G + 0)), (2, .int v2), (3, .ref (gB G + a3)), (4, .int v4'), (5, .int v5'), (6, .int v6')] []) (hX : ∀ (w4 : Int32) (w5 : Int32), out = .inr (w4, w5) → Ex G mX10_fits rmX10_fits Q (8, 4700) X I L 77 [(2, .int v2), (4, .int w4), (5, .int w5)] []) : Ex G mX10_fits rmX10_fits Q (8, 4700) X I L 42 [(0, .ref (gB G + 0)), (2, .int v2), (3, .ref (gB G + a3)), (4, .int v4), (5, .int v5), (6, .int v6)] [] := by
  unfold f_X10_fits_b42 at hf
  refine ex_iload 5 (pc' := 44) dX10_fits_42 rfl rfl ?_
  refine ex_iflt (tgt := 77) (pc' := 47) dX10_fits_44 (by decide) rfl (fun hc13 => ?_) (fun hc13 => ?_)
  · replace hf := if_t hc13 hf
    exact ex_sub [1, 3, 4] rfl (hX _ _ (Option.some.inj hf).symm)
  · replace hf := if_f hc13 hf
    refine ex_aload_n 0 (pc' := 48) dX10_fits_47 rfl rfl rfl ?_
    refine ex_getR (pc' := 51) dX10_fits_48 fl_X10_12 rfl (sh10_k hM) (sh10_F0 hM) rfl ?_
    refine ex_aload_n 2 (pc' := 52) dX10_fits_51 rfl rfl rfl ?_
    refine ex_getR (pc' := 55) dX10_fits_52 fl_X10_261 rfl (sh2_k h3) (sh2_F2 h3) rfl ?_
    refine ex_iload 5 (pc' := 57) dX10_fits_55 rfl rfl ?_
    obtain ⟨hg14, hf⟩ := of_guard hf
    refine ex_lald (pc' := 58) dX10_fits_57 (sh2_T2 h3) (inb_in hg14) rfl ?_
    obtain ⟨r15, hq16, hf⟩ := of_bnd1 hf
    refine ex_callV_i (rm' := rmX5_agreesWithSeen) (st := []) (pc' := 61) [.long (L (a3 + 2) (Int32.toNatClampNeg v6))] dX10_fits_58 cl_X10_264 (k_X5_agreesWithSeen G (sh10_T0 hM) hq16) rfl (sh5_k (sh10_T0 hM)) ⟨_, _, rfl⟩ rfl rfl (ROOM_of rfl) (Nat.le_of_ble_eq_true rfl) rfl rfl ?_
    refine ex_ifeq (tgt := 71) (pc' := 64) dX10_fits_61 (by decide) rfl (fun hc17 => ?_) (fun hc17 => ?_)
    · replace hf := if_t hc17 hf
      refine ex_iincc (lv' := [(6, .int (v6 + (-1))), (0, .ref (gB G + 0)), (2, .int v2), (3, .ref (gB G + a3)), (4, .int v4), (5, .int v5)]) 5 (pc' := 74) dX10_fits_71 rfl ic_m1 (Nat.le_of_ble_eq_true rfl) rfl rfl ?_
      refine ex_goto (tgt := 42) dX10_fits_74 (by decide) ?_
      exact ex_sub [1, 2, 3, 4, 5, 0] rfl (hC _ _ _ (Option.some.inj hf).symm)
    · replace hf := if_f hc17 hf
      refine ex_iincc (lv' := [(4, .int (v4 + 1)), (0, .ref (gB G + 0)), (2, .int v2), (3, .ref (gB G + a3)), (5, .int v5), (6, .int v6)]) 3 (pc' := 67) dX10_fits_64 rfl ic_1 (Nat.le_of_ble_eq_true rfl) rfl rfl ?_
      refine ex_iload 5 (pc' := 69) dX10_fits_67 rfl rfl ?_
      refine ex_istore (lv' := [(5, .int v6), (4, .int (v4 + 1)), (0, .ref (gB G + 0)), (2, .int v2), (3, .ref (gB G + a3)), (6, .int v6)]) (pc' := 71) dX10_fits_69 (Nat.le_of_ble_eq_true rfl) rfl rfl ?_
      refine ex_iincc (lv' := [(6, .int (v6 + (-1))), (5, .int v6), (4, .int (v4 + 1)), (0, .ref (gB G + 0)), (2, .int v2), (3, .ref (gB G + a3))]) 5 (pc' := 74) dX10_fits_71 rfl ic_m1 (Nat.le_of_ble_eq_true rfl) rfl rfl ?_
      refine ex_goto (tgt := 42) dX10_fits_74 (by decide) ?_
      exact ex_sub [3, 4, 5, 2, 1, 0] rfl (hC _ _ _ (Option.some.inj hf).symm)
def f_X10_fits_l42 (N : Nat) (v2 : Int32) (a3 : Nat) (n3 : Nat) (v4 : Int32) (v5 : Int32) (v6 : Int32) (I : MI) (L : ML) : Option (Int32 × Int32) := loopN (fun s => f_X10_fits_b42 N v2 a3 n3 s.1 s.2.1 s.2.2 I L) N (v4, v5, v6)
set_option maxRecDepth 100000 in
set_option maxHeartbeats 4000000 in
theorem k_X10_fits_l42 {G : GX} {Q : State → Prop} {X : MX} (hM : shX10 X) {v2 : Int32} {a3 : Nat} {n3 : Nat} (h3 : shX2 X a3 n3) {N0 : Nat} {I : MI} {L : ML} {out : (Int32 × Int32)} (hX : ∀ (w4 : Int32) (w5 : Int32), out = (w4, w5) → Ex G mX10_fits rmX10_fits Q (8, 4700) X I L 77 [(2, .int v2), (4, .int w4), (5, .int w5)] []) : ∀ (N : Nat) (v4 : Int32) (v5 : Int32) (v6 : Int32), loopN (fun s => f_X10_fits_b42 N0 v2 a3 n3 s.1 s.2.1 s.2.2 I L) N (v4, v5, v6) = some out → Ex G mX10_fits rmX10_fits Q (8, 4700) X I L 42 [(0, .ref (gB G + 0)), (2, .int v2), (3, .ref (gB G + a3)), (4, .int v4), (5, .int v5), (6, .int v6)] [] := by
  intro N
  induction N with
  | zero => intro v4 v5 v6 hf; exact absurd (loopN_zero hf) id
  | succ n ih =>
    intro v4 v5 v6 hf
    rcases loopN_succ hf with ⟨s, hb, hl⟩ | hb
    · obtain ⟨v4', v5', v6'⟩ := s
      refine k_X10_fits_b42 hM h3 hb (fun _ _ _ he => ?_) (fun _ _ he => by cases he)
      cases he
      exact ih v4' v5' v6' hl
    · exact k_X10_fits_b42 hM h3 hb (fun _ _ _ he => by cases he) (fun x0 x1 he => hX x0 x1 (Sum.inr.inj he))
def f_X10_fits (N : Nat) (v1 : Int32) (v2 : Int32) (X : MX) (I : MI) (L : ML) : Option (Int32 × MX × MI × ML) := bnd1 (f_X10_isSide v1) fun r1 => (if r1 = 0 then some ((-2), X, I, L) else (if v2 < 0 then some ((-1), X, I, L) else (if 1 < v2 then some ((-1), X, I, L) else bnd4 (f_X10_ladderOf N v1 X I L) fun q6 X7 I8 L9 => bnd2 (f_X10_fits_l42 N v2 q6 (Int32.toNatClampNeg (tabI 3 (Int32.toNatClampNeg v1))) 0 (-5) ((I8 q6 0) - 1) I8 L9) fun x18 x19 => (if v2 = 0 then some (x18, X7, I8, L9) else some (x19, X7, I8, L9)))))
set_option maxRecDepth 100000 in
set_option maxHeartbeats 4000000 in
theorem kb_X10_fits {G : GX} {Q : State → Prop} {X : MX} (hM : shX10 X) {v1 : Int32} {v2 : Int32}  {N : Nat} {I : MI} {L : ML} {out : Int32 × MX × MI × ML} (hf : f_X10_fits N v1 v2 X I L = some out) (hR : ∀ (z : Int32) (X' : MX) (I' : MI) (L' : ML), out = (z, X', I', L') → Q = RetQ G (some (.int z)) X' I' L' (8, 4700)) : Ex G mX10_fits rmX10_fits Q (0, 0) X I L 0 [(0, .ref (gB G + 0)), (1, .int v1), (2, .int v2)] [] := by
  unfold f_X10_fits at hf
  refine ex_iload_n 1 (pc' := 1) dX10_fits_0 rfl rfl rfl ?_
  obtain ⟨r1, hq2, hf⟩ := of_bnd1 hf
  refine ex_callS_i (rm' := rmX10_isSide) (st := []) (pc' := 4) [.int v1] dX10_fits_1 cl_X10_140 (k_X10_isSide G hq2) rfl rfl rfl (ROOM_of rfl) (Nat.le_of_ble_eq_true rfl) rfl rfl ?_
  refine ex_ifne (tgt := 10) (pc' := 7) dX10_fits_4 (by decide) rfl (fun hc3 => ?_) (fun hc3 => ?_)
  · replace hf := if_t hc3 hf
    refine ex_bipush (v := (-2)) (pc' := 9) dX10_fits_7 bp_m2 rfl ?_
    refine ex_widen (kn' := (8, 4700)) (Nat.le_of_ble_eq_true rfl) (Nat.le_of_ble_eq_true rfl) ?_
    exact ex_iret dX10_fits_9 rfl (hR _ _ _ _ (Option.some.inj hf).symm)
  · replace hf := if_f hc3 hf
    refine ex_iload_n 2 (pc' := 11) dX10_fits_10 rfl rfl rfl ?_
    refine ex_iflt (tgt := 19) (pc' := 14) dX10_fits_11 (by decide) rfl (fun hc4 => ?_) (fun hc4 => ?_)
    · replace hf := if_t hc4 hf
      refine ex_iconst (v := (-1)) (pc' := 20) dX10_fits_19 ic_m1 rfl ?_
      refine ex_widen (kn' := (8, 4700)) (Nat.le_of_ble_eq_true rfl) (Nat.le_of_ble_eq_true rfl) ?_
      exact ex_iret dX10_fits_20 rfl (hR _ _ _ _ (Option.some.inj hf).symm)
    · replace hf := if_f hc4 hf
      refine ex_iload_n 2 (pc' := 15) dX10_fits_14 rfl rfl rfl ?_
      refine ex_iconst (v := 1) (pc' := 16) dX10_fits_15 ic_1 rfl ?_
      refine ex_icmple (tgt := 21) (pc' := 19) dX10_fits_16 (by decide) rfl (fun hc5 => ?_) (fun hc5 => ?_)
      · replace hf := if_t hc5 hf
        refine ex_iconst (v := (-1)) (pc' := 20) dX10_fits_19 ic_m1 rfl ?_
        refine ex_widen (kn' := (8, 4700)) (Nat.le_of_ble_eq_true rfl) (Nat.le_of_ble_eq_true rfl) ?_
        exact ex_iret dX10_fits_20 rfl (hR _ _ _ _ (Option.some.inj hf).symm)
      · replace hf := if_f hc5 hf
        refine ex_aload_n 0 (pc' := 22) dX10_fits_21 rfl rfl rfl ?_
        refine ex_iload_n 1 (pc' := 23) dX10_fits_22 rfl rfl rfl ?_
        obtain ⟨q6, X7, I8, L9, hq10, hf⟩ := of_bnd4 hf
        obtain ⟨hM11, hl12⟩ := ladderOf_shape hM hq10
        refine ex_callV (rm' := rmX10_ladderOf) (st := []) (pc' := 26) [.int v1] dX10_fits_23 cl_X10_199 (k_X10_ladderOf G hM hq10) rfl (sh10_k hM) ⟨_, _, rfl⟩ rfl rfl (ROOM_of rfl) (Nat.le_of_ble_eq_true rfl) rfl ?_
        show Ex G mX10_fits rmX10_fits Q (8, 4700) X7 I8 L9 26 [(0, .ref (gB G + 0)), (1, .int v1), (2, .int v2)] (.ref (gB G + q6) :: [])
        refine ex_astore_n (lv' := [(3, .ref (gB G + q6)), (0, .ref (gB G + 0)), (1, .int v1), (2, .int v2)]) (pc' := 27) dX10_fits_26 rfl (Nat.le_of_ble_eq_true rfl) rfl rfl ?_
        refine ex_iconst (v := 0) (pc' := 28) dX10_fits_27 ic_0 rfl ?_
        refine ex_istore (lv' := [(4, .int 0), (3, .ref (gB G + q6)), (0, .ref (gB G + 0)), (1, .int v1), (2, .int v2)]) (pc' := 30) dX10_fits_28 (Nat.le_of_ble_eq_true rfl) rfl rfl ?_
        refine ex_bipush (v := (-5)) (pc' := 32) dX10_fits_30 bp_m5 rfl ?_
        refine ex_istore (lv' := [(5, .int (-5)), (4, .int 0), (3, .ref (gB G + q6)), (0, .ref (gB G + 0)), (1, .int v1), (2, .int v2)]) (pc' := 34) dX10_fits_32 (Nat.le_of_ble_eq_true rfl) rfl rfl ?_
        refine ex_aload_n 2 (pc' := 35) dX10_fits_34 rfl rfl rfl ?_
        refine ex_getI (pc' := 38) dX10_fits_35 fl_X10_225 rfl (sh2_k hl12) rfl ?_
        refine ex_iconst (v := 1) (pc' := 39) dX10_fits_38 ic_1 rfl ?_
        refine ex_isub (pc' := 40) dX10_fits_39 rfl ?_
        refine ex_istore (lv' := [(6, .int ((I8 q6 0) - 1)), (5, .int (-5)), (4, .int 0), (3, .ref (gB G + q6)), (0, .ref (gB G + 0)), (1, .int v1), (2, .int v2)]) (pc' := 42) dX10_fits_40 (Nat.le_of_ble_eq_true rfl) rfl rfl ?_
        refine ex_sub (lv' := [(0, .ref (gB G + 0)), (2, .int v2), (3, .ref (gB G + q6)), (4, .int 0), (5, .int (-5)), (6, .int ((I8 q6 0) - 1))]) [4, 6, 3, 2, 1, 0] rfl ?_
        obtain ⟨x18, x19, hq20, hf⟩ := of_bnd2 hf
        refine k_X10_fits_l42 hM11 hl12 (fun x18' x19' he => ?_) _ _ _ _ hq20
        cases he
        refine ex_iload_n 0 (pc' := 78) dX10_fits_77 rfl rfl rfl ?_
        refine ex_ifne (tgt := 86) (pc' := 81) dX10_fits_78 (by decide) rfl (fun hc21 => ?_) (fun hc21 => ?_)
        · replace hf := if_t hc21 hf
          refine ex_iload 1 (pc' := 83) dX10_fits_81 rfl rfl ?_
          refine ex_goto (tgt := 88) dX10_fits_83 (by decide) ?_
          exact ex_iret dX10_fits_88 rfl (hR _ _ _ _ (Option.some.inj hf).symm)
        · replace hf := if_f hc21 hf
          refine ex_iload 2 (pc' := 88) dX10_fits_86 rfl rfl ?_
          exact ex_iret dX10_fits_88 rfl (hR _ _ _ _ (Option.some.inj hf).symm)
set_option maxRecDepth 100000 in
set_option maxHeartbeats 4000000 in
theorem k_X10_fits (G : GX) {X : MX} (hM : shX10 X) {v1 : Int32} {v2 : Int32}  {N : Nat} {I : MI} {L : ML} {z : Int32} {X' : MX} {I' : MI} {L' : ML} (hf : f_X10_fits N v1 v2 X I L = some (z, X', I', L')) : Con G mX10_fits yX10_fits rmX10_fits (fun B => [.ref (B + 0), .int v1, .int v2]) X I L (some (.int z)) X' I' L' :=
  Con.of (by decide) rfl (fun h => by cases h) (fun B => Nat.le_of_ble_eq_true rfl) (fun G => kb_X10_fits hM  hf (fun _ _ _ _ he => by cases he; rfl))
