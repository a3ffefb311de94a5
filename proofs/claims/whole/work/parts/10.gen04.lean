theorem cl_X10_186 : CLV RX10 186 yX0_becomeTurned mX0_becomeTurned none 0 := ⟨⟨lwg_at 535 (by decide +kernel) rfl, lwg_at 536 (by decide +kernel) rfl, lwg_at 537 (by decide +kernel) rfl, lwg_at 54 (by decide +kernel) rfl⟩, lwg_at 538 (by decide +kernel) rfl, ⟨by decide +kernel, by decide +kernel, by decide +kernel⟩⟩
-- X10_turned ('RookWords', 'turned', '(I)I')
def rmX10_turned : RM := ((2, 44, 0, 0), false, (some FieldType.int))
def f_X10_turned (N : Nat) (v1 : Int32) (I : MI) : Option (Int32 × MI) := bnd1 (f_X10_isPiece v1) fun r1 => (if r1 = 0 then some ((-1), I) else if inb v1 6 then bnd1 (f_X0_becomeTurned N (12 + 4 * (Int32.toNatClampNeg v1)) I) fun I5 => bnd1 (f_X1_forget I5) fun I7 => bnd1 (f_X0_cells N (12 + 4 * (Int32.toNatClampNeg v1)) I7) fun r9 => some (r9, I7) else none)
set_option maxRecDepth 100000 in
set_option maxHeartbeats 4000000 in
theorem kb_X10_turned {G : GX} {Q : State → Prop} {X : MX} (hM : shX10 X) {v1 : Int32}  {N : Nat} {I : MI} {L : ML} {out : Int32 × MI} (hf : f_X10_turned N v1 I = some out) (hR : ∀ (z : Int32) (I' : MI), out = (z, I') → Q = RetQ G (some (.int z)) X I' L (0, 0)) : Ex G mX10_turned rmX10_turned Q (0, 0) X I L 0 [(0, .ref (gB G + 0)), (1, .int v1)] [] := by
  unfold f_X10_turned at hf
  refine ex_iload_n 1 (pc' := 1) dX10_turned_0 rfl rfl rfl ?_
  obtain ⟨r1, hq2, hf⟩ := of_bnd1 hf
  refine ex_callS_i (rm' := rmX10_isPiece) (st := []) (pc' := 4) [.int v1] dX10_turned_1 cl_X10_66 (k_X10_isPiece G hq2) rfl rfl rfl (ROOM_of rfl) (Nat.le_of_ble_eq_true rfl) rfl rfl ?_
  refine ex_ifne (tgt := 9) (pc' := 7) dX10_turned_4 (by decide) rfl (fun hc3 => ?_) (fun hc3 => ?_)
  · replace hf := if_t hc3 hf
    refine ex_iconst (v := (-1)) (pc' := 8) dX10_turned_7 ic_m1 rfl ?_
    exact ex_iret dX10_turned_8 rfl (hR _ _ (Option.some.inj hf).symm)
  · replace hf := if_f hc3 hf
    refine ex_aload_n 0 (pc' := 10) dX10_turned_9 rfl rfl rfl ?_
    refine ex_getR (pc' := 13) dX10_turned_10 fl_X10_12 rfl (sh10_k hM) (sh10_F0 hM) rfl ?_
    refine ex_getR (pc' := 16) dX10_turned_13 fl_X10_143 rfl (sh5_k (sh10_T0 hM)) (sh5_F2 (sh10_T0 hM)) rfl ?_
    refine ex_iload_n 1 (pc' := 17) dX10_turned_16 rfl rfl rfl ?_
    obtain ⟨hg4, hf⟩ := of_guard hf
    refine ex_aaldS (pc' := 18) dX10_turned_17 (sh5_T2 (sh10_T0 hM)) (by decide) (by decide) (inb_in hg4) (sh5_E2 (sh10_T0 hM) _ (inb_lt hg4)) rfl ?_
    refine ex_astore_n (lv' := [(2, .ref (gB G + (12 + 4 * (Int32.toNatClampNeg v1)))), (0, .ref (gB G + 0)), (1, .int v1)]) (pc' := 19) dX10_turned_18 rfl (Nat.le_of_ble_eq_true rfl) rfl rfl ?_
    refine ex_aload_n 0 (pc' := 20) dX10_turned_19 rfl rfl rfl ?_
    obtain ⟨I5, hq6, hf⟩ := of_bnd1 hf
    refine ex_callV_v (rm' := rmX0_becomeTurned) (st := []) (pc' := 23) [] dX10_turned_20 cl_X10_186 (k_X0_becomeTurned G (sh5_O2 (sh10_T0 hM) _ (inb_lt hg4)) hq6) rfl (sh0_k (sh5_O2 (sh10_T0 hM) _ (inb_lt hg4))) ⟨_, _, rfl⟩ rfl rfl (ROOM_of rfl) (Nat.le_of_ble_eq_true rfl) rfl rfl ?_
    refine ex_aload_n 1 (pc' := 24) dX10_turned_23 rfl rfl rfl ?_
    refine ex_getR (pc' := 27) dX10_turned_24 fl_X10_24 rfl (sh10_k hM) (sh10_F3 hM) rfl ?_
    obtain ⟨I7, hq8, hf⟩ := of_bnd1 hf
    refine ex_callV_v (rm' := rmX1_forget) (st := []) (pc' := 30) [] dX10_turned_27 cl_X10_156 (k_X1_forget G hM hq8) rfl (sh1_k (sh10_T3 hM)) ⟨_, _, rfl⟩ rfl rfl (ROOM_of rfl) (Nat.le_of_ble_eq_true rfl) rfl rfl ?_
    refine ex_aload_n 0 (pc' := 31) dX10_turned_30 rfl rfl rfl ?_
    obtain ⟨r9, hq10, hf⟩ := of_bnd1 hf
    refine ex_callV_i (rm' := rmX0_cells) (st := []) (pc' := 34) [] dX10_turned_31 cl_X10_170 (k_X0_cells G (sh5_O2 (sh10_T0 hM) _ (inb_lt hg4)) hq10) rfl (sh0_k (sh5_O2 (sh10_T0 hM) _ (inb_lt hg4))) ⟨_, _, rfl⟩ rfl rfl (ROOM_of rfl) (Nat.le_of_ble_eq_true rfl) rfl rfl ?_
    exact ex_iret dX10_turned_34 rfl (hR _ _ (Option.some.inj hf).symm)
set_option maxRecDepth 100000 in
set_option maxHeartbeats 4000000 in
theorem k_X10_turned (G : GX) {X : MX} (hM : shX10 X) {v1 : Int32}  {N : Nat} {I : MI} {L : ML} {z : Int32} {I' : MI} (hf : f_X10_turned N v1 I = some (z, I')) : Con G mX10_turned yX10_turned rmX10_turned (fun B => [.ref (B + 0), .int v1]) X I L (some (.int z)) X I' L :=
  Con.of (by decide) rfl (fun h => by cases h) (fun B => Nat.le_of_ble_eq_true rfl) (fun G => kb_X10_turned hM  hf (fun _ _ he => by cases he; rfl))
theorem cl_X10_322 : CLV RX10 322 yX1_undoLatest mX1_undoLatest none 1 := ⟨⟨lwg_at 853 (by decide +kernel) rfl, lwg_at 854 (by decide +kernel) rfl, lwg_at 855 (by decide +kernel) rfl, lwg_at 56 (by decide +kernel) rfl⟩, lwg_at 856 (by decide +kernel) rfl, ⟨by decide +kernel, by decide +kernel, by decide +kernel⟩⟩
-- X10_undo ('RookWords', 'undo', '()I')
def rmX10_undo : RM := ((2, 43, 0, 0), false, (some FieldType.int))
def f_X10_undo  (I : MI) : Option (Int32 × MI) := (if (I 67 4) = 0 then some ((-3), I) else bnd1 (f_X1_undoLatest 1 I) fun I2 => some (I2 67 4, I2))
set_option maxRecDepth 100000 in
set_option maxHeartbeats 4000000 in
theorem kb_X10_undo {G : GX} {Q : State → Prop} {X : MX} (hM : shX10 X)   {I : MI} {L : ML} {out : Int32 × MI} (hf : f_X10_undo I = some out) (hR : ∀ (z : Int32) (I' : MI), out = (z, I') → Q = RetQ G (some (.int z)) X I' L (0, 0)) : Ex G mX10_undo rmX10_undo Q (0, 0) X I L 0 [(0, .ref (gB G + 0))] [] := by
  unfold f_X10_undo at hf
  refine ex_aload_n 0 (pc' := 1) dX10_undo_0 rfl rfl rfl ?_
  refine ex_getR (pc' := 4) dX10_undo_1 fl_X10_24 rfl (sh10_k hM) (sh10_F3 hM) rfl ?_
  refine ex_getI (pc' := 7) dX10_undo_4 fl_X10_321 rfl (sh1_k (sh10_T3 hM)) rfl ?_
  refine ex_ifne (tgt := 13) (pc' := 10) dX10_undo_7 (by decide) rfl (fun hc1 => ?_) (fun hc1 => ?_)
  · replace hf := if_t hc1 hf
    refine ex_bipush (v := (-3)) (pc' := 12) dX10_undo_10 bp_m3 rfl ?_
    exact ex_iret dX10_undo_12 rfl (hR _ _ (Option.some.inj hf).symm)
  · replace hf := if_f hc1 hf
    refine ex_aload_n 0 (pc' := 14) dX10_undo_13 rfl rfl rfl ?_
    refine ex_getR (pc' := 17) dX10_undo_14 fl_X10_24 rfl (sh10_k hM) (sh10_F3 hM) rfl ?_
    refine ex_aload_n 0 (pc' := 18) dX10_undo_17 rfl rfl rfl ?_
    refine ex_getR (pc' := 21) dX10_undo_18 fl_X10_12 rfl (sh10_k hM) (sh10_F0 hM) rfl ?_
    obtain ⟨I2, hq3, hf⟩ := of_bnd1 hf
    refine ex_callV_v (rm' := rmX1_undoLatest) (st := []) (pc' := 24) [.ref (gB G + 1)] dX10_undo_21 cl_X10_322 (k_X1_undoLatest G hM (sh10_T0 hM) hq3) rfl (sh1_k (sh10_T3 hM)) ⟨_, _, rfl⟩ rfl rfl (ROOM_of rfl) (Nat.le_of_ble_eq_true rfl) rfl rfl ?_
    refine ex_aload_n 0 (pc' := 25) dX10_undo_24 rfl rfl rfl ?_
    refine ex_getR (pc' := 28) dX10_undo_25 fl_X10_24 rfl (sh10_k hM) (sh10_F3 hM) rfl ?_
    refine ex_getI (pc' := 31) dX10_undo_28 fl_X10_321 rfl (sh1_k (sh10_T3 hM)) rfl ?_
    exact ex_iret dX10_undo_31 rfl (hR _ _ (Option.some.inj hf).symm)
set_option maxRecDepth 100000 in
set_option maxHeartbeats 4000000 in
theorem k_X10_undo (G : GX) {X : MX} (hM : shX10 X)   {I : MI} {L : ML} {z : Int32} {I' : MI} (hf : f_X10_undo I = some (z, I')) : Con G mX10_undo yX10_undo rmX10_undo (fun B => [.ref (B + 0)]) X I L (some (.int z)) X I' L :=
  Con.of (by decide) rfl (fun h => by cases h) (fun B => Nat.le_of_ble_eq_true rfl) (fun G => kb_X10_undo hM  hf (fun _ _ he => by cases he; rfl))
-- X10_weight ('RookWords', 'weight', '(III)I')
def rmX10_weight : RM := ((3, 70, 0, 0), false, (some FieldType.int))
def f_X10_weight (v1 : Int32) (v2 : Int32) (v3 : Int32) (I : MI) : Option (Int32 × MI) := (if v1 < 0 then some ((-1), I) else (if v1 < 6 then (if v2 < 0 then some ((-1), I) else (if v2 < 6 then (if v3 < 0 then some ((-2), I) else (if 9 < v3 then some ((-2), I) else if inb ((v1 * 6) + v2) 36 then letv (I 7 (Int32.toNatClampNeg ((v1 * 6) + v2))) fun x8 => (if x8 = v3 then some (x8, I) else if inb ((v1 * 6) + v2) 36 then letv (upI I 7 (Int32.toNatClampNeg ((v1 * 6) + v2)) v3) fun I11 => bnd1 (f_X1_keep (-1) v1 v2 x8 I11) fun I12 => some (x8, I12) else none) else none)) else some ((-1), I))) else some ((-1), I)))
set_option maxRecDepth 100000 in
set_option maxHeartbeats 4000000 in
theorem kb_X10_weight {G : GX} {Q : State → Prop} {X : MX} (hM : shX10 X) {v1 : Int32} {v2 : Int32} {v3 : Int32}  {I : MI} {L : ML} {out : Int32 × MI} (hf : f_X10_weight v1 v2 v3 I = some out) (hR : ∀ (z : Int32) (I' : MI), out = (z, I') → Q = RetQ G (some (.int z)) X I' L (0, 0)) : Ex G mX10_weight rmX10_weight Q (0, 0) X I L 0 [(0, .ref (gB G + 0)), (1, .int v1), (2, .int v2), (3, .int v3)] [] := by
  unfold f_X10_weight at hf
  refine ex_iload_n 1 (pc' := 1) dX10_weight_0 rfl rfl rfl ?_
  refine ex_iflt (tgt := 20) (pc' := 4) dX10_weight_1 (by decide) rfl (fun hc1 => ?_) (fun hc1 => ?_)
  · replace hf := if_t hc1 hf
    refine ex_iconst (v := (-1)) (pc' := 21) dX10_weight_20 ic_m1 rfl ?_
    exact ex_iret dX10_weight_21 rfl (hR _ _ (Option.some.inj hf).symm)
  · replace hf := if_f hc1 hf
    refine ex_iload_n 1 (pc' := 5) dX10_weight_4 rfl rfl rfl ?_
    refine ex_bipush (v := 6) (pc' := 7) dX10_weight_5 bp_6 rfl ?_
    refine ex_icmpge (tgt := 20) (pc' := 10) dX10_weight_7 (by decide) rfl (fun hc2 => ?_) (fun hc2 => ?_)
    · replace hf := if_t hc2 hf
      refine ex_iload_n 2 (pc' := 11) dX10_weight_10 rfl rfl rfl ?_
      refine ex_iflt (tgt := 20) (pc' := 14) dX10_weight_11 (by decide) rfl (fun hc3 => ?_) (fun hc3 => ?_)
      · replace hf := if_t hc3 hf
        refine ex_iconst (v := (-1)) (pc' := 21) dX10_weight_20 ic_m1 rfl ?_
        exact ex_iret dX10_weight_21 rfl (hR _ _ (Option.some.inj hf).symm)
      · replace hf := if_f hc3 hf
        refine ex_iload_n 2 (pc' := 15) dX10_weight_14 rfl rfl rfl ?_
        refine ex_bipush (v := 6) (pc' := 17) dX10_weight_15 bp_6 rfl ?_
        refine ex_icmplt (tgt := 22) (pc' := 20) dX10_weight_17 (by decide) rfl (fun hc4 => ?_) (fun hc4 => ?_)
        · replace hf := if_t hc4 hf
          refine ex_iload_n 3 (pc' := 23) dX10_weight_22 rfl rfl rfl ?_
          refine ex_iflt (tgt := 32) (pc' := 26) dX10_weight_23 (by decide) rfl (fun hc5 => ?_) (fun hc5 => ?_)
          · replace hf := if_t hc5 hf
            refine ex_bipush (v := (-2)) (pc' := 34) dX10_weight_32 bp_m2 rfl ?_
            exact ex_iret dX10_weight_34 rfl (hR _ _ (Option.some.inj hf).symm)
          · replace hf := if_f hc5 hf
            refine ex_iload_n 3 (pc' := 27) dX10_weight_26 rfl rfl rfl ?_
            refine ex_bipush (v := 9) (pc' := 29) dX10_weight_27 bp_9 rfl ?_
            refine ex_icmple (tgt := 35) (pc' := 32) dX10_weight_29 (by decide) rfl (fun hc6 => ?_) (fun hc6 => ?_)
            · replace hf := if_t hc6 hf
              refine ex_bipush (v := (-2)) (pc' := 34) dX10_weight_32 bp_m2 rfl ?_
              exact ex_iret dX10_weight_34 rfl (hR _ _ (Option.some.inj hf).symm)
            · replace hf := if_f hc6 hf
              refine ex_iload_n 1 (pc' := 36) dX10_weight_35 rfl rfl rfl ?_
              refine ex_bipush (v := 6) (pc' := 38) dX10_weight_36 bp_6 rfl ?_
              refine ex_imul (pc' := 39) dX10_weight_38 rfl ?_
              refine ex_iload_n 2 (pc' := 40) dX10_weight_39 rfl rfl rfl ?_
              refine ex_iadd (pc' := 41) dX10_weight_40 rfl ?_
              refine ex_istore (lv' := [(4, .int ((v1 * 6) + v2)), (0, .ref (gB G + 0)), (1, .int v1), (2, .int v2), (3, .int v3)]) (pc' := 43) dX10_weight_41 (Nat.le_of_ble_eq_true rfl) rfl rfl ?_
              refine ex_aload_n 1 (pc' := 44) dX10_weight_43 rfl rfl rfl ?_
              refine ex_getR (pc' := 47) dX10_weight_44 fl_X10_12 rfl (sh10_k hM) (sh10_F0 hM) rfl ?_
              refine ex_getR (pc' := 50) dX10_weight_47 fl_X10_268 rfl (sh5_k (sh10_T0 hM)) (sh5_F3 (sh10_T0 hM)) rfl ?_
              refine ex_iload 0 (pc' := 52) dX10_weight_50 rfl rfl ?_
              obtain ⟨hg7, hf⟩ := of_guard hf
              refine ex_iald (pc' := 53) dX10_weight_52 (sh5_T3 (sh10_T0 hM)) (inb_in hg7) rfl ?_
              obtain ⟨x8, hx8, hf⟩ := of_let hf
              rw [← hx8]
              refine ex_istore (lv' := [(5, .int x8), (4, .int ((v1 * 6) + v2)), (0, .ref (gB G + 0)), (1, .int v1), (2, .int v2), (3, .int v3)]) (pc' := 55) dX10_weight_53 (Nat.le_of_ble_eq_true rfl) rfl rfl ?_
              refine ex_iload 0 (pc' := 57) dX10_weight_55 rfl rfl ?_
              refine ex_iload_n 5 (pc' := 58) dX10_weight_57 rfl rfl rfl ?_
              refine ex_icmpeq (tgt := 84) (pc' := 61) dX10_weight_58 (by decide) rfl (fun hc9 => ?_) (fun hc9 => ?_)
              · replace hf := if_t hc9 hf
                refine ex_iload 0 (pc' := 86) dX10_weight_84 rfl rfl ?_
                exact ex_iret dX10_weight_86 rfl (hR _ _ (Option.some.inj hf).symm)
              · replace hf := if_f hc9 hf
                refine ex_aload_n 2 (pc' := 62) dX10_weight_61 rfl rfl rfl ?_
                refine ex_getR (pc' := 65) dX10_weight_62 fl_X10_12 rfl (sh10_k hM) (sh10_F0 hM) rfl ?_
                refine ex_getR (pc' := 68) dX10_weight_65 fl_X10_268 rfl (sh5_k (sh10_T0 hM)) (sh5_F3 (sh10_T0 hM)) rfl ?_
                refine ex_iload 1 (pc' := 70) dX10_weight_68 rfl rfl ?_
                refine ex_iload_n 5 (pc' := 71) dX10_weight_70 rfl rfl rfl ?_
                obtain ⟨hg10, hf⟩ := of_guard hf
                refine ex_iast (pc' := 72) dX10_weight_71 (sh5_T3 (sh10_T0 hM)) (inb_in hg10) rfl ?_
                obtain ⟨I11, hI11, hf⟩ := of_let hf
                rw [← hI11]
                refine ex_aload_n 2 (pc' := 73) dX10_weight_72 rfl rfl rfl ?_
                refine ex_getR (pc' := 76) dX10_weight_73 fl_X10_24 rfl (sh10_k hM) (sh10_F3 hM) rfl ?_
                refine ex_iconst (v := (-1)) (pc' := 77) dX10_weight_76 ic_m1 rfl ?_
                refine ex_iload_n 3 (pc' := 78) dX10_weight_77 rfl rfl rfl ?_
                refine ex_iload_n 4 (pc' := 79) dX10_weight_78 rfl rfl rfl ?_
                refine ex_iload 0 (pc' := 81) dX10_weight_79 rfl rfl ?_
                obtain ⟨I12, hq13, hf⟩ := of_bnd1 hf
                refine ex_callV_v (rm' := rmX1_keep) (st := []) (pc' := 84) [.int (-1), .int v1, .int v2, .int x8] dX10_weight_81 cl_X10_166 (k_X1_keep G hM hq13) rfl (sh1_k (sh10_T3 hM)) ⟨_, _, rfl⟩ rfl rfl (ROOM_of rfl) (Nat.le_of_ble_eq_true rfl) rfl rfl ?_
                refine ex_iload 0 (pc' := 86) dX10_weight_84 rfl rfl ?_
                exact ex_iret dX10_weight_86 rfl (hR _ _ (Option.some.inj hf).symm)
        · replace hf := if_f hc4 hf
          refine ex_iconst (v := (-1)) (pc' := 21) dX10_weight_20 ic_m1 rfl ?_
          exact ex_iret dX10_weight_21 rfl (hR _ _ (Option.some.inj hf).symm)
    · replace hf := if_f hc2 hf
      refine ex_iconst (v := (-1)) (pc' := 21) dX10_weight_20 ic_m1 rfl ?_
      exact ex_iret dX10_weight_21 rfl (hR _ _ (Option.some.inj hf).symm)
set_option maxRecDepth 100000 in
set_option maxHeartbeats 4000000 in
theorem k_X10_weight (G : GX) {X : MX} (hM : shX10 X) {v1 : Int32} {v2 : Int32} {v3 : Int32}  {I : MI} {L : ML} {z : Int32} {I' : MI} (hf : f_X10_weight v1 v2 v3 I = some (z, I')) : Con G mX10_weight yX10_weight rmX10_weight (fun B => [.ref (B + 0), .int v1, .int v2, .int v3]) X I L (some (.int z)) X I' L :=
  Con.of (by decide) rfl (fun h => by cases h) (fun B => Nat.le_of_ble_eq_true rfl) (fun G => kb_X10_weight hM  hf (fun _ _ he => by cases he; rfl))
-- X10_word ('RookWords', 'word', '(II)I')
def rmX10_word : RM := ((1, 22, 0, 0), false, (some FieldType.int))
def f_X10_word (N : Nat) (v1 : Int32) (v2 : Int32) (I : MI) : Option (Int32) := bnd1 (f_X10_isPiece v1) fun r1 => (if r1 = 0 then some (-1) else (if v2 < (-2) then some (-1) else if inb v1 6 then (if v2 = (-2) then bnd1 (f_X9_ups N (10 + 4 * (Int32.toNatClampNeg v1)) I) fun r7 => some r7 else (if v2 = (-1) then some (I (10 + 4 * (Int32.toNatClampNeg v1)) 1) else (if v2 < (I (10 + 4 * (Int32.toNatClampNeg v1)) 1) then if inb v2 12 then some (I (10 + 4 * (Int32.toNatClampNeg v1) + 1) (Int32.toNatClampNeg v2)) else none else some (-5)))) else none))
set_option maxRecDepth 100000 in
set_option maxHeartbeats 4000000 in
theorem kb_X10_word {G : GX} {Q : State → Prop} {X : MX} (hM : shX10 X) {v1 : Int32} {v2 : Int32}  {N : Nat} {I : MI} {L : ML} {out : Int32} (hf : f_X10_word N v1 v2 I = some out) (hR : ∀ (z : Int32), out = z → Q = RetQ G (some (.int z)) X I L (0, 0)) : Ex G mX10_word rmX10_word Q (0, 0) X I L 0 [(0, .ref (gB G + 0)), (1, .int v1), (2, .int v2)] [] := by
  unfold f_X10_word at hf
  refine ex_iload_n 1 (pc' := 1) dX10_word_0 rfl rfl rfl ?_
  obtain ⟨r1, hq2, hf⟩ := of_bnd1 hf
  refine ex_callS_i (rm' := rmX10_isPiece) (st := []) (pc' := 4) [.int v1] dX10_word_1 cl_X10_66 (k_X10_isPiece G hq2) rfl rfl rfl (ROOM_of rfl) (Nat.le_of_ble_eq_true rfl) rfl rfl ?_
  refine ex_ifeq (tgt := 13) (pc' := 7) dX10_word_4 (by decide) rfl (fun hc3 => ?_) (fun hc3 => ?_)
  · replace hf := if_t hc3 hf
    refine ex_iconst (v := (-1)) (pc' := 14) dX10_word_13 ic_m1 rfl ?_
    exact ex_iret dX10_word_14 rfl (hR _ (Option.some.inj hf).symm)
  · replace hf := if_f hc3 hf
    refine ex_iload_n 2 (pc' := 8) dX10_word_7 rfl rfl rfl ?_
    refine ex_bipush (v := (-2)) (pc' := 10) dX10_word_8 bp_m2 rfl ?_
    refine ex_icmpge (tgt := 15) (pc' := 13) dX10_word_10 (by decide) rfl (fun hc4 => ?_) (fun hc4 => ?_)
    · replace hf := if_t hc4 hf
      refine ex_iconst (v := (-1)) (pc' := 14) dX10_word_13 ic_m1 rfl ?_
      exact ex_iret dX10_word_14 rfl (hR _ (Option.some.inj hf).symm)
    · replace hf := if_f hc4 hf
      refine ex_aload_n 0 (pc' := 16) dX10_word_15 rfl rfl rfl ?_
      refine ex_getR (pc' := 19) dX10_word_16 fl_X10_12 rfl (sh10_k hM) (sh10_F0 hM) rfl ?_
      refine ex_getR (pc' := 22) dX10_word_19 fl_X10_70 rfl (sh5_k (sh10_T0 hM)) (sh5_F0 (sh10_T0 hM)) rfl ?_
      refine ex_iload_n 1 (pc' := 23) dX10_word_22 rfl rfl rfl ?_
      obtain ⟨hg5, hf⟩ := of_guard hf
      refine ex_aaldS (pc' := 24) dX10_word_23 (sh5_T0 (sh10_T0 hM)) (by decide) (by decide) (inb_in hg5) (sh5_E0 (sh10_T0 hM) _ (inb_lt hg5)) rfl ?_
      refine ex_astore_n (lv' := [(3, .ref (gB G + (10 + 4 * (Int32.toNatClampNeg v1)))), (0, .ref (gB G + 0)), (1, .int v1), (2, .int v2)]) (pc' := 25) dX10_word_24 rfl (Nat.le_of_ble_eq_true rfl) rfl rfl ?_
      refine ex_iload_n 3 (pc' := 26) dX10_word_25 rfl rfl rfl ?_
      refine ex_bipush (v := (-2)) (pc' := 28) dX10_word_26 bp_m2 rfl ?_
      refine ex_icmpne (tgt := 36) (pc' := 31) dX10_word_28 (by decide) rfl (fun hc6 => ?_) (fun hc6 => ?_)
      · replace hf := if_t hc6 hf
        refine ex_aload_n 0 (pc' := 32) dX10_word_31 rfl rfl rfl ?_
        obtain ⟨r7, hq8, hf⟩ := of_bnd1 hf
        refine ex_callV_i (rm' := rmX9_ups) (st := []) (pc' := 35) [] dX10_word_32 cl_X10_97 (k_X9_ups G (sh5_O0 (sh10_T0 hM) _ (inb_lt hg5)) hq8) rfl (sh9_k (sh5_O0 (sh10_T0 hM) _ (inb_lt hg5))) ⟨_, _, rfl⟩ rfl rfl (ROOM_of rfl) (Nat.le_of_ble_eq_true rfl) rfl rfl ?_
        exact ex_iret dX10_word_35 rfl (hR _ (Option.some.inj hf).symm)
      · replace hf := if_f hc6 hf
        refine ex_iload_n 3 (pc' := 37) dX10_word_36 rfl rfl rfl ?_
        refine ex_iconst (v := (-1)) (pc' := 38) dX10_word_37 ic_m1 rfl ?_
        refine ex_icmpne (tgt := 46) (pc' := 41) dX10_word_38 (by decide) rfl (fun hc9 => ?_) (fun hc9 => ?_)
        · replace hf := if_t hc9 hf
          refine ex_aload_n 0 (pc' := 42) dX10_word_41 rfl rfl rfl ?_
          refine ex_getI (pc' := 45) dX10_word_42 fl_X10_83 rfl (sh9_k (sh5_O0 (sh10_T0 hM) _ (inb_lt hg5))) rfl ?_
          exact ex_iret dX10_word_45 rfl (hR _ (Option.some.inj hf).symm)
        · replace hf := if_f hc9 hf
          refine ex_iload_n 3 (pc' := 47) dX10_word_46 rfl rfl rfl ?_
          refine ex_aload_n 0 (pc' := 48) dX10_word_47 rfl rfl rfl ?_
          refine ex_getI (pc' := 51) dX10_word_48 fl_X10_83 rfl (sh9_k (sh5_O0 (sh10_T0 hM) _ (inb_lt hg5))) rfl ?_
          refine ex_icmpge (tgt := 63) (pc' := 54) dX10_word_51 (by decide) rfl (fun hc10 => ?_) (fun hc10 => ?_)
          · replace hf := if_t hc10 hf
            refine ex_aload_n 0 (pc' := 55) dX10_word_54 rfl rfl rfl ?_
            refine ex_getR (pc' := 58) dX10_word_55 fl_X10_90 rfl (sh9_k (sh5_O0 (sh10_T0 hM) _ (inb_lt hg5))) (sh9_F0 (sh5_O0 (sh10_T0 hM) _ (inb_lt hg5))) rfl ?_
            refine ex_iload_n 3 (pc' := 59) dX10_word_58 rfl rfl rfl ?_
            obtain ⟨hg11, hf⟩ := of_guard hf
            refine ex_iald (pc' := 60) dX10_word_59 (sh9_T0 (sh5_O0 (sh10_T0 hM) _ (inb_lt hg5))) (inb_in hg11) rfl ?_
            refine ex_goto (tgt := 65) dX10_word_60 (by decide) ?_
            exact ex_iret dX10_word_65 rfl (hR _ (Option.some.inj hf).symm)
          · replace hf := if_f hc10 hf
            refine ex_bipush (v := (-5)) (pc' := 65) dX10_word_63 bp_m5 rfl ?_
            exact ex_iret dX10_word_65 rfl (hR _ (Option.some.inj hf).symm)
set_option maxRecDepth 100000 in
set_option maxHeartbeats 4000000 in
theorem k_X10_word (G : GX) {X : MX} (hM : shX10 X) {v1 : Int32} {v2 : Int32}  {N : Nat} {I : MI} {L : ML} {z : Int32} (hf : f_X10_word N v1 v2 I = some z) : Con G mX10_word yX10_word rmX10_word (fun B => [.ref (B + 0), .int v1, .int v2]) X I L (some (.int z)) X I L :=
  Con.of (by decide) rfl (fun h => by cases h) (fun B => Nat.le_of_ble_eq_true rfl) (fun G => kb_X10_word hM  hf (fun _ he => by cases he; rfl))
theorem cl_X10_314 : CLV RX10 314 yX3_putWord mX3_putWord none 1 := ⟨⟨lwg_at 837 (by decide +kernel) rfl, lwg_at 838 (by decide +kernel) rfl, lwg_at 839 (by decide +kernel) rfl, lwg_at 58 (by decide +kernel) rfl⟩, lwg_at 840 (by decide +kernel) rfl, ⟨by decide +kernel, by decide +kernel, by decide +kernel⟩⟩
-- X10_write ('RookWords', 'write', '(I)I')
def rmX10_write : RM := ((2, 44, 0, 0), false, (some FieldType.int))
def f_X10_write (N : Nat) (v1 : Int32) (I : MI) : Option (Int32 × MI) := bnd1 (f_X10_isPiece v1) fun r1 => (if r1 = 0 then some ((-1), I) else if inb v1 6 then bnd1 (f_X3_putWord N (10 + 4 * (Int32.toNatClampNeg v1)) I) fun I5 => some (I5 76 1, I5) else none)
set_option maxRecDepth 100000 in
set_option maxHeartbeats 4000000 in
theorem kb_X10_write {G : GX} {Q : State → Prop} {X : MX} (hM : shX10 X) {v1 : Int32}  {N : Nat} {I : MI} {L : ML} {out : Int32 × MI} (hf : f_X10_write N v1 I = some out) (hR : ∀ (z : Int32) (I' : MI), out = (z, I') → Q = RetQ G (some (.int z)) X I' L (0, 0)) : Ex G mX10_write rmX10_write Q (0, 0) X I L 0 [(0, .ref (gB G + 0)), (1, .int v1)] [] := by
  unfold f_X10_write at hf
  refine ex_iload_n 1 (pc' := 1) dX10_write_0 rfl rfl rfl ?_
  obtain ⟨r1, hq2, hf⟩ := of_bnd1 hf
  refine ex_callS_i (rm' := rmX10_isPiece) (st := []) (pc' := 4) [.int v1] dX10_write_1 cl_X10_66 (k_X10_isPiece G hq2) rfl rfl rfl (ROOM_of rfl) (Nat.le_of_ble_eq_true rfl) rfl rfl ?_
  refine ex_ifne (tgt := 9) (pc' := 7) dX10_write_4 (by decide) rfl (fun hc3 => ?_) (fun hc3 => ?_)
  · replace hf := if_t hc3 hf
    refine ex_iconst (v := (-1)) (pc' := 8) dX10_write_7 ic_m1 rfl ?_
    exact ex_iret dX10_write_8 rfl (hR _ _ (Option.some.inj hf).symm)
  · replace hf := if_f hc3 hf
    refine ex_aload_n 0 (pc' := 10) dX10_write_9 rfl rfl rfl ?_
    refine ex_getR (pc' := 13) dX10_write_10 fl_X10_38 rfl (sh10_k hM) (sh10_F5 hM) rfl ?_
    refine ex_aload_n 0 (pc' := 14) dX10_write_13 rfl rfl rfl ?_
    refine ex_getR (pc' := 17) dX10_write_14 fl_X10_12 rfl (sh10_k hM) (sh10_F0 hM) rfl ?_
    refine ex_getR (pc' := 20) dX10_write_17 fl_X10_70 rfl (sh5_k (sh10_T0 hM)) (sh5_F0 (sh10_T0 hM)) rfl ?_
    refine ex_iload_n 1 (pc' := 21) dX10_write_20 rfl rfl rfl ?_
    obtain ⟨hg4, hf⟩ := of_guard hf
    refine ex_aaldS (pc' := 22) dX10_write_21 (sh5_T0 (sh10_T0 hM)) (by decide) (by decide) (inb_in hg4) (sh5_E0 (sh10_T0 hM) _ (inb_lt hg4)) rfl ?_
    obtain ⟨I5, hq6, hf⟩ := of_bnd1 hf
    refine ex_callV_v (rm' := rmX3_putWord) (st := []) (pc' := 25) [.ref (gB G + (10 + 4 * (Int32.toNatClampNeg v1)))] dX10_write_22 cl_X10_314 (k_X3_putWord G hM (sh5_O0 (sh10_T0 hM) _ (inb_lt hg4)) hq6) rfl (sh3_k (sh10_T5 hM)) ⟨_, _, rfl⟩ rfl rfl (ROOM_of rfl) (Nat.le_of_ble_eq_true rfl) rfl rfl ?_
    refine ex_aload_n 0 (pc' := 26) dX10_write_25 rfl rfl rfl ?_
    refine ex_getR (pc' := 29) dX10_write_26 fl_X10_38 rfl (sh10_k hM) (sh10_F5 hM) rfl ?_
    refine ex_getI (pc' := 32) dX10_write_29 fl_X10_317 rfl (sh3_k (sh10_T5 hM)) rfl ?_
    exact ex_iret dX10_write_32 rfl (hR _ _ (Option.some.inj hf).symm)
set_option maxRecDepth 100000 in
set_option maxHeartbeats 4000000 in
theorem k_X10_write (G : GX) {X : MX} (hM : shX10 X) {v1 : Int32}  {N : Nat} {I : MI} {L : ML} {z : Int32} {I' : MI} (hf : f_X10_write N v1 I = some (z, I')) : Con G mX10_write yX10_write rmX10_write (fun B => [.ref (B + 0), .int v1]) X I L (some (.int z)) X I' L :=
  Con.of (by decide) rfl (fun h => by cases h) (fun B => Nat.le_of_ble_eq_true rfl) (fun G => kb_X10_write hM  hf (fun _ _ he => by cases he; rfl))
-- X11_in ('RookWordsModel', 'in', '(JJJ)Z')
def rmX11_in : RM := ((0, 0, 0, 0), false, (some FieldType.boolean))
def f_X11_in (v0 : Int64) (v2 : Int64) (v4 : Int64) : Option (Int32) := (if v0 < v2 then some 0 else (if v4 < v0 then some 0 else some 1))
set_option maxRecDepth 100000 in
set_option maxHeartbeats 4000000 in
theorem kb_X11_in {G : GX} {Q : State → Prop} {X : MX} {v0 : Int64} {v2 : Int64} {v4 : Int64}  {I : MI} {L : ML} {out : Int32} (hf : f_X11_in v0 v2 v4 = some out) (hR : ∀ (z : Int32), out = z → Q = RetQ G (some (.int z)) X I L (0, 0)) : Ex G mX11_in rmX11_in Q (0, 0) X I L 0 [(0, .long v0), (2, .long v2), (4, .long v4)] [] := by
  unfold f_X11_in at hf
  refine ex_lload_n 0 (pc' := 1) dX11_in_0 rfl rfl rfl ?_
  refine ex_lload_n 1 (pc' := 2) dX11_in_1 rfl rfl rfl ?_
  refine ex_lcmp (pc' := 3) dX11_in_2 rfl ?_
  refine ex_liflt (tgt := 17) (pc' := 6) dX11_in_3 (by decide) rfl (fun hc1 => ?_) (fun hc1 => ?_)
  · replace hf := if_t hc1 hf
    refine ex_iconst (v := 0) (pc' := 18) dX11_in_17 ic_0 rfl ?_
    exact ex_zret dX11_in_18 rfl (Or.inl rfl) (hR _ (Option.some.inj hf).symm)
  · replace hf := if_f hc1 hf
    refine ex_lload_n 0 (pc' := 7) dX11_in_6 rfl rfl rfl ?_
    refine ex_lload 2 (pc' := 9) dX11_in_7 rfl rfl ?_
    refine ex_lcmp (pc' := 10) dX11_in_9 rfl ?_
    refine ex_lifgt (tgt := 17) (pc' := 13) dX11_in_10 (by decide) rfl (fun hc2 => ?_) (fun hc2 => ?_)
    · replace hf := if_t hc2 hf
      refine ex_iconst (v := 0) (pc' := 18) dX11_in_17 ic_0 rfl ?_
      exact ex_zret dX11_in_18 rfl (Or.inl rfl) (hR _ (Option.some.inj hf).symm)
    · replace hf := if_f hc2 hf
      refine ex_iconst (v := 1) (pc' := 14) dX11_in_13 ic_1 rfl ?_
      refine ex_goto (tgt := 18) dX11_in_14 (by decide) ?_
      exact ex_zret dX11_in_18 rfl (Or.inr rfl) (hR _ (Option.some.inj hf).symm)
set_option maxRecDepth 100000 in
set_option maxHeartbeats 4000000 in
theorem k_X11_in (G : GX) {X : MX} {v0 : Int64} {v2 : Int64} {v4 : Int64}  {I : MI} {L : ML} {z : Int32} (hf : f_X11_in v0 v2 v4 = some z) : Con G mX11_in yX11_in rmX11_in (fun B => [.long v0, .long v2, .long v4]) X I L (some (.int z)) X I L :=
  Con.of (by decide) rfl (fun h => by cases h) (fun B => Nat.le_of_ble_eq_true rfl) (fun G => kb_X11_in  hf (fun _ he => by cases he; rfl))
theorem co_X11_127 : Cond.constantLong RX11 127 (5) ∈ lwg := lwg_at 1095 (by decide +kernel) rfl
theorem cl_X11_129 : CLS RX11 129 yX11_in mX11_in (some FieldType.boolean) 3 := ⟨⟨lwg_at 1096 (by decide +kernel) rfl, lwg_at 1097 (by decide +kernel) rfl, lwg_at 61 (by decide +kernel) rfl⟩, lwg_at 1098 (by decide +kernel) rfl, ⟨by decide +kernel, by decide +kernel, by decide +kernel⟩⟩
-- X11_isSix ('RookWordsModel', 'isSix', '(I)Z')
def rmX11_isSix : RM := ((1, 25, 0, 0), false, (some FieldType.boolean))
def f_X11_isSix (v0 : Int32) : Option (Int32) := bnd1 (f_X11_in (Int32.toInt64 v0) 0 5) fun r1 => if r1 = 0 ∨ r1 = 1 then some r1 else none
set_option maxRecDepth 100000 in
set_option maxHeartbeats 4000000 in
theorem kb_X11_isSix {G : GX} {Q : State → Prop} {X : MX} {v0 : Int32}  {I : MI} {L : ML} {out : Int32} (hf : f_X11_isSix v0 = some out) (hR : ∀ (z : Int32), out = z → Q = RetQ G (some (.int z)) X I L (0, 0)) : Ex G mX11_isSix rmX11_isSix Q (0, 0) X I L 0 [(0, .int v0)] [] := by
  unfold f_X11_isSix at hf
  refine ex_iload_n 0 (pc' := 1) dX11_isSix_0 rfl rfl rfl ?_
  refine ex_i2l (pc' := 2) dX11_isSix_1 rfl ?_
  refine ex_lconst (v := 0) (pc' := 3) dX11_isSix_2 lc_0 rfl ?_
  refine ex_ldc2 (v := 5) (pc' := 6) dX11_isSix_3 co_X11_127 rfl ?_
  obtain ⟨r1, hq2, hf⟩ := of_bnd1 hf
  refine ex_callS_i (rm' := rmX11_in) (st := []) (pc' := 9) [.long (Int32.toInt64 v0), .long 0, .long 5] dX11_isSix_6 cl_X11_129 (k_X11_in G hq2) rfl rfl rfl (ROOM_of rfl) (Nat.le_of_ble_eq_true rfl) rfl rfl ?_
  obtain ⟨hg3, hf⟩ := of_guardP hf
  exact ex_zret dX11_isSix_9 rfl hg3 (hR _ (Option.some.inj hf).symm)
set_option maxRecDepth 100000 in
set_option maxHeartbeats 4000000 in
theorem k_X11_isSix (G : GX) {X : MX} {v0 : Int32}  {I : MI} {L : ML} {z : Int32} (hf : f_X11_isSix v0 = some z) : Con G mX11_isSix yX11_isSix rmX11_isSix (fun B => [.int v0]) X I L (some (.int z)) X I L :=
  Con.of (by decide) rfl (fun h => by cases h) (fun B => Nat.le_of_ble_eq_true rfl) (fun G => kb_X11_isSix  hf (fun _ he => by cases he; rfl))
theorem cl_X11_133 : CLS RX11 133 yX11_isSix mX11_isSix (some FieldType.boolean) 1 := ⟨⟨lwg_at 1092 (by decide +kernel) rfl, lwg_at 1093 (by decide +kernel) rfl, lwg_at 61 (by decide +kernel) rfl⟩, lwg_at 1094 (by decide +kernel) rfl, ⟨by decide +kernel, by decide +kernel, by decide +kernel⟩⟩
theorem co_X11_149 : Cond.constantLong RX11 149 (-9223372036854775808) ∈ lwg := lwg_at 1133 (by decide +kernel) rfl
theorem co_X11_147 : Cond.constantLong RX11 147 (20) ∈ lwg := lwg_at 1132 (by decide +kernel) rfl
theorem fl_X11_9 : FLD RX11 9 11 0 true := ⟨RX11, TX11, 51, rfl, inX11, by decide, lwg_at 934 (by decide +kernel) rfl, nmX11, tyX11_ok, rfl, rfl⟩
theorem fl_X11_15 : FLD RX11 15 11 1 true := ⟨RX11, TX11, 51, rfl, inX11, by decide, lwg_at 935 (by decide +kernel) rfl, nmX11, tyX11_ok, rfl, rfl⟩
-- X11_acted ('RookWordsModel', 'acted', '(III)J')
def rmX11_acted : RM := ((2, 45, 0, 0), false, (some FieldType.long))
def f_X11_acted_b49 (N : Nat) (v1 : Int32) (v3 : Int32) (v4 : Int64) (v6 : Int32) (v7 : Int32) (I : MI) : Option ((Int64 × Int32 × Int32) ⊕ (Int64 × Int32)) := (if v7 < 0 then some (.inr (v4, v6)) else if inb ((12 * v1) + v7) 72 then (if (I 101 (Int32.toNatClampNeg ((12 * v1) + v7))) = 0 then some (.inl (v4, v6 + 1, v7 + (-1))) else (if 0 < v6 then some (.inl (v4 * (Int32.toInt64 v6), v6 - 1, v7 + (-1))) else some (.inl (v4 * (Int32.toInt64 v6), v6 - 0, v7 + (-1))))) else none)
set_option maxRecDepth 100000 in
set_option maxHeartbeats 4000000 in
theorem k_X11_acted_b49 {G : GX} {Q : State → Prop} {X : MX} (hO : shX11 X) {v1 : Int32} {v3 : Int32}  {v4 : Int64} {v6 : Int32} {v7 : Int32} {N : Nat} {I : MI} {L : ML} {out : (Int64 × Int32 × Int32) ⊕ (Int64 × Int32)} (hf : f_X11_acted_b49 N v1 v3 v4 v6 v7 I = some out) (hC : ∀ (v4' : Int64) (v6' : Int32) (v7' : Int32), out = .inl (v4', v6', v7') → Ex G mX11_acted rmX11_acted Q (0, 0) X I L 49 [(0, .ref (gB G + 99)), (1, .int v1), (3, .int v3), (4, .long v4'), (6, .int v6'), (7, .int v7')] []) (hX : ∀ (w4 : Int64) (w6 : Int32), out = .inr (w4, w6) → Ex G mX11_acted rmX11_acted Q (0, 0) X I L 104 [(3, .int v3), (4, .long w4), (6, .int w6)] []) : Ex G mX11_acted rmX11_acted Q (0, 0) X I L 49 [(0, .ref (gB G + 99)), (1, .int v1), (3, .int v3), (4, .long v4), (6, .int v6), (7, .int v7)] [] := by
  unfold f_X11_acted_b49 at hf
  refine ex_iload 5 (pc' := 51) dX11_acted_49 rfl rfl ?_
  refine ex_iflt (tgt := 104) (pc' := 54) dX11_acted_51 (by decide) rfl (fun hc12 => ?_) (fun hc12 => ?_)
  · replace hf := if_t hc12 hf
    exact ex_sub [2, 3, 4] rfl (hX _ _ (Option.some.inj hf).symm)
  · replace hf := if_f hc12 hf
    refine ex_aload_n 0 (pc' := 55) dX11_acted_54 rfl rfl rfl ?_
    refine ex_getR (pc' := 58) dX11_acted_55 fl_X11_15 rfl (sh11_k hO) (sh11_F1 hO) rfl ?_
    refine ex_bipush (v := 12) (pc' := 60) dX11_acted_58 bp_12 rfl ?_
    refine ex_iload_n 1 (pc' := 61) dX11_acted_60 rfl rfl rfl ?_
    refine ex_imul (pc' := 62) dX11_acted_61 rfl ?_
    refine ex_iload 5 (pc' := 64) dX11_acted_62 rfl rfl ?_
    refine ex_iadd (pc' := 65) dX11_acted_64 rfl ?_
    obtain ⟨hg13, hf⟩ := of_guard hf
    refine ex_iald (pc' := 66) dX11_acted_65 (sh11_T1 hO) (inb_in hg13) rfl ?_
    refine ex_ifne (tgt := 75) (pc' := 69) dX11_acted_66 (by decide) rfl (fun hc14 => ?_) (fun hc14 => ?_)
    · replace hf := if_t hc14 hf
      refine ex_iincc (lv' := [(6, .int (v6 + 1)), (0, .ref (gB G + 99)), (1, .int v1), (3, .int v3), (4, .long v4), (7, .int v7)]) 4 (pc' := 72) dX11_acted_69 rfl ic_1 (Nat.le_of_ble_eq_true rfl) rfl rfl ?_
      refine ex_goto (tgt := 98) dX11_acted_72 (by decide) ?_
      refine ex_iincc (lv' := [(7, .int (v7 + (-1))), (6, .int (v6 + 1)), (0, .ref (gB G + 99)), (1, .int v1), (3, .int v3), (4, .long v4)]) 5 (pc' := 101) dX11_acted_98 rfl ic_m1 (Nat.le_of_ble_eq_true rfl) rfl rfl ?_
      refine ex_goto (tgt := 49) dX11_acted_101 (by decide) ?_
      exact ex_sub [2, 3, 4, 5, 1, 0] rfl (hC _ _ _ (Option.some.inj hf).symm)
    · replace hf := if_f hc14 hf
      refine ex_lload 3 (pc' := 77) dX11_acted_75 rfl rfl ?_
      refine ex_iload 4 (pc' := 79) dX11_acted_77 rfl rfl ?_
      refine ex_i2l (pc' := 80) dX11_acted_79 rfl ?_
      refine ex_lmul (pc' := 81) dX11_acted_80 rfl ?_
      refine ex_lstore (lv' := [(4, .long (v4 * (Int32.toInt64 v6))), (0, .ref (gB G + 99)), (1, .int v1), (3, .int v3), (6, .int v6), (7, .int v7)]) (pc' := 83) dX11_acted_81 (Nat.le_of_ble_eq_true rfl) rfl rfl ?_
      refine ex_iload 4 (pc' := 85) dX11_acted_83 rfl rfl ?_
      refine ex_iload 4 (pc' := 87) dX11_acted_85 rfl rfl ?_
      refine ex_ifle (tgt := 94) (pc' := 90) dX11_acted_87 (by decide) rfl (fun hc15 => ?_) (fun hc15 => ?_)
      · replace hf := if_t hc15 hf
        refine ex_iconst (v := 1) (pc' := 91) dX11_acted_90 ic_1 rfl ?_
        refine ex_goto (tgt := 95) dX11_acted_91 (by decide) ?_
        refine ex_isub (pc' := 96) dX11_acted_95 rfl ?_
        refine ex_istore (lv' := [(6, .int (v6 - 1)), (4, .long (v4 * (Int32.toInt64 v6))), (0, .ref (gB G + 99)), (1, .int v1), (3, .int v3), (7, .int v7)]) (pc' := 98) dX11_acted_96 (Nat.le_of_ble_eq_true rfl) rfl rfl ?_
        refine ex_iincc (lv' := [(7, .int (v7 + (-1))), (6, .int (v6 - 1)), (4, .long (v4 * (Int32.toInt64 v6))), (0, .ref (gB G + 99)), (1, .int v1), (3, .int v3)]) 5 (pc' := 101) dX11_acted_98 rfl ic_m1 (Nat.le_of_ble_eq_true rfl) rfl rfl ?_
        refine ex_goto (tgt := 49) dX11_acted_101 (by decide) ?_
        exact ex_sub [3, 4, 5, 2, 1, 0] rfl (hC _ _ _ (Option.some.inj hf).symm)
      · replace hf := if_f hc15 hf
        refine ex_iconst (v := 0) (pc' := 95) dX11_acted_94 ic_0 rfl ?_
        refine ex_isub (pc' := 96) dX11_acted_95 rfl ?_
        refine ex_istore (lv' := [(6, .int (v6 - 0)), (4, .long (v4 * (Int32.toInt64 v6))), (0, .ref (gB G + 99)), (1, .int v1), (3, .int v3), (7, .int v7)]) (pc' := 98) dX11_acted_96 (Nat.le_of_ble_eq_true rfl) rfl rfl ?_
        refine ex_iincc (lv' := [(7, .int (v7 + (-1))), (6, .int (v6 - 0)), (4, .long (v4 * (Int32.toInt64 v6))), (0, .ref (gB G + 99)), (1, .int v1), (3, .int v3)]) 5 (pc' := 101) dX11_acted_98 rfl ic_m1 (Nat.le_of_ble_eq_true rfl) rfl rfl ?_
        refine ex_goto (tgt := 49) dX11_acted_101 (by decide) ?_
        exact ex_sub [3, 4, 5, 2, 1, 0] rfl (hC _ _ _ (Option.some.inj hf).symm)
def f_X11_acted_l49 (N : Nat) (v1 : Int32) (v3 : Int32) (v4 : Int64) (v6 : Int32) (v7 : Int32) (I : MI) : Option (Int64 × Int32) := loopN (fun s => f_X11_acted_b49 N v1 v3 s.1 s.2.1 s.2.2 I) N (v4, v6, v7)
set_option maxRecDepth 100000 in
set_option maxHeartbeats 4000000 in
theorem k_X11_acted_l49 {G : GX} {Q : State → Prop} {X : MX} (hO : shX11 X) {v1 : Int32} {v3 : Int32}  {N0 : Nat} {I : MI} {L : ML} {out : (Int64 × Int32)} (hX : ∀ (w4 : Int64) (w6 : Int32), out = (w4, w6) → Ex G mX11_acted rmX11_acted Q (0, 0) X I L 104 [(3, .int v3), (4, .long w4), (6, .int w6)] []) : ∀ (N : Nat) (v4 : Int64) (v6 : Int32) (v7 : Int32), loopN (fun s => f_X11_acted_b49 N0 v1 v3 s.1 s.2.1 s.2.2 I) N (v4, v6, v7) = some out → Ex G mX11_acted rmX11_acted Q (0, 0) X I L 49 [(0, .ref (gB G + 99)), (1, .int v1), (3, .int v3), (4, .long v4), (6, .int v6), (7, .int v7)] [] := by
  intro N
  induction N with
  | zero => intro v4 v6 v7 hf; exact absurd (loopN_zero hf) id
  | succ n ih =>
    intro v4 v6 v7 hf
    rcases loopN_succ hf with ⟨s, hb, hl⟩ | hb
    · obtain ⟨v4', v6', v7'⟩ := s
      refine k_X11_acted_b49 hO  hb (fun _ _ _ he => ?_) (fun _ _ he => by cases he)
      cases he
      exact ih v4' v6' v7' hl
    · exact k_X11_acted_b49 hO  hb (fun _ _ _ he => by cases he) (fun x0 x1 he => hX x0 x1 (Sum.inr.inj he))
def f_X11_acted (N : Nat) (v1 : Int32) (v2 : Int32) (v3 : Int32) (I : MI) : Option (Int64) := bnd1 (f_X11_isSix v1) fun r1 => (if r1 = 0 then some (-9223372036854775808) else bnd1 (f_X11_in (Int32.toInt64 v2) 0 20) fun r4 => (if r4 = 0 then some (-9223372036854775808) else bnd1 (f_X11_in (Int32.toInt64 v3) 0 1) fun r7 => (if r7 = 0 then some (-9223372036854775808) else if inb v1 6 then letv ((I 100 (Int32.toNatClampNeg v1)) - 1) fun x11 => bnd2 (f_X11_acted_l49 N v1 v3 1 v2 x11 I) fun x16 x17 => (if v3 = 0 then some x16 else some (Int32.toInt64 x17)) else none)))
set_option maxRecDepth 100000 in
set_option maxHeartbeats 4000000 in
theorem kb_X11_acted {G : GX} {Q : State → Prop} {X : MX} (hO : shX11 X) {v1 : Int32} {v2 : Int32} {v3 : Int32}  {N : Nat} {I : MI} {L : ML} {out : Int64} (hf : f_X11_acted N v1 v2 v3 I = some out) (hR : ∀ (z : Int64), out = z → Q = RetQ G (some (.long z)) X I L (0, 0)) : Ex G mX11_acted rmX11_acted Q (0, 0) X I L 0 [(0, .ref (gB G + 99)), (1, .int v1), (2, .int v2), (3, .int v3)] [] := by
  unfold f_X11_acted at hf
  refine ex_iload_n 1 (pc' := 1) dX11_acted_0 rfl rfl rfl ?_
  obtain ⟨r1, hq2, hf⟩ := of_bnd1 hf
  refine ex_callS_i (rm' := rmX11_isSix) (st := []) (pc' := 4) [.int v1] dX11_acted_1 cl_X11_133 (k_X11_isSix G hq2) rfl rfl rfl (ROOM_of rfl) (Nat.le_of_ble_eq_true rfl) rfl rfl ?_
  refine ex_ifeq (tgt := 29) (pc' := 7) dX11_acted_4 (by decide) rfl (fun hc3 => ?_) (fun hc3 => ?_)
  · replace hf := if_t hc3 hf
    refine ex_ldc2 (v := (-9223372036854775808)) (pc' := 32) dX11_acted_29 co_X11_149 rfl ?_
    exact ex_lret dX11_acted_32 rfl (hR _ (Option.some.inj hf).symm)
  · replace hf := if_f hc3 hf
    refine ex_iload_n 2 (pc' := 8) dX11_acted_7 rfl rfl rfl ?_
    refine ex_i2l (pc' := 9) dX11_acted_8 rfl ?_
    refine ex_lconst (v := 0) (pc' := 10) dX11_acted_9 lc_0 rfl ?_
    refine ex_ldc2 (v := 20) (pc' := 13) dX11_acted_10 co_X11_147 rfl ?_
    obtain ⟨r4, hq5, hf⟩ := of_bnd1 hf
    refine ex_callS_i (rm' := rmX11_in) (st := []) (pc' := 16) [.long (Int32.toInt64 v2), .long 0, .long 20] dX11_acted_13 cl_X11_129 (k_X11_in G hq5) rfl rfl rfl (ROOM_of rfl) (Nat.le_of_ble_eq_true rfl) rfl rfl ?_
    refine ex_ifeq (tgt := 29) (pc' := 19) dX11_acted_16 (by decide) rfl (fun hc6 => ?_) (fun hc6 => ?_)
    · replace hf := if_t hc6 hf
      refine ex_ldc2 (v := (-9223372036854775808)) (pc' := 32) dX11_acted_29 co_X11_149 rfl ?_
      exact ex_lret dX11_acted_32 rfl (hR _ (Option.some.inj hf).symm)
    · replace hf := if_f hc6 hf
      refine ex_iload_n 3 (pc' := 20) dX11_acted_19 rfl rfl rfl ?_
      refine ex_i2l (pc' := 21) dX11_acted_20 rfl ?_
      refine ex_lconst (v := 0) (pc' := 22) dX11_acted_21 lc_0 rfl ?_
      refine ex_lconst (v := 1) (pc' := 23) dX11_acted_22 lc_1 rfl ?_
      obtain ⟨r7, hq8, hf⟩ := of_bnd1 hf
      refine ex_callS_i (rm' := rmX11_in) (st := []) (pc' := 26) [.long (Int32.toInt64 v3), .long 0, .long 1] dX11_acted_23 cl_X11_129 (k_X11_in G hq8) rfl rfl rfl (ROOM_of rfl) (Nat.le_of_ble_eq_true rfl) rfl rfl ?_
      refine ex_ifne (tgt := 33) (pc' := 29) dX11_acted_26 (by decide) rfl (fun hc9 => ?_) (fun hc9 => ?_)
      · replace hf := if_t hc9 hf
        refine ex_ldc2 (v := (-9223372036854775808)) (pc' := 32) dX11_acted_29 co_X11_149 rfl ?_
        exact ex_lret dX11_acted_32 rfl (hR _ (Option.some.inj hf).symm)
      · replace hf := if_f hc9 hf
        refine ex_lconst (v := 1) (pc' := 34) dX11_acted_33 lc_1 rfl ?_
        refine ex_lstore (lv' := [(4, .long 1), (0, .ref (gB G + 99)), (1, .int v1), (2, .int v2), (3, .int v3)]) (pc' := 36) dX11_acted_34 (Nat.le_of_ble_eq_true rfl) rfl rfl ?_
        refine ex_iload_n 3 (pc' := 37) dX11_acted_36 rfl rfl rfl ?_
        refine ex_istore (lv' := [(6, .int v2), (4, .long 1), (0, .ref (gB G + 99)), (1, .int v1), (2, .int v2), (3, .int v3)]) (pc' := 39) dX11_acted_37 (Nat.le_of_ble_eq_true rfl) rfl rfl ?_
        refine ex_aload_n 2 (pc' := 40) dX11_acted_39 rfl rfl rfl ?_
        refine ex_getR (pc' := 43) dX11_acted_40 fl_X11_9 rfl (sh11_k hO) (sh11_F0 hO) rfl ?_
        refine ex_iload_n 3 (pc' := 44) dX11_acted_43 rfl rfl rfl ?_
        obtain ⟨hg10, hf⟩ := of_guard hf
        refine ex_iald (pc' := 45) dX11_acted_44 (sh11_T0 hO) (inb_in hg10) rfl ?_
        refine ex_iconst (v := 1) (pc' := 46) dX11_acted_45 ic_1 rfl ?_
        refine ex_isub (pc' := 47) dX11_acted_46 rfl ?_
        obtain ⟨x11, hx11, hf⟩ := of_let hf
        rw [← hx11]
        refine ex_istore (lv' := [(7, .int x11), (6, .int v2), (4, .long 1), (0, .ref (gB G + 99)), (1, .int v1), (2, .int v2), (3, .int v3)]) (pc' := 49) dX11_acted_47 (Nat.le_of_ble_eq_true rfl) rfl rfl ?_
        refine ex_sub (lv' := [(0, .ref (gB G + 99)), (1, .int v1), (3, .int v3), (4, .long 1), (6, .int v2), (7, .int x11)]) [3, 4, 6, 2, 1, 0] rfl ?_
        obtain ⟨x16, x17, hq18, hf⟩ := of_bnd2 hf
        refine k_X11_acted_l49 hO (fun x16' x17' he => ?_) _ _ _ _ hq18
        cases he
        refine ex_iload_n 0 (pc' := 105) dX11_acted_104 rfl rfl rfl ?_
        refine ex_ifne (tgt := 113) (pc' := 108) dX11_acted_105 (by decide) rfl (fun hc19 => ?_) (fun hc19 => ?_)
        · replace hf := if_t hc19 hf
          refine ex_lload 1 (pc' := 110) dX11_acted_108 rfl rfl ?_
          refine ex_goto (tgt := 116) dX11_acted_110 (by decide) ?_
          exact ex_lret dX11_acted_116 rfl (hR _ (Option.some.inj hf).symm)
        · replace hf := if_f hc19 hf
          refine ex_iload 2 (pc' := 115) dX11_acted_113 rfl rfl ?_
          refine ex_i2l (pc' := 116) dX11_acted_115 rfl ?_
          exact ex_lret dX11_acted_116 rfl (hR _ (Option.some.inj hf).symm)
set_option maxRecDepth 100000 in
set_option maxHeartbeats 4000000 in
theorem k_X11_acted (G : GX) {X : MX} (hO : shX11 X) {v1 : Int32} {v2 : Int32} {v3 : Int32}  {N : Nat} {I : MI} {L : ML} {z : Int64} (hf : f_X11_acted N v1 v2 v3 I = some z) : Con G mX11_acted yX11_acted rmX11_acted (fun B => [.ref (B + 99), .int v1, .int v2, .int v3]) X I L (some (.long z)) X I L :=
  Con.of (by decide) rfl (fun h => by cases h) (fun B => Nat.le_of_ble_eq_true rfl) (fun G => kb_X11_acted hO  hf (fun _ he => by cases he; rfl))
theorem bp_14 : (Int8.ofInt 14).toInt32 = 14 := by decide
theorem fl_X11_85 : FLD RX11 85 11 30 true := ⟨RX11, TX11, 51, rfl, inX11, by decide, lwg_at 964 (by decide +kernel) rfl, nmX11, tyX11_ok, rfl, rfl⟩
-- X11_layOrders ('RookWordsModel', 'layOrders', '(I)V')
def rmX11_layOrders : RM := ((0, 0, 0, 0), false, none)
def f_X11_layOrders_b4 (N : Nat) (v1 : Int32) (v2 : Int32) (v3 : Int32) (L : ML) : Option ((Int32 × ML) ⊕ (ML)) := (if v3 < 14 then (if v3 = 0 then if inb v3 14 then letv (upL L 124 (Int32.toNatClampNeg v3) 1) fun L4 => some (.inl (v3 + 1, L4)) else none else if inb v3 14 then letv (upL L 124 (Int32.toNatClampNeg v3) 0) fun L6 => some (.inl (v3 + 1, L6)) else none) else some (.inr L))
set_option maxRecDepth 100000 in
set_option maxHeartbeats 4000000 in
theorem k_X11_layOrders_b4 {G : GX} {Q : State → Prop} {X : MX} (hO : shX11 X) {v1 : Int32} {v2 : Int32}  {v3 : Int32} {N : Nat} {I : MI} {L : ML} {out : (Int32 × ML) ⊕ (ML)} (hf : f_X11_layOrders_b4 N v1 v2 v3 L = some out) (hC : ∀ (v3' : Int32) (L' : ML), out = .inl (v3', L') → Ex G mX11_layOrders rmX11_layOrders Q (0, 0) X I L' 4 [(0, .ref (gB G + 99)), (1, .int v1), (2, .int v2), (3, .int v3')] []) (hX : ∀ (L' : ML), out = .inr L' → Ex G mX11_layOrders rmX11_layOrders Q (0, 0) X I L' 31 [(0, .ref (gB G + 99)), (1, .int v1), (2, .int v2)] []) : Ex G mX11_layOrders rmX11_layOrders Q (0, 0) X I L 4 [(0, .ref (gB G + 99)), (1, .int v1), (2, .int v2), (3, .int v3)] [] := by
  unfold f_X11_layOrders_b4 at hf
  refine ex_iload_n 3 (pc' := 5) dX11_layOrders_4 rfl rfl rfl ?_
  refine ex_bipush (v := 14) (pc' := 7) dX11_layOrders_5 bp_14 rfl ?_
  refine ex_icmpge (tgt := 31) (pc' := 10) dX11_layOrders_7 (by decide) rfl (fun hc1 => ?_) (fun hc1 => ?_)
  · replace hf := if_t hc1 hf
    refine ex_aload_n 0 (pc' := 11) dX11_layOrders_10 rfl rfl rfl ?_
    refine ex_getR (pc' := 14) dX11_layOrders_11 fl_X11_85 rfl (sh11_k hO) (sh11_F30 hO) rfl ?_
    refine ex_iload_n 3 (pc' := 15) dX11_layOrders_14 rfl rfl rfl ?_
    refine ex_iload_n 3 (pc' := 16) dX11_layOrders_15 rfl rfl rfl ?_
    refine ex_ifne (tgt := 23) (pc' := 19) dX11_layOrders_16 (by decide) rfl (fun hc2 => ?_) (fun hc2 => ?_)
    · replace hf := if_t hc2 hf
      refine ex_lconst (v := 1) (pc' := 20) dX11_layOrders_19 lc_1 rfl ?_
      refine ex_goto (tgt := 24) dX11_layOrders_20 (by decide) ?_
      obtain ⟨hg3, hf⟩ := of_guard hf
      refine ex_last (pc' := 25) dX11_layOrders_24 (sh11_T30 hO) (inb_in hg3) rfl ?_
      obtain ⟨L4, hL4, hf⟩ := of_let hf
      rw [← hL4]
      refine ex_iincc (lv' := [(3, .int (v3 + 1)), (0, .ref (gB G + 99)), (1, .int v1), (2, .int v2)]) 3 (pc' := 28) dX11_layOrders_25 rfl ic_1 (Nat.le_of_ble_eq_true rfl) rfl rfl ?_
      refine ex_goto (tgt := 4) dX11_layOrders_28 (by decide) ?_
      exact ex_sub [1, 2, 3, 0] rfl (hC _ _ (Option.some.inj hf).symm)
    · replace hf := if_f hc2 hf
      refine ex_lconst (v := 0) (pc' := 24) dX11_layOrders_23 lc_0 rfl ?_
      obtain ⟨hg5, hf⟩ := of_guard hf
      refine ex_last (pc' := 25) dX11_layOrders_24 (sh11_T30 hO) (inb_in hg5) rfl ?_
      obtain ⟨L6, hL6, hf⟩ := of_let hf
      rw [← hL6]
      refine ex_iincc (lv' := [(3, .int (v3 + 1)), (0, .ref (gB G + 99)), (1, .int v1), (2, .int v2)]) 3 (pc' := 28) dX11_layOrders_25 rfl ic_1 (Nat.le_of_ble_eq_true rfl) rfl rfl ?_
      refine ex_goto (tgt := 4) dX11_layOrders_28 (by decide) ?_
      exact ex_sub [1, 2, 3, 0] rfl (hC _ _ (Option.some.inj hf).symm)
  · replace hf := if_f hc1 hf
    exact ex_sub [0, 1, 2] rfl (hX _ (Option.some.inj hf).symm)
def f_X11_layOrders_l4 (N : Nat) (v1 : Int32) (v2 : Int32) (v3 : Int32) (L : ML) : Option (ML) := loopN (fun s => f_X11_layOrders_b4 N v1 v2 s.1 s.2) N (v3, L)
set_option maxRecDepth 100000 in
set_option maxHeartbeats 4000000 in
theorem k_X11_layOrders_l4 {G : GX} {Q : State → Prop} {X : MX} (hO : shX11 X) {v1 : Int32} {v2 : Int32}  {N0 : Nat} {I : MI} {out : (ML)} (hX : ∀ (L' : ML), out = L' → Ex G mX11_layOrders rmX11_layOrders Q (0, 0) X I L' 31 [(0, .ref (gB G + 99)), (1, .int v1), (2, .int v2)] []) : ∀ (N : Nat) (v3 : Int32) (L : ML), loopN (fun s => f_X11_layOrders_b4 N0 v1 v2 s.1 s.2) N (v3, L) = some out → Ex G mX11_layOrders rmX11_layOrders Q (0, 0) X I L 4 [(0, .ref (gB G + 99)), (1, .int v1), (2, .int v2), (3, .int v3)] [] := by
  intro N
  induction N with
  | zero => intro v3 L hf; exact absurd (loopN_zero hf) id
  | succ n ih =>
    intro v3 L hf
    rcases loopN_succ hf with ⟨s, hb, hl⟩ | hb
    · obtain ⟨v3', L'⟩ := s
      refine k_X11_layOrders_b4 hO  hb (fun _ _ he => ?_) (fun _ he => by cases he)
      cases he
      exact ih v3' L' hl
    · exact k_X11_layOrders_b4 hO  hb (fun _ _ he => by cases he) (fun x0 he => hX x0 (Sum.inr.inj he))
def f_X11_layOrders_b68 (N : Nat) (v1 : Int32) (v2 : Int32) (v3 : Int32) (v4 : Int32) (L : ML) : Option ((Int32 × ML) ⊕ (ML)) := (if v4 < 0 then some (.inr L) else if inb (v4 + 1) 14 then (if v4 < v2 then if inb v4 14 then if inb (v4 + 1) 14 then letv (upL L 124 (Int32.toNatClampNeg (v4 + 1)) ((L 124 (Int32.toNatClampNeg (v4 + 1))) + ((L 124 (Int32.toNatClampNeg v4)) * (Int32.toInt64 (v2 - v4))))) fun L18 => some (.inl (v4 + (-1), L18)) else none else none else if inb (v4 + 1) 14 then letv (upL L 124 (Int32.toNatClampNeg (v4 + 1)) ((L 124 (Int32.toNatClampNeg (v4 + 1))) + 0)) fun L20 => some (.inl (v4 + (-1), L20)) else none) else none)
set_option maxRecDepth 100000 in
set_option maxHeartbeats 4000000 in
theorem k_X11_layOrders_b68 {G : GX} {Q : State → Prop} {X : MX} (hO : shX11 X) {v1 : Int32} {v2 : Int32} {v3 : Int32}  {v4 : Int32} {N : Nat} {I : MI} {L : ML} {out : (Int32 × ML) ⊕ (ML)} (hf : f_X11_layOrders_b68 N v1 v2 v3 v4 L = some out) (hC : ∀ (v4' : Int32) (L' : ML), out = .inl (v4', L') → Ex G mX11_layOrders rmX11_layOrders Q (0, 0) X I L' 68 [(0, .ref (gB G + 99)), (1, .int v1), (2, .int v2), (3, .int v3), (4, .int v4')] []) (hX : ∀ (L' : ML), out = .inr L' → Ex G mX11_layOrders rmX11_layOrders Q (0, 0) X I L' 114 [(0, .ref (gB G + 99)), (1, .int v1), (2, .int v2), (3, .int v3)] []) : Ex G mX11_layOrders rmX11_layOrders Q (0, 0) X I L 68 [(0, .ref (gB G + 99)), (1, .int v1), (2, .int v2), (3, .int v3), (4, .int v4)] [] := by
  unfold f_X11_layOrders_b68 at hf
  refine ex_iload 4 (pc' := 70) dX11_layOrders_68 rfl rfl ?_
  refine ex_iflt (tgt := 114) (pc' := 73) dX11_layOrders_70 (by decide) rfl (fun hc13 => ?_) (fun hc13 => ?_)
  · replace hf := if_t hc13 hf
    exact ex_sub [0, 1, 2, 3] rfl (hX _ (Option.some.inj hf).symm)
  · replace hf := if_f hc13 hf
    refine ex_aload_n 0 (pc' := 74) dX11_layOrders_73 rfl rfl rfl ?_
    refine ex_getR (pc' := 77) dX11_layOrders_74 fl_X11_85 rfl (sh11_k hO) (sh11_F30 hO) rfl ?_
    refine ex_iload 4 (pc' := 79) dX11_layOrders_77 rfl rfl ?_
    refine ex_iconst (v := 1) (pc' := 80) dX11_layOrders_79 ic_1 rfl ?_
    refine ex_iadd (pc' := 81) dX11_layOrders_80 rfl ?_
    refine ex_dup2 (pc' := 82) dX11_layOrders_81 rfl rfl rfl ?_
    obtain ⟨hg14, hf⟩ := of_guard hf
    refine ex_lald (pc' := 83) dX11_layOrders_82 (sh11_T30 hO) (inb_in hg14) rfl ?_
    refine ex_iload 4 (pc' := 85) dX11_layOrders_83 rfl rfl ?_
    refine ex_iload_n 2 (pc' := 86) dX11_layOrders_85 rfl rfl rfl ?_
    refine ex_icmpge (tgt := 105) (pc' := 89) dX11_layOrders_86 (by decide) rfl (fun hc15 => ?_) (fun hc15 => ?_)
    · replace hf := if_t hc15 hf
      refine ex_aload_n 0 (pc' := 90) dX11_layOrders_89 rfl rfl rfl ?_
      refine ex_getR (pc' := 93) dX11_layOrders_90 fl_X11_85 rfl (sh11_k hO) (sh11_F30 hO) rfl ?_
      refine ex_iload 4 (pc' := 95) dX11_layOrders_93 rfl rfl ?_
      obtain ⟨hg16, hf⟩ := of_guard hf
      refine ex_lald (pc' := 96) dX11_layOrders_95 (sh11_T30 hO) (inb_in hg16) rfl ?_
      refine ex_iload_n 2 (pc' := 97) dX11_layOrders_96 rfl rfl rfl ?_
      refine ex_iload 4 (pc' := 99) dX11_layOrders_97 rfl rfl ?_
      refine ex_isub (pc' := 100) dX11_layOrders_99 rfl ?_
      refine ex_i2l (pc' := 101) dX11_layOrders_100 rfl ?_
      refine ex_lmul (pc' := 102) dX11_layOrders_101 rfl ?_
      refine ex_goto (tgt := 106) dX11_layOrders_102 (by decide) ?_
      refine ex_ladd (pc' := 107) dX11_layOrders_106 rfl ?_
      obtain ⟨hg17, hf⟩ := of_guard hf
      refine ex_last (pc' := 108) dX11_layOrders_107 (sh11_T30 hO) (inb_in hg17) rfl ?_
      obtain ⟨L18, hL18, hf⟩ := of_let hf
      rw [← hL18]
      refine ex_iincc (lv' := [(4, .int (v4 + (-1))), (0, .ref (gB G + 99)), (1, .int v1), (2, .int v2), (3, .int v3)]) 4 (pc' := 111) dX11_layOrders_108 rfl ic_m1 (Nat.le_of_ble_eq_true rfl) rfl rfl ?_
      refine ex_goto (tgt := 68) dX11_layOrders_111 (by decide) ?_
      exact ex_sub [1, 2, 3, 4, 0] rfl (hC _ _ (Option.some.inj hf).symm)
    · replace hf := if_f hc15 hf
      refine ex_lconst (v := 0) (pc' := 106) dX11_layOrders_105 lc_0 rfl ?_
      refine ex_ladd (pc' := 107) dX11_layOrders_106 rfl ?_
      obtain ⟨hg19, hf⟩ := of_guard hf
      refine ex_last (pc' := 108) dX11_layOrders_107 (sh11_T30 hO) (inb_in hg19) rfl ?_
      obtain ⟨L20, hL20, hf⟩ := of_let hf
      rw [← hL20]
      refine ex_iincc (lv' := [(4, .int (v4 + (-1))), (0, .ref (gB G + 99)), (1, .int v1), (2, .int v2), (3, .int v3)]) 4 (pc' := 111) dX11_layOrders_108 rfl ic_m1 (Nat.le_of_ble_eq_true rfl) rfl rfl ?_
      refine ex_goto (tgt := 68) dX11_layOrders_111 (by decide) ?_
      exact ex_sub [1, 2, 3, 4, 0] rfl (hC _ _ (Option.some.inj hf).symm)
def f_X11_layOrders_l68 (N : Nat) (v1 : Int32) (v2 : Int32) (v3 : Int32) (v4 : Int32) (L : ML) : Option (ML) := loopN (fun s => f_X11_layOrders_b68 N v1 v2 v3 s.1 s.2) N (v4, L)
set_option maxRecDepth 100000 in
set_option maxHeartbeats 4000000 in
theorem k_X11_layOrders_l68 {G : GX} {Q : State → Prop} {X : MX} (hO : shX11 X) {v1 : Int32} {v2 : Int32} {v3 : Int32}  {N0 : Nat} {I : MI} {out : (ML)} (hX : ∀ (L' : ML), out = L' → Ex G mX11_layOrders rmX11_layOrders Q (0, 0) X I L' 114 [(0, .ref (gB G + 99)), (1, .int v1), (2, .int v2), (3, .int v3)] []) : ∀ (N : Nat) (v4 : Int32) (L : ML), loopN (fun s => f_X11_layOrders_b68 N0 v1 v2 v3 s.1 s.2) N (v4, L) = some out → Ex G mX11_layOrders rmX11_layOrders Q (0, 0) X I L 68 [(0, .ref (gB G + 99)), (1, .int v1), (2, .int v2), (3, .int v3), (4, .int v4)] [] := by
  intro N
  induction N with
  | zero => intro v4 L hf; exact absurd (loopN_zero hf) id
  | succ n ih =>
    intro v4 L hf
    rcases loopN_succ hf with ⟨s, hb, hl⟩ | hb
    · obtain ⟨v4', L'⟩ := s
      refine k_X11_layOrders_b68 hO  hb (fun _ _ he => ?_) (fun _ he => by cases he)
      cases he
      exact ih v4' L' hl
    · exact k_X11_layOrders_b68 hO  hb (fun _ _ he => by cases he) (fun x0 he => hX x0 (Sum.inr.inj he))
def f_X11_layOrders_b33 (N : Nat) (v1 : Int32) (v2 : Int32) (v3 : Int32) (I : MI) (L : ML) : Option ((Int32 × Int32 × ML) ⊕ (ML)) := if inb v1 6 then (if v3 < (I 100 (Int32.toNatClampNeg v1)) then if inb ((12 * v1) + v3) 72 then (if (I 101 (Int32.toNatClampNeg ((12 * v1) + v3))) = 1 then some (.inl (v2 + 1, v3 + 1, L)) else bnd1 (f_X11_layOrders_l68 N v1 v2 v3 12 L) fun L21 => some (.inl (v2, v3 + 1, L21))) else none else some (.inr L)) else none
set_option maxRecDepth 100000 in
set_option maxHeartbeats 4000000 in
theorem k_X11_layOrders_b33 {G : GX} {Q : State → Prop} {X : MX} (hO : shX11 X) {v1 : Int32}  {v2 : Int32} {v3 : Int32} {N : Nat} {I : MI} {L : ML} {out : (Int32 × Int32 × ML) ⊕ (ML)} (hf : f_X11_layOrders_b33 N v1 v2 v3 I L = some out) (hC : ∀ (v2' : Int32) (v3' : Int32) (L' : ML), out = .inl (v2', v3', L') → Ex G mX11_layOrders rmX11_layOrders Q (0, 0) X I L' 33 [(0, .ref (gB G + 99)), (1, .int v1), (2, .int v2'), (3, .int v3')] []) (hX : ∀ (L' : ML), out = .inr L' → Ex G mX11_layOrders rmX11_layOrders Q (0, 0) X I L' 120 [] []) : Ex G mX11_layOrders rmX11_layOrders Q (0, 0) X I L 33 [(0, .ref (gB G + 99)), (1, .int v1), (2, .int v2), (3, .int v3)] [] := by
  unfold f_X11_layOrders_b33 at hf
  refine ex_iload_n 3 (pc' := 34) dX11_layOrders_33 rfl rfl rfl ?_
  refine ex_aload_n 0 (pc' := 35) dX11_layOrders_34 rfl rfl rfl ?_
  refine ex_getR (pc' := 38) dX11_layOrders_35 fl_X11_9 rfl (sh11_k hO) (sh11_F0 hO) rfl ?_
  refine ex_iload_n 1 (pc' := 39) dX11_layOrders_38 rfl rfl rfl ?_
  obtain ⟨hg9, hf⟩ := of_guard hf
  refine ex_iald (pc' := 40) dX11_layOrders_39 (sh11_T0 hO) (inb_in hg9) rfl ?_
  refine ex_icmpge (tgt := 120) (pc' := 43) dX11_layOrders_40 (by decide) rfl (fun hc10 => ?_) (fun hc10 => ?_)
  · replace hf := if_t hc10 hf
    refine ex_aload_n 0 (pc' := 44) dX11_layOrders_43 rfl rfl rfl ?_
    refine ex_getR (pc' := 47) dX11_layOrders_44 fl_X11_15 rfl (sh11_k hO) (sh11_F1 hO) rfl ?_
    refine ex_bipush (v := 12) (pc' := 49) dX11_layOrders_47 bp_12 rfl ?_
    refine ex_iload_n 1 (pc' := 50) dX11_layOrders_49 rfl rfl rfl ?_
    refine ex_imul (pc' := 51) dX11_layOrders_50 rfl ?_
    refine ex_iload_n 3 (pc' := 52) dX11_layOrders_51 rfl rfl rfl ?_
    refine ex_iadd (pc' := 53) dX11_layOrders_52 rfl ?_
    obtain ⟨hg11, hf⟩ := of_guard hf
    refine ex_iald (pc' := 54) dX11_layOrders_53 (sh11_T1 hO) (inb_in hg11) rfl ?_
    refine ex_iconst (v := 1) (pc' := 55) dX11_layOrders_54 ic_1 rfl ?_
    refine ex_icmpne (tgt := 64) (pc' := 58) dX11_layOrders_55 (by decide) rfl (fun hc12 => ?_) (fun hc12 => ?_)
    · replace hf := if_t hc12 hf
      refine ex_iincc (lv' := [(2, .int (v2 + 1)), (0, .ref (gB G + 99)), (1, .int v1), (3, .int v3)]) 2 (pc' := 61) dX11_layOrders_58 rfl ic_1 (Nat.le_of_ble_eq_true rfl) rfl rfl ?_
      refine ex_goto (tgt := 114) dX11_layOrders_61 (by decide) ?_
      refine ex_iincc (lv' := [(3, .int (v3 + 1)), (2, .int (v2 + 1)), (0, .ref (gB G + 99)), (1, .int v1)]) 3 (pc' := 117) dX11_layOrders_114 rfl ic_1 (Nat.le_of_ble_eq_true rfl) rfl rfl ?_
      refine ex_goto (tgt := 33) dX11_layOrders_117 (by decide) ?_
      exact ex_sub [2, 3, 1, 0] rfl (hC _ _ _ (Option.some.inj hf).symm)
    · replace hf := if_f hc12 hf
      refine ex_bipush (v := 12) (pc' := 66) dX11_layOrders_64 bp_12 rfl ?_
      refine ex_istore (lv' := [(4, .int 12), (0, .ref (gB G + 99)), (1, .int v1), (2, .int v2), (3, .int v3)]) (pc' := 68) dX11_layOrders_66 (Nat.le_of_ble_eq_true rfl) rfl rfl ?_
      refine ex_sub (lv' := [(0, .ref (gB G + 99)), (1, .int v1), (2, .int v2), (3, .int v3), (4, .int 12)]) [1, 2, 3, 4, 0] rfl ?_
      obtain ⟨L21, hq22, hf⟩ := of_bnd1 hf
      refine k_X11_layOrders_l68 hO (fun L21' he => ?_) _ _ _ hq22
      cases he
      refine ex_iincc (lv' := [(3, .int (v3 + 1)), (0, .ref (gB G + 99)), (1, .int v1), (2, .int v2)]) 3 (pc' := 117) dX11_layOrders_114 rfl ic_1 (Nat.le_of_ble_eq_true rfl) rfl rfl ?_
      refine ex_goto (tgt := 33) dX11_layOrders_117 (by decide) ?_
      exact ex_sub [1, 2, 3, 0] rfl (hC _ _ _ (Option.some.inj hf).symm)
  · replace hf := if_f hc10 hf
    exact ex_sub [] rfl (hX _ (Option.some.inj hf).symm)
def f_X11_layOrders_l33 (N : Nat) (v1 : Int32) (v2 : Int32) (v3 : Int32) (I : MI) (L : ML) : Option (ML) := loopN (fun s => f_X11_layOrders_b33 N v1 s.1 s.2.1 I s.2.2) N (v2, v3, L)
set_option maxRecDepth 100000 in
set_option maxHeartbeats 4000000 in
theorem k_X11_layOrders_l33 {G : GX} {Q : State → Prop} {X : MX} (hO : shX11 X) {v1 : Int32}  {N0 : Nat} {I : MI} {out : (ML)} (hX : ∀ (L' : ML), out = L' → Ex G mX11_layOrders rmX11_layOrders Q (0, 0) X I L' 120 [] []) : ∀ (N : Nat) (v2 : Int32) (v3 : Int32) (L : ML), loopN (fun s => f_X11_layOrders_b33 N0 v1 s.1 s.2.1 I s.2.2) N (v2, v3, L) = some out → Ex G mX11_layOrders rmX11_layOrders Q (0, 0) X I L 33 [(0, .ref (gB G + 99)), (1, .int v1), (2, .int v2), (3, .int v3)] [] := by
  intro N
  induction N with
  | zero => intro v2 v3 L hf; exact absurd (loopN_zero hf) id
  | succ n ih =>
    intro v2 v3 L hf
    rcases loopN_succ hf with ⟨s, hb, hl⟩ | hb
    · obtain ⟨v2', v3', L'⟩ := s
      refine k_X11_layOrders_b33 hO  hb (fun _ _ _ he => ?_) (fun _ he => by cases he)
      cases he
      exact ih v2' v3' L' hl
    · exact k_X11_layOrders_b33 hO  hb (fun _ _ _ he => by cases he) (fun x0 he => hX x0 (Sum.inr.inj he))
def f_X11_layOrders (N : Nat) (v1 : Int32) (I : MI) (L : ML) : Option (ML) := bnd1 (f_X11_layOrders_l4 N v1 0 0 L) fun L7 => bnd1 (f_X11_layOrders_l33 N v1 0 0 I L7) fun L23 => some L23
set_option maxRecDepth 100000 in
set_option maxHeartbeats 4000000 in
theorem kb_X11_layOrders {G : GX} {Q : State → Prop} {X : MX} (hO : shX11 X) {v1 : Int32}  {N : Nat} {I : MI} {L : ML} {out : ML} (hf : f_X11_layOrders N v1 I L = some out) (hR : ∀ (L' : ML), out = L' → Q = RetQ G none X I L' (0, 0)) : Ex G mX11_layOrders rmX11_layOrders Q (0, 0) X I L 0 [(0, .ref (gB G + 99)), (1, .int v1)] [] := by
  unfold f_X11_layOrders at hf
  refine ex_iconst (v := 0) (pc' := 1) dX11_layOrders_0 ic_0 rfl ?_
  refine ex_istore_n (lv' := [(2, .int 0), (0, .ref (gB G + 99)), (1, .int v1)]) (pc' := 2) dX11_layOrders_1 rfl (Nat.le_of_ble_eq_true rfl) rfl rfl ?_
  refine ex_iconst (v := 0) (pc' := 3) dX11_layOrders_2 ic_0 rfl ?_
  refine ex_istore_n (lv' := [(3, .int 0), (2, .int 0), (0, .ref (gB G + 99)), (1, .int v1)]) (pc' := 4) dX11_layOrders_3 rfl (Nat.le_of_ble_eq_true rfl) rfl rfl ?_
  refine ex_sub (lv' := [(0, .ref (gB G + 99)), (1, .int v1), (2, .int 0), (3, .int 0)]) [2, 3, 1, 0] rfl ?_
  obtain ⟨L7, hq8, hf⟩ := of_bnd1 hf
  refine k_X11_layOrders_l4 hO (fun L7' he => ?_) _ _ _ hq8
  cases he
  refine ex_iconst (v := 0) (pc' := 32) dX11_layOrders_31 ic_0 rfl ?_
  refine ex_istore_n (lv' := [(3, .int 0), (0, .ref (gB G + 99)), (1, .int v1), (2, .int 0)]) (pc' := 33) dX11_layOrders_32 rfl (Nat.le_of_ble_eq_true rfl) rfl rfl ?_
  refine ex_sub (lv' := [(0, .ref (gB G + 99)), (1, .int v1), (2, .int 0), (3, .int 0)]) [1, 2, 3, 0] rfl ?_
  obtain ⟨L23, hq24, hf⟩ := of_bnd1 hf
  refine k_X11_layOrders_l33 hO (fun L23' he => ?_) _ _ _ _ hq24
  cases he
  exact ex_vret dX11_layOrders_120 rfl (hR _ (Option.some.inj hf).symm)
set_option maxRecDepth 100000 in
set_option maxHeartbeats 4000000 in
theorem k_X11_layOrders (G : GX) {X : MX} (hO : shX11 X) {v1 : Int32}  {N : Nat} {I : MI} {L : ML} {L' : ML} (hf : f_X11_layOrders N v1 I L = some L') : Con G mX11_layOrders yX11_layOrders rmX11_layOrders (fun B => [.ref (B + 99), .int v1]) X I L none X I L' :=
  Con.of (by decide) rfl (fun h => by cases h) (fun B => Nat.le_of_ble_eq_true rfl) (fun G => kb_X11_layOrders hO  hf (fun _ he => by cases he; rfl))
-- X11_lettersU ('RookWordsModel', 'lettersU', '(I)I')
def rmX11_lettersU : RM := ((0, 0, 0, 0), false, (some FieldType.int))
def f_X11_lettersU_b4 (N : Nat) (v1 : Int32) (v2 : Int32) (v3 : Int32) (I : MI) : Option ((Int32 × Int32) ⊕ (Int32)) := if inb v1 6 then (if v3 < (I 100 (Int32.toNatClampNeg v1)) then if inb ((12 * v1) + v3) 72 then (if (I 101 (Int32.toNatClampNeg ((12 * v1) + v3))) = 0 then some (.inl (v2 + 1, v3 + 1)) else some (.inl (v2 + 0, v3 + 1))) else none else some (.inr v2)) else none
set_option maxRecDepth 100000 in
set_option maxHeartbeats 4000000 in
theorem k_X11_lettersU_b4 {G : GX} {Q : State → Prop} {X : MX} (hO : shX11 X) {v1 : Int32}  {v2 : Int32} {v3 : Int32} {N : Nat} {I : MI} {L : ML} {out : (Int32 × Int32) ⊕ (Int32)} (hf : f_X11_lettersU_b4 N v1 v2 v3 I = some out) (hC : ∀ (v2' : Int32) (v3' : Int32), out = .inl (v2', v3') → Ex G mX11_lettersU rmX11_lettersU Q (0, 0) X I L 4 [(0, .ref (gB G + 99)), (1, .int v1), (2, .int v2'), (3, .int v3')] []) (hX : ∀ (w2 : Int32), out = .inr w2 → Ex G mX11_lettersU rmX11_lettersU Q (0, 0) X I L 42 [(2, .int w2)] []) : Ex G mX11_lettersU rmX11_lettersU Q (0, 0) X I L 4 [(0, .ref (gB G + 99)), (1, .int v1), (2, .int v2), (3, .int v3)] [] := by
  unfold f_X11_lettersU_b4 at hf
  refine ex_iload_n 3 (pc' := 5) dX11_lettersU_4 rfl rfl rfl ?_
  refine ex_aload_n 0 (pc' := 6) dX11_lettersU_5 rfl rfl rfl ?_
  refine ex_getR (pc' := 9) dX11_lettersU_6 fl_X11_9 rfl (sh11_k hO) (sh11_F0 hO) rfl ?_
  refine ex_iload_n 1 (pc' := 10) dX11_lettersU_9 rfl rfl rfl ?_
  obtain ⟨hg1, hf⟩ := of_guard hf
  refine ex_iald (pc' := 11) dX11_lettersU_10 (sh11_T0 hO) (inb_in hg1) rfl ?_
  refine ex_icmpge (tgt := 42) (pc' := 14) dX11_lettersU_11 (by decide) rfl (fun hc2 => ?_) (fun hc2 => ?_)
  · replace hf := if_t hc2 hf
    refine ex_iload_n 2 (pc' := 15) dX11_lettersU_14 rfl rfl rfl ?_
    refine ex_aload_n 0 (pc' := 16) dX11_lettersU_15 rfl rfl rfl ?_
    refine ex_getR (pc' := 19) dX11_lettersU_16 fl_X11_15 rfl (sh11_k hO) (sh11_F1 hO) rfl ?_
    refine ex_bipush (v := 12) (pc' := 21) dX11_lettersU_19 bp_12 rfl ?_
    refine ex_iload_n 1 (pc' := 22) dX11_lettersU_21 rfl rfl rfl ?_
    refine ex_imul (pc' := 23) dX11_lettersU_22 rfl ?_
    refine ex_iload_n 3 (pc' := 24) dX11_lettersU_23 rfl rfl rfl ?_
    refine ex_iadd (pc' := 25) dX11_lettersU_24 rfl ?_
    obtain ⟨hg3, hf⟩ := of_guard hf
    refine ex_iald (pc' := 26) dX11_lettersU_25 (sh11_T1 hO) (inb_in hg3) rfl ?_
    refine ex_ifne (tgt := 33) (pc' := 29) dX11_lettersU_26 (by decide) rfl (fun hc4 => ?_) (fun hc4 => ?_)
    · replace hf := if_t hc4 hf
      refine ex_iconst (v := 1) (pc' := 30) dX11_lettersU_29 ic_1 rfl ?_
      refine ex_goto (tgt := 34) dX11_lettersU_30 (by decide) ?_
      refine ex_iadd (pc' := 35) dX11_lettersU_34 rfl ?_
      refine ex_istore_n (lv' := [(2, .int (v2 + 1)), (0, .ref (gB G + 99)), (1, .int v1), (3, .int v3)]) (pc' := 36) dX11_lettersU_35 rfl (Nat.le_of_ble_eq_true rfl) rfl rfl ?_
      refine ex_iincc (lv' := [(3, .int (v3 + 1)), (2, .int (v2 + 1)), (0, .ref (gB G + 99)), (1, .int v1)]) 3 (pc' := 39) dX11_lettersU_36 rfl ic_1 (Nat.le_of_ble_eq_true rfl) rfl rfl ?_
      refine ex_goto (tgt := 4) dX11_lettersU_39 (by decide) ?_
      exact ex_sub [2, 3, 1, 0] rfl (hC _ _ (Option.some.inj hf).symm)
    · replace hf := if_f hc4 hf
      refine ex_iconst (v := 0) (pc' := 34) dX11_lettersU_33 ic_0 rfl ?_
      refine ex_iadd (pc' := 35) dX11_lettersU_34 rfl ?_
      refine ex_istore_n (lv' := [(2, .int (v2 + 0)), (0, .ref (gB G + 99)), (1, .int v1), (3, .int v3)]) (pc' := 36) dX11_lettersU_35 rfl (Nat.le_of_ble_eq_true rfl) rfl rfl ?_
      refine ex_iincc (lv' := [(3, .int (v3 + 1)), (2, .int (v2 + 0)), (0, .ref (gB G + 99)), (1, .int v1)]) 3 (pc' := 39) dX11_lettersU_36 rfl ic_1 (Nat.le_of_ble_eq_true rfl) rfl rfl ?_
      refine ex_goto (tgt := 4) dX11_lettersU_39 (by decide) ?_
      exact ex_sub [2, 3, 1, 0] rfl (hC _ _ (Option.some.inj hf).symm)
  · replace hf := if_f hc2 hf
    exact ex_sub [2] rfl (hX _ (Option.some.inj hf).symm)
def f_X11_lettersU_l4 (N : Nat) (v1 : Int32) (v2 : Int32) (v3 : Int32) (I : MI) : Option (Int32) := loopN (fun s => f_X11_lettersU_b4 N v1 s.1 s.2 I) N (v2, v3)
set_option maxRecDepth 100000 in
set_option maxHeartbeats 4000000 in
theorem k_X11_lettersU_l4 {G : GX} {Q : State → Prop} {X : MX} (hO : shX11 X) {v1 : Int32}  {N0 : Nat} {I : MI} {L : ML} {out : (Int32)} (hX : ∀ (w2 : Int32), out = w2 → Ex G mX11_lettersU rmX11_lettersU Q (0, 0) X I L 42 [(2, .int w2)] []) : ∀ (N : Nat) (v2 : Int32) (v3 : Int32), loopN (fun s => f_X11_lettersU_b4 N0 v1 s.1 s.2 I) N (v2, v3) = some out → Ex G mX11_lettersU rmX11_lettersU Q (0, 0) X I L 4 [(0, .ref (gB G + 99)), (1, .int v1), (2, .int v2), (3, .int v3)] [] := by
  intro N
  induction N with
  | zero => intro v2 v3 hf; exact absurd (loopN_zero hf) id
  | succ n ih =>
    intro v2 v3 hf
    rcases loopN_succ hf with ⟨s, hb, hl⟩ | hb
    · obtain ⟨v2', v3'⟩ := s
      refine k_X11_lettersU_b4 hO  hb (fun _ _ he => ?_) (fun _ he => by cases he)
      cases he
      exact ih v2' v3' hl
    · exact k_X11_lettersU_b4 hO  hb (fun _ _ he => by cases he) (fun x0 he => hX x0 (Sum.inr.inj he))
def f_X11_lettersU (N : Nat) (v1 : Int32) (I : MI) : Option (Int32) := bnd1 (f_X11_lettersU_l4 N v1 0 0 I) fun x5 => some x5
set_option maxRecDepth 100000 in
set_option maxHeartbeats 4000000 in
theorem kb_X11_lettersU {G : GX} {Q : State → Prop} {X : MX} (hO : shX11 X) {v1 : Int32}  {N : Nat} {I : MI} {L : ML} {out : Int32} (hf : f_X11_lettersU N v1 I = some out) (hR : ∀ (z : Int32), out = z → Q = RetQ G (some (.int z)) X I L (0, 0)) : Ex G mX11_lettersU rmX11_lettersU Q (0, 0) X I L 0 [(0, .ref (gB G + 99)), (1, .int v1)] [] := by
  unfold f_X11_lettersU at hf
  refine ex_iconst (v := 0) (pc' := 1) dX11_lettersU_0 ic_0 rfl ?_
  refine ex_istore_n (lv' := [(2, .int 0), (0, .ref (gB G + 99)), (1, .int v1)]) (pc' := 2) dX11_lettersU_1 rfl (Nat.le_of_ble_eq_true rfl) rfl rfl ?_
  refine ex_iconst (v := 0) (pc' := 3) dX11_lettersU_2 ic_0 rfl ?_
  refine ex_istore_n (lv' := [(3, .int 0), (2, .int 0), (0, .ref (gB G + 99)), (1, .int v1)]) (pc' := 4) dX11_lettersU_3 rfl (Nat.le_of_ble_eq_true rfl) rfl rfl ?_
  refine ex_sub (lv' := [(0, .ref (gB G + 99)), (1, .int v1), (2, .int 0), (3, .int 0)]) [2, 3, 1, 0] rfl ?_
  obtain ⟨x5, hq6, hf⟩ := of_bnd1 hf
  refine k_X11_lettersU_l4 hO (fun x5' he => ?_) _ _ _ hq6
  cases he
  refine ex_iload_n 0 (pc' := 43) dX11_lettersU_42 rfl rfl rfl ?_
  exact ex_iret dX11_lettersU_43 rfl (hR _ (Option.some.inj hf).symm)
set_option maxRecDepth 100000 in
set_option maxHeartbeats 4000000 in
theorem k_X11_lettersU (G : GX) {X : MX} (hO : shX11 X) {v1 : Int32}  {N : Nat} {I : MI} {L : ML} {z : Int32} (hf : f_X11_lettersU N v1 I = some z) : Con G mX11_lettersU yX11_lettersU rmX11_lettersU (fun B => [.ref (B + 99), .int v1]) X I L (some (.int z)) X I L :=
  Con.of (by decide) rfl (fun h => by cases h) (fun B => Nat.le_of_ble_eq_true rfl) (fun G => kb_X11_lettersU hO  hf (fun _ he => by cases he; rfl))
theorem sp_169 : (Int16.ofInt 169).toInt32 = 169 := by decide
theorem fl_X11_18 : FLD RX11 18 11 2 true := ⟨RX11, TX11, 51, rfl, inX11, by decide, lwg_at 936 (by decide +kernel) rfl, nmX11, tyX11_ok, rfl, rfl⟩
-- X11_numbersMany ('RookWordsModel', 'numbersMany', '()I')
def rmX11_numbersMany : RM := ((0, 0, 0, 0), false, (some FieldType.int))
def f_X11_numbersMany_b4 (N : Nat)  (v1 : Int32) (v2 : Int32) (L : ML) : Option ((Int32 × Int32) ⊕ (Int32)) := (if v2 < 169 then if inb v2 169 then (if (L 102 (Int32.toNatClampNeg v2)) = 0 then some (.inl (v1 + 0, v2 + 1)) else some (.inl (v1 + 1, v2 + 1))) else none else some (.inr v1))
set_option maxRecDepth 100000 in
set_option maxHeartbeats 4000000 in
theorem k_X11_numbersMany_b4 {G : GX} {Q : State → Prop} {X : MX} (hO : shX11 X)   {v1 : Int32} {v2 : Int32} {N : Nat} {I : MI} {L : ML} {out : (Int32 × Int32) ⊕ (Int32)} (hf : f_X11_numbersMany_b4 N v1 v2 L = some out) (hC : ∀ (v1' : Int32) (v2' : Int32), out = .inl (v1', v2') → Ex G mX11_numbersMany rmX11_numbersMany Q (0, 0) X I L 4 [(0, .ref (gB G + 99)), (1, .int v1'), (2, .int v2')] []) (hX : ∀ (w1 : Int32), out = .inr w1 → Ex G mX11_numbersMany rmX11_numbersMany Q (0, 0) X I L 36 [(1, .int w1)] []) : Ex G mX11_numbersMany rmX11_numbersMany Q (0, 0) X I L 4 [(0, .ref (gB G + 99)), (1, .int v1), (2, .int v2)] [] := by
  unfold f_X11_numbersMany_b4 at hf
  refine ex_iload_n 2 (pc' := 5) dX11_numbersMany_4 rfl rfl rfl ?_
  refine ex_sipush (v := 169) (pc' := 8) dX11_numbersMany_5 sp_169 rfl ?_
  refine ex_icmpge (tgt := 36) (pc' := 11) dX11_numbersMany_8 (by decide) rfl (fun hc1 => ?_) (fun hc1 => ?_)
  · replace hf := if_t hc1 hf
    refine ex_iload_n 1 (pc' := 12) dX11_numbersMany_11 rfl rfl rfl ?_
    refine ex_aload_n 0 (pc' := 13) dX11_numbersMany_12 rfl rfl rfl ?_
    refine ex_getR (pc' := 16) dX11_numbersMany_13 fl_X11_18 rfl (sh11_k hO) (sh11_F2 hO) rfl ?_
    refine ex_iload_n 2 (pc' := 17) dX11_numbersMany_16 rfl rfl rfl ?_
    obtain ⟨hg2, hf⟩ := of_guard hf
    refine ex_lald (pc' := 18) dX11_numbersMany_17 (sh11_T2 hO) (inb_in hg2) rfl ?_
    refine ex_lconst (v := 0) (pc' := 19) dX11_numbersMany_18 lc_0 rfl ?_
    refine ex_lcmp (pc' := 20) dX11_numbersMany_19 rfl ?_
    refine ex_lifeq (tgt := 27) (pc' := 23) dX11_numbersMany_20 (by decide) rfl (fun hc3 => ?_) (fun hc3 => ?_)
    · replace hf := if_t hc3 hf
      refine ex_iconst (v := 0) (pc' := 28) dX11_numbersMany_27 ic_0 rfl ?_
      refine ex_iadd (pc' := 29) dX11_numbersMany_28 rfl ?_
      refine ex_istore_n (lv' := [(1, .int (v1 + 0)), (0, .ref (gB G + 99)), (2, .int v2)]) (pc' := 30) dX11_numbersMany_29 rfl (Nat.le_of_ble_eq_true rfl) rfl rfl ?_
      refine ex_iincc (lv' := [(2, .int (v2 + 1)), (1, .int (v1 + 0)), (0, .ref (gB G + 99))]) 2 (pc' := 33) dX11_numbersMany_30 rfl ic_1 (Nat.le_of_ble_eq_true rfl) rfl rfl ?_
      refine ex_goto (tgt := 4) dX11_numbersMany_33 (by decide) ?_
      exact ex_sub [2, 1, 0] rfl (hC _ _ (Option.some.inj hf).symm)
    · replace hf := if_f hc3 hf
      refine ex_iconst (v := 1) (pc' := 24) dX11_numbersMany_23 ic_1 rfl ?_
      refine ex_goto (tgt := 28) dX11_numbersMany_24 (by decide) ?_
      refine ex_iadd (pc' := 29) dX11_numbersMany_28 rfl ?_
      refine ex_istore_n (lv' := [(1, .int (v1 + 1)), (0, .ref (gB G + 99)), (2, .int v2)]) (pc' := 30) dX11_numbersMany_29 rfl (Nat.le_of_ble_eq_true rfl) rfl rfl ?_
      refine ex_iincc (lv' := [(2, .int (v2 + 1)), (1, .int (v1 + 1)), (0, .ref (gB G + 99))]) 2 (pc' := 33) dX11_numbersMany_30 rfl ic_1 (Nat.le_of_ble_eq_true rfl) rfl rfl ?_
      refine ex_goto (tgt := 4) dX11_numbersMany_33 (by decide) ?_
      exact ex_sub [2, 1, 0] rfl (hC _ _ (Option.some.inj hf).symm)
  · replace hf := if_f hc1 hf
    exact ex_sub [1] rfl (hX _ (Option.some.inj hf).symm)
def f_X11_numbersMany_l4 (N : Nat)  (v1 : Int32) (v2 : Int32) (L : ML) : Option (Int32) := loopN (fun s => f_X11_numbersMany_b4 N s.1 s.2 L) N (v1, v2)
set_option maxRecDepth 100000 in
set_option maxHeartbeats 4000000 in
theorem k_X11_numbersMany_l4 {G : GX} {Q : State → Prop} {X : MX} (hO : shX11 X)   {N0 : Nat} {I : MI} {L : ML} {out : (Int32)} (hX : ∀ (w1 : Int32), out = w1 → Ex G mX11_numbersMany rmX11_numbersMany Q (0, 0) X I L 36 [(1, .int w1)] []) : ∀ (N : Nat) (v1 : Int32) (v2 : Int32), loopN (fun s => f_X11_numbersMany_b4 N0 s.1 s.2 L) N (v1, v2) = some out → Ex G mX11_numbersMany rmX11_numbersMany Q (0, 0) X I L 4 [(0, .ref (gB G + 99)), (1, .int v1), (2, .int v2)] [] := by
  intro N
  induction N with
  | zero => intro v1 v2 hf; exact absurd (loopN_zero hf) id
  | succ n ih =>
    intro v1 v2 hf
    rcases loopN_succ hf with ⟨s, hb, hl⟩ | hb
    · obtain ⟨v1', v2'⟩ := s
      refine k_X11_numbersMany_b4 hO  hb (fun _ _ he => ?_) (fun _ he => by cases he)
      cases he
      exact ih v1' v2' hl
    · exact k_X11_numbersMany_b4 hO  hb (fun _ _ he => by cases he) (fun x0 he => hX x0 (Sum.inr.inj he))
def f_X11_numbersMany (N : Nat)  (L : ML) : Option (Int32) := bnd1 (f_X11_numbersMany_l4 N 0 0 L) fun x4 => some x4
set_option maxRecDepth 100000 in
set_option maxHeartbeats 4000000 in
theorem kb_X11_numbersMany {G : GX} {Q : State → Prop} {X : MX} (hO : shX11 X)   {N : Nat} {I : MI} {L : ML} {out : Int32} (hf : f_X11_numbersMany N L = some out) (hR : ∀ (z : Int32), out = z → Q = RetQ G (some (.int z)) X I L (0, 0)) : Ex G mX11_numbersMany rmX11_numbersMany Q (0, 0) X I L 0 [(0, .ref (gB G + 99))] [] := by
  unfold f_X11_numbersMany at hf
  refine ex_iconst (v := 0) (pc' := 1) dX11_numbersMany_0 ic_0 rfl ?_
  refine ex_istore_n (lv' := [(1, .int 0), (0, .ref (gB G + 99))]) (pc' := 2) dX11_numbersMany_1 rfl (Nat.le_of_ble_eq_true rfl) rfl rfl ?_
  refine ex_iconst (v := 0) (pc' := 3) dX11_numbersMany_2 ic_0 rfl ?_
  refine ex_istore_n (lv' := [(2, .int 0), (1, .int 0), (0, .ref (gB G + 99))]) (pc' := 4) dX11_numbersMany_3 rfl (Nat.le_of_ble_eq_true rfl) rfl rfl ?_
  refine ex_sub (lv' := [(0, .ref (gB G + 99)), (1, .int 0), (2, .int 0)]) [2, 1, 0] rfl ?_
  obtain ⟨x4, hq5, hf⟩ := of_bnd1 hf
  refine k_X11_numbersMany_l4 hO (fun x4' he => ?_) _ _ _ hq5
  cases he
  refine ex_iload_n 0 (pc' := 37) dX11_numbersMany_36 rfl rfl rfl ?_
  exact ex_iret dX11_numbersMany_37 rfl (hR _ (Option.some.inj hf).symm)
set_option maxRecDepth 100000 in
set_option maxHeartbeats 4000000 in
theorem k_X11_numbersMany (G : GX) {X : MX} (hO : shX11 X)   {N : Nat} {I : MI} {L : ML} {z : Int32} (hf : f_X11_numbersMany N L = some z) : Con G mX11_numbersMany yX11_numbersMany rmX11_numbersMany (fun B => [.ref (B + 99)]) X I L (some (.int z)) X I L :=
  Con.of (by decide) rfl (fun h => by cases h) (fun B => Nat.le_of_ble_eq_true rfl) (fun G => kb_X11_numbersMany hO  hf (fun _ he => by cases he; rfl))
theorem co_X11_159 : Cond.constantLong RX11 159 (-99) ∈ lwg := lwg_at 1154 (by decide +kernel) rfl
theorem co_X11_161 : Cond.constantLong RX11 161 (99) ∈ lwg := lwg_at 1155 (by decide +kernel) rfl
theorem cl_X11_151 : CLV RX11 151 yX11_layOrders mX11_layOrders none 1 := ⟨⟨lwg_at 1138 (by decide +kernel) rfl, lwg_at 1140 (by decide +kernel) rfl, lwg_at 21 (by decide +kernel) rfl, lwg_at 61 (by decide +kernel) rfl⟩, lwg_at 1141 (by decide +kernel) rfl, ⟨by decide +kernel, by decide +kernel, by decide +kernel⟩⟩
theorem cl_X11_143 : CLV RX11 143 yX11_lettersU mX11_lettersU (some FieldType.int) 1 := ⟨⟨lwg_at 1124 (by decide +kernel) rfl, lwg_at 1126 (by decide +kernel) rfl, lwg_at 20 (by decide +kernel) rfl, lwg_at 61 (by decide +kernel) rfl⟩, lwg_at 1127 (by decide +kernel) rfl, ⟨by decide +kernel, by decide +kernel, by decide +kernel⟩⟩
theorem co_X11_163 : Cond.constantLong RX11 163 (-1000000000000000) ∈ lwg := lwg_at 1156 (by decide +kernel) rfl
theorem co_X11_165 : Cond.constantLong RX11 165 (1000000000000000) ∈ lwg := lwg_at 1157 (by decide +kernel) rfl
theorem cl_X11_155 : CLV RX11 155 yX11_numbersMany mX11_numbersMany (some FieldType.int) 0 := ⟨⟨lwg_at 1146 (by decide +kernel) rfl, lwg_at 1148 (by decide +kernel) rfl, lwg_at 22 (by decide +kernel) rfl, lwg_at 61 (by decide +kernel) rfl⟩, lwg_at 1149 (by decide +kernel) rfl, ⟨by decide +kernel, by decide +kernel, by decide +kernel⟩⟩
-- X11_add ('RookWordsModel', 'add', '(II)I')
def rmX11_add : RM := ((2, 45, 0, 0), false, (some FieldType.int))
def f_X11_add_b50 (N : Nat) (v2 : Int32) (v3 : Int32) (v4 : Int32) (v5 : Int32) (L : ML) : Option ((Int32) ⊕ ((Unit) ⊕ (Int32 × ML))) := (if v3 < v5 then some (.inr (.inl ())) else (if v4 < v5 then some (.inr (.inl ())) else if inb (((13 * (v3 - v5)) + v4) - v5) 169 then if inb v5 14 then bnd1 (f_X11_in ((L 102 (Int32.toNatClampNeg (((13 * (v3 - v5)) + v4) - v5))) + ((Int32.toInt64 v2) * (L 124 (Int32.toNatClampNeg v5)))) (-1000000000000000) 1000000000000000) fun r17 => (if r17 = 0 then some (.inr (.inr ((-6), L))) else some (.inl (v5 + 1))) else none else none))
set_option maxRecDepth 100000 in
set_option maxHeartbeats 4000000 in
theorem k_X11_add_b50 {G : GX} {Q : State → Prop} {X : MX} (hO : shX11 X) {v2 : Int32} {v3 : Int32} {v4 : Int32}  {v5 : Int32} {N : Nat} {I : MI} {L : ML} {out : (Int32) ⊕ ((Unit) ⊕ (Int32 × ML))} (hf : f_X11_add_b50 N v2 v3 v4 v5 L = some out) (hC : ∀ (v5' : Int32), out = .inl v5' → Ex G mX11_add rmX11_add Q (0, 0) X I L 50 [(0, .ref (gB G + 99)), (2, .int v2), (3, .int v3), (4, .int v4), (5, .int v5')] []) (hX : ∀ (u : Unit), out = .inr (.inl u) → Ex G mX11_add rmX11_add Q (0, 0) X I L 113 [(0, .ref (gB G + 99)), (2, .int v2), (3, .int v3), (4, .int v4)] []) (hR : ∀ (z : Int32) (L' : ML), out = .inr (.inr (z, L')) → Q = RetQ G (some (.int z)) X I L' (0, 0)) : Ex G mX11_add rmX11_add Q (0, 0) X I L 50 [(0, .ref (gB G + 99)), (2, .int v2), (3, .int v3), (4, .int v4), (5, .int v5)] [] := by
  unfold f_X11_add_b50 at hf
  refine ex_iload 4 (pc' := 52) dX11_add_50 rfl rfl ?_
  refine ex_iload_n 2 (pc' := 53) dX11_add_52 rfl rfl rfl ?_
  refine ex_icmpgt (tgt := 113) (pc' := 56) dX11_add_53 (by decide) rfl (fun hc13 => ?_) (fun hc13 => ?_)
  · replace hf := if_t hc13 hf
    exact ex_sub [0, 1, 2, 3] rfl (hX _ (Option.some.inj hf).symm)
  · replace hf := if_f hc13 hf
    refine ex_iload 4 (pc' := 58) dX11_add_56 rfl rfl ?_
    refine ex_iload 3 (pc' := 60) dX11_add_58 rfl rfl ?_
    refine ex_icmpgt (tgt := 113) (pc' := 63) dX11_add_60 (by decide) rfl (fun hc14 => ?_) (fun hc14 => ?_)
    · replace hf := if_t hc14 hf
      exact ex_sub [0, 1, 2, 3] rfl (hX _ (Option.some.inj hf).symm)
    · replace hf := if_f hc14 hf
      refine ex_aload_n 0 (pc' := 64) dX11_add_63 rfl rfl rfl ?_
      refine ex_getR (pc' := 67) dX11_add_64 fl_X11_18 rfl (sh11_k hO) (sh11_F2 hO) rfl ?_
      refine ex_bipush (v := 13) (pc' := 69) dX11_add_67 bp_13 rfl ?_
      refine ex_iload_n 2 (pc' := 70) dX11_add_69 rfl rfl rfl ?_
      refine ex_iload 4 (pc' := 72) dX11_add_70 rfl rfl ?_
      refine ex_isub (pc' := 73) dX11_add_72 rfl ?_
      refine ex_imul (pc' := 74) dX11_add_73 rfl ?_
      refine ex_iload 3 (pc' := 76) dX11_add_74 rfl rfl ?_
      refine ex_iadd (pc' := 77) dX11_add_76 rfl ?_
      refine ex_iload 4 (pc' := 79) dX11_add_77 rfl rfl ?_
      refine ex_isub (pc' := 80) dX11_add_79 rfl ?_
      obtain ⟨hg15, hf⟩ := of_guard hf
      refine ex_lald (pc' := 81) dX11_add_80 (sh11_T2 hO) (inb_in hg15) rfl ?_
      refine ex_iload_n 1 (pc' := 82) dX11_add_81 rfl rfl rfl ?_
      refine ex_i2l (pc' := 83) dX11_add_82 rfl ?_
      refine ex_aload_n 0 (pc' := 84) dX11_add_83 rfl rfl rfl ?_
      refine ex_getR (pc' := 87) dX11_add_84 fl_X11_85 rfl (sh11_k hO) (sh11_F30 hO) rfl ?_
      refine ex_iload 4 (pc' := 89) dX11_add_87 rfl rfl ?_
      obtain ⟨hg16, hf⟩ := of_guard hf
      refine ex_lald (pc' := 90) dX11_add_89 (sh11_T30 hO) (inb_in hg16) rfl ?_
      refine ex_lmul (pc' := 91) dX11_add_90 rfl ?_
      refine ex_ladd (pc' := 92) dX11_add_91 rfl ?_
      refine ex_ldc2 (v := (-1000000000000000)) (pc' := 95) dX11_add_92 co_X11_163 rfl ?_
      refine ex_ldc2 (v := 1000000000000000) (pc' := 98) dX11_add_95 co_X11_165 rfl ?_
      obtain ⟨r17, hq18, hf⟩ := of_bnd1 hf
      refine ex_callS_i (rm' := rmX11_in) (st := []) (pc' := 101) [.long ((L 102 (Int32.toNatClampNeg (((13 * (v3 - v5)) + v4) - v5))) + ((Int32.toInt64 v2) * (L 124 (Int32.toNatClampNeg v5)))), .long (-1000000000000000), .long 1000000000000000] dX11_add_98 cl_X11_129 (k_X11_in G hq18) rfl rfl rfl (ROOM_of rfl) (Nat.le_of_ble_eq_true rfl) rfl rfl ?_
      refine ex_ifne (tgt := 107) (pc' := 104) dX11_add_101 (by decide) rfl (fun hc19 => ?_) (fun hc19 => ?_)
      · replace hf := if_t hc19 hf
        refine ex_bipush (v := (-6)) (pc' := 106) dX11_add_104 bp_m6 rfl ?_
        exact ex_iret dX11_add_106 rfl (hR _ _ (Option.some.inj hf).symm)
      · replace hf := if_f hc19 hf
        refine ex_iincc (lv' := [(5, .int (v5 + 1)), (0, .ref (gB G + 99)), (2, .int v2), (3, .int v3), (4, .int v4)]) 4 (pc' := 110) dX11_add_107 rfl ic_1 (Nat.le_of_ble_eq_true rfl) rfl rfl ?_
        refine ex_goto (tgt := 50) dX11_add_110 (by decide) ?_
        exact ex_sub [1, 2, 3, 4, 0] rfl (hC _ (Option.some.inj hf).symm)
def f_X11_add_l50 (N : Nat) (v2 : Int32) (v3 : Int32) (v4 : Int32) (v5 : Int32) (L : ML) : Option ((Unit) ⊕ (Int32 × ML)) := loopN (fun s => f_X11_add_b50 N v2 v3 v4 s L) N v5
set_option maxRecDepth 100000 in
set_option maxHeartbeats 4000000 in
theorem k_X11_add_l50 {G : GX} {Q : State → Prop} {X : MX} (hO : shX11 X) {v2 : Int32} {v3 : Int32} {v4 : Int32}  {N0 : Nat} {I : MI} {L : ML} {out : ((Unit) ⊕ (Int32 × ML))} (hX : ∀ (u : Unit), out = .inl u → Ex G mX11_add rmX11_add Q (0, 0) X I L 113 [(0, .ref (gB G + 99)), (2, .int v2), (3, .int v3), (4, .int v4)] []) (hR : ∀ (z : Int32) (L' : ML), out = .inr (z, L') → Q = RetQ G (some (.int z)) X I L' (0, 0)) : ∀ (N : Nat) (v5 : Int32), loopN (fun s => f_X11_add_b50 N0 v2 v3 v4 s L) N v5 = some out → Ex G mX11_add rmX11_add Q (0, 0) X I L 50 [(0, .ref (gB G + 99)), (2, .int v2), (3, .int v3), (4, .int v4), (5, .int v5)] [] := by
  intro N
  induction N with
  | zero => intro v5 hf; exact absurd (loopN_zero hf) id
  | succ n ih =>
    intro v5 hf
    rcases loopN_succ hf with ⟨s, hb, hl⟩ | hb
    · skip
      refine k_X11_add_b50 hO  hb (fun _ he => ?_) (fun _ he => by cases he) (fun _ _ he => by cases he)
      cases he
      exact ih s hl
    · exact k_X11_add_b50 hO  hb (fun _ he => by cases he) (fun x0 he => hX x0 (Sum.inr.inj he)) (fun z0 z1 he => hR z0 z1 (Sum.inr.inj he))
def f_X11_add_b116 (N : Nat) (v2 : Int32) (v3 : Int32) (v4 : Int32) (v5 : Int32) (L : ML) : Option ((Int32 × ML) ⊕ (ML)) := (if v3 < v5 then some (.inr L) else (if v4 < v5 then some (.inr L) else if inb (((13 * (v3 - v5)) + v4) - v5) 169 then if inb v5 14 then if inb (((13 * (v3 - v5)) + v4) - v5) 169 then letv (upL L 102 (Int32.toNatClampNeg (((13 * (v3 - v5)) + v4) - v5)) ((L 102 (Int32.toNatClampNeg (((13 * (v3 - v5)) + v4) - v5))) + ((Int32.toInt64 v2) * (L 124 (Int32.toNatClampNeg v5))))) fun L27 => some (.inl (v5 + 1, L27)) else none else none else none))
set_option maxRecDepth 100000 in
set_option maxHeartbeats 4000000 in
theorem k_X11_add_b116 {G : GX} {Q : State → Prop} {X : MX} (hO : shX11 X) {v2 : Int32} {v3 : Int32} {v4 : Int32}  {v5 : Int32} {N : Nat} {I : MI} {L : ML} {out : (Int32 × ML) ⊕ (ML)} (hf : f_X11_add_b116 N v2 v3 v4 v5 L = some out) (hC : ∀ (v5' : Int32) (L' : ML), out = .inl (v5', L') → Ex G mX11_add rmX11_add Q (0, 0) X I L' 116 [(0, .ref (gB G + 99)), (2, .int v2), (3, .int v3), (4, .int v4), (5, .int v5')] []) (hX : ∀ (L' : ML), out = .inr L' → Ex G mX11_add rmX11_add Q (0, 0) X I L' 166 [(0, .ref (gB G + 99))] []) : Ex G mX11_add rmX11_add Q (0, 0) X I L 116 [(0, .ref (gB G + 99)), (2, .int v2), (3, .int v3), (4, .int v4), (5, .int v5)] [] := by
  unfold f_X11_add_b116 at hf
  refine ex_iload 4 (pc' := 118) dX11_add_116 rfl rfl ?_
  refine ex_iload_n 2 (pc' := 119) dX11_add_118 rfl rfl rfl ?_
  refine ex_icmpgt (tgt := 166) (pc' := 122) dX11_add_119 (by decide) rfl (fun hc22 => ?_) (fun hc22 => ?_)
  · replace hf := if_t hc22 hf
    exact ex_sub [0] rfl (hX _ (Option.some.inj hf).symm)
  · replace hf := if_f hc22 hf
    refine ex_iload 4 (pc' := 124) dX11_add_122 rfl rfl ?_
    refine ex_iload 3 (pc' := 126) dX11_add_124 rfl rfl ?_
    refine ex_icmpgt (tgt := 166) (pc' := 129) dX11_add_126 (by decide) rfl (fun hc23 => ?_) (fun hc23 => ?_)
    · replace hf := if_t hc23 hf
      exact ex_sub [0] rfl (hX _ (Option.some.inj hf).symm)
    · replace hf := if_f hc23 hf
      refine ex_aload_n 0 (pc' := 130) dX11_add_129 rfl rfl rfl ?_
      refine ex_getR (pc' := 133) dX11_add_130 fl_X11_18 rfl (sh11_k hO) (sh11_F2 hO) rfl ?_
      refine ex_bipush (v := 13) (pc' := 135) dX11_add_133 bp_13 rfl ?_
      refine ex_iload_n 2 (pc' := 136) dX11_add_135 rfl rfl rfl ?_
      refine ex_iload 4 (pc' := 138) dX11_add_136 rfl rfl ?_
      refine ex_isub (pc' := 139) dX11_add_138 rfl ?_
      refine ex_imul (pc' := 140) dX11_add_139 rfl ?_
      refine ex_iload 3 (pc' := 142) dX11_add_140 rfl rfl ?_
      refine ex_iadd (pc' := 143) dX11_add_142 rfl ?_
      refine ex_iload 4 (pc' := 145) dX11_add_143 rfl rfl ?_
      refine ex_isub (pc' := 146) dX11_add_145 rfl ?_
      refine ex_dup2 (pc' := 147) dX11_add_146 rfl rfl rfl ?_
      obtain ⟨hg24, hf⟩ := of_guard hf
      refine ex_lald (pc' := 148) dX11_add_147 (sh11_T2 hO) (inb_in hg24) rfl ?_
      refine ex_iload_n 1 (pc' := 149) dX11_add_148 rfl rfl rfl ?_
      refine ex_i2l (pc' := 150) dX11_add_149 rfl ?_
      refine ex_aload_n 0 (pc' := 151) dX11_add_150 rfl rfl rfl ?_
      refine ex_getR (pc' := 154) dX11_add_151 fl_X11_85 rfl (sh11_k hO) (sh11_F30 hO) rfl ?_
      refine ex_iload 4 (pc' := 156) dX11_add_154 rfl rfl ?_
      obtain ⟨hg25, hf⟩ := of_guard hf
      refine ex_lald (pc' := 157) dX11_add_156 (sh11_T30 hO) (inb_in hg25) rfl ?_
      refine ex_lmul (pc' := 158) dX11_add_157 rfl ?_
      refine ex_ladd (pc' := 159) dX11_add_158 rfl ?_
      obtain ⟨hg26, hf⟩ := of_guard hf
      refine ex_last (pc' := 160) dX11_add_159 (sh11_T2 hO) (inb_in hg26) rfl ?_
      obtain ⟨L27, hL27, hf⟩ := of_let hf
      rw [← hL27]
      refine ex_iincc (lv' := [(5, .int (v5 + 1)), (0, .ref (gB G + 99)), (2, .int v2), (3, .int v3), (4, .int v4)]) 4 (pc' := 163) dX11_add_160 rfl ic_1 (Nat.le_of_ble_eq_true rfl) rfl rfl ?_
      refine ex_goto (tgt := 116) dX11_add_163 (by decide) ?_
      exact ex_sub [1, 2, 3, 4, 0] rfl (hC _ _ (Option.some.inj hf).symm)
def f_X11_add_l116 (N : Nat) (v2 : Int32) (v3 : Int32) (v4 : Int32) (v5 : Int32) (L : ML) : Option (ML) := loopN (fun s => f_X11_add_b116 N v2 v3 v4 s.1 s.2) N (v5, L)
set_option maxRecDepth 100000 in
set_option maxHeartbeats 4000000 in
theorem k_X11_add_l116 {G : GX} {Q : State → Prop} {X : MX} (hO : shX11 X) {v2 : Int32} {v3 : Int32} {v4 : Int32}  {N0 : Nat} {I : MI} {out : (ML)} (hX : ∀ (L' : ML), out = L' → Ex G mX11_add rmX11_add Q (0, 0) X I L' 166 [(0, .ref (gB G + 99))] []) : ∀ (N : Nat) (v5 : Int32) (L : ML), loopN (fun s => f_X11_add_b116 N0 v2 v3 v4 s.1 s.2) N (v5, L) = some out → Ex G mX11_add rmX11_add Q (0, 0) X I L 116 [(0, .ref (gB G + 99)), (2, .int v2), (3, .int v3), (4, .int v4), (5, .int v5)] [] := by
  intro N
  induction N with
  | zero => intro v5 L hf; exact absurd (loopN_zero hf) id
  | succ n ih =>
    intro v5 L hf
    rcases loopN_succ hf with ⟨s, hb, hl⟩ | hb
    · obtain ⟨v5', L'⟩ := s
      refine k_X11_add_b116 hO  hb (fun _ _ he => ?_) (fun _ he => by cases he)
      cases he
      exact ih v5' L' hl
    · exact k_X11_add_b116 hO  hb (fun _ _ he => by cases he) (fun x0 he => hX x0 (Sum.inr.inj he))
def f_X11_add (N : Nat) (v1 : Int32) (v2 : Int32) (I : MI) (L : ML) : Option (Int32 × ML) := bnd1 (f_X11_isSix v1) fun r1 => (if r1 = 0 then some ((-1), L) else bnd1 (f_X11_in (Int32.toInt64 v2) (-99) 99) fun r4 => (if r4 = 0 then some ((-2), L) else bnd1 (f_X11_layOrders N v1 I L) fun L7 => bnd1 (f_X11_lettersU N v1 I) fun r9 => if inb v1 6 then letv ((I 100 (Int32.toNatClampNeg v1)) - r9) fun x12 => bns1 (f_X11_add_l50 N v2 r9 x12 0 L7) (fun u20 => bnd1 (f_X11_add_l116 N v2 r9 x12 0 L7) fun L28 => bnd1 (f_X11_numbersMany N L28) fun r30 => some (r30, L28)) (fun q32 => some q32) else none))
set_option maxRecDepth 100000 in
set_option maxHeartbeats 4000000 in
theorem kb_X11_add {G : GX} {Q : State → Prop} {X : MX} (hO : shX11 X) {v1 : Int32} {v2 : Int32}  {N : Nat} {I : MI} {L : ML} {out : Int32 × ML} (hf : f_X11_add N v1 v2 I L = some out) (hR : ∀ (z : Int32) (L' : ML), out = (z, L') → Q = RetQ G (some (.int z)) X I L' (0, 0)) : Ex G mX11_add rmX11_add Q (0, 0) X I L 0 [(0, .ref (gB G + 99)), (1, .int v1), (2, .int v2)] [] := by
  unfold f_X11_add at hf
  refine ex_iload_n 1 (pc' := 1) dX11_add_0 rfl rfl rfl ?_
  obtain ⟨r1, hq2, hf⟩ := of_bnd1 hf
  refine ex_callS_i (rm' := rmX11_isSix) (st := []) (pc' := 4) [.int v1] dX11_add_1 cl_X11_133 (k_X11_isSix G hq2) rfl rfl rfl (ROOM_of rfl) (Nat.le_of_ble_eq_true rfl) rfl rfl ?_
  refine ex_ifne (tgt := 9) (pc' := 7) dX11_add_4 (by decide) rfl (fun hc3 => ?_) (fun hc3 => ?_)
  · replace hf := if_t hc3 hf
    refine ex_iconst (v := (-1)) (pc' := 8) dX11_add_7 ic_m1 rfl ?_
    exact ex_iret dX11_add_8 rfl (hR _ _ (Option.some.inj hf).symm)
  · replace hf := if_f hc3 hf
    refine ex_iload_n 2 (pc' := 10) dX11_add_9 rfl rfl rfl ?_
    refine ex_i2l (pc' := 11) dX11_add_10 rfl ?_
    refine ex_ldc2 (v := (-99)) (pc' := 14) dX11_add_11 co_X11_159 rfl ?_
    refine ex_ldc2 (v := 99) (pc' := 17) dX11_add_14 co_X11_161 rfl ?_
    obtain ⟨r4, hq5, hf⟩ := of_bnd1 hf
    refine ex_callS_i (rm' := rmX11_in) (st := []) (pc' := 20) [.long (Int32.toInt64 v2), .long (-99), .long 99] dX11_add_17 cl_X11_129 (k_X11_in G hq5) rfl rfl rfl (ROOM_of rfl) (Nat.le_of_ble_eq_true rfl) rfl rfl ?_
    refine ex_ifne (tgt := 26) (pc' := 23) dX11_add_20 (by decide) rfl (fun hc6 => ?_) (fun hc6 => ?_)
    · replace hf := if_t hc6 hf
      refine ex_bipush (v := (-2)) (pc' := 25) dX11_add_23 bp_m2 rfl ?_
      exact ex_iret dX11_add_25 rfl (hR _ _ (Option.some.inj hf).symm)
    · replace hf := if_f hc6 hf
      refine ex_aload_n 0 (pc' := 27) dX11_add_26 rfl rfl rfl ?_
      refine ex_iload_n 1 (pc' := 28) dX11_add_27 rfl rfl rfl ?_
      obtain ⟨L7, hq8, hf⟩ := of_bnd1 hf
      refine ex_callV_v (rm' := rmX11_layOrders) (st := []) (pc' := 31) [.int v1] dX11_add_28 cl_X11_151 (k_X11_layOrders G hO hq8) rfl (sh11_k hO) ⟨_, _, rfl⟩ rfl rfl (ROOM_of rfl) (Nat.le_of_ble_eq_true rfl) rfl rfl ?_
      refine ex_aload_n 0 (pc' := 32) dX11_add_31 rfl rfl rfl ?_
      refine ex_iload_n 1 (pc' := 33) dX11_add_32 rfl rfl rfl ?_
      obtain ⟨r9, hq10, hf⟩ := of_bnd1 hf
      refine ex_callV_i (rm' := rmX11_lettersU) (st := []) (pc' := 36) [.int v1] dX11_add_33 cl_X11_143 (k_X11_lettersU G hO hq10) rfl (sh11_k hO) ⟨_, _, rfl⟩ rfl rfl (ROOM_of rfl) (Nat.le_of_ble_eq_true rfl) rfl rfl ?_
      refine ex_istore_n (lv' := [(3, .int r9), (0, .ref (gB G + 99)), (1, .int v1), (2, .int v2)]) (pc' := 37) dX11_add_36 rfl (Nat.le_of_ble_eq_true rfl) rfl rfl ?_
      refine ex_aload_n 1 (pc' := 38) dX11_add_37 rfl rfl rfl ?_
      refine ex_getR (pc' := 41) dX11_add_38 fl_X11_9 rfl (sh11_k hO) (sh11_F0 hO) rfl ?_
      refine ex_iload_n 2 (pc' := 42) dX11_add_41 rfl rfl rfl ?_
      obtain ⟨hg11, hf⟩ := of_guard hf
      refine ex_iald (pc' := 43) dX11_add_42 (sh11_T0 hO) (inb_in hg11) rfl ?_
      refine ex_iload_n 0 (pc' := 44) dX11_add_43 rfl rfl rfl ?_
      refine ex_isub (pc' := 45) dX11_add_44 rfl ?_
      obtain ⟨x12, hx12, hf⟩ := of_let hf
      rw [← hx12]
      refine ex_istore (lv' := [(4, .int x12), (3, .int r9), (0, .ref (gB G + 99)), (1, .int v1), (2, .int v2)]) (pc' := 47) dX11_add_45 (Nat.le_of_ble_eq_true rfl) rfl rfl ?_
      refine ex_iconst (v := 0) (pc' := 48) dX11_add_47 ic_0 rfl ?_
      refine ex_istore (lv' := [(5, .int 0), (4, .int x12), (3, .int r9), (0, .ref (gB G + 99)), (1, .int v1), (2, .int v2)]) (pc' := 50) dX11_add_48 (Nat.le_of_ble_eq_true rfl) rfl rfl ?_
      refine ex_sub (lv' := [(0, .ref (gB G + 99)), (2, .int v2), (3, .int r9), (4, .int x12), (5, .int 0)]) [3, 5, 2, 1, 0] rfl ?_
      rcases of_bns1 hf with ⟨u20, hq21, hf⟩ | ⟨q32, hq21, hf⟩
      · refine k_X11_add_l50 hO (fun u20' he => ?_) (fun _ _ he => by cases he) _ _ hq21
        cases he
        refine ex_iconst (v := 0) (pc' := 114) dX11_add_113 ic_0 rfl ?_
        refine ex_istore (lv' := [(5, .int 0), (0, .ref (gB G + 99)), (2, .int v2), (3, .int r9), (4, .int x12)]) (pc' := 116) dX11_add_114 (Nat.le_of_ble_eq_true rfl) rfl rfl ?_
        refine ex_sub (lv' := [(0, .ref (gB G + 99)), (2, .int v2), (3, .int r9), (4, .int x12), (5, .int 0)]) [1, 2, 3, 4, 0] rfl ?_
        obtain ⟨L28, hq29, hf⟩ := of_bnd1 hf
        refine k_X11_add_l116 hO (fun L28' he => ?_) _ _ _ hq29
        cases he
        refine ex_aload_n 0 (pc' := 167) dX11_add_166 rfl rfl rfl ?_
        obtain ⟨r30, hq31, hf⟩ := of_bnd1 hf
        refine ex_callV_i (rm' := rmX11_numbersMany) (st := []) (pc' := 170) [] dX11_add_167 cl_X11_155 (k_X11_numbersMany G hO hq31) rfl (sh11_k hO) ⟨_, _, rfl⟩ rfl rfl (ROOM_of rfl) (Nat.le_of_ble_eq_true rfl) rfl rfl ?_
        exact ex_iret dX11_add_170 rfl (hR _ _ (Option.some.inj hf).symm)
      · refine k_X11_add_l50 hO (fun _ he => by cases he) (fun z0 z1 he => ?_) _ _ hq21
        refine hR _ _ ?_
        rw [← Option.some.inj hf]
        cases he
        rfl
set_option maxRecDepth 100000 in
set_option maxHeartbeats 4000000 in
theorem k_X11_add (G : GX) {X : MX} (hO : shX11 X) {v1 : Int32} {v2 : Int32}  {N : Nat} {I : MI} {L : ML} {z : Int32} {L' : ML} (hf : f_X11_add N v1 v2 I L = some (z, L')) : Con G mX11_add yX11_add rmX11_add (fun B => [.ref (B + 99), .int v1, .int v2]) X I L (some (.int z)) X I L' :=
  Con.of (by decide) rfl (fun h => by cases h) (fun B => Nat.le_of_ble_eq_true rfl) (fun G => kb_X11_add hO  hf (fun _ _ he => by cases he; rfl))
theorem bp_7 : (Int8.ofInt 7).toInt32 = 7 := by decide
theorem fl_X11_112 : FLD RX11 112 11 41 true := ⟨RX11, TX11, 51, rfl, inX11, by decide, lwg_at 975 (by decide +kernel) rfl, nmX11, tyX11_ok, rfl, rfl⟩
theorem fl_X11_209 : FLD RX11 209 11 38 false := ⟨RX11, TX11, 51, rfl, inX11, by decide, lwg_at 972 (by decide +kernel) rfl, nmX11, tyX11_ok, rfl, rfl⟩
theorem fl_X11_109 : FLD RX11 109 11 40 true := ⟨RX11, TX11, 51, rfl, inX11, by decide, lwg_at 974 (by decide +kernel) rfl, nmX11, tyX11_ok, rfl, rfl⟩
theorem fl_X11_94 : FLD RX11 94 11 33 true := ⟨RX11, TX11, 51, rfl, inX11, by decide, lwg_at 967 (by decide +kernel) rfl, nmX11, tyX11_ok, rfl, rfl⟩
-- X11_layOne ('RookWordsModel', 'layOne', '(I)V')
def rmX11_layOne : RM := ((0, 0, 0, 0), false, none)
def f_X11_layOne_b2 (N : Nat) (v1 : Int32) (v2 : Int32) (I : MI) : Option ((Int32 × MI) ⊕ (MI)) := (if v2 < 7 then (if v2 = 0 then if inb ((7 * (I 99 38)) + v2) 6468 then letv (upI I 133 (Int32.toNatClampNeg ((7 * (I 99 38)) + v2)) 1) fun I4 => some (.inl (v2 + 1, I4)) else none else if inb ((7 * (I 99 38)) + v2) 6468 then letv (upI I 133 (Int32.toNatClampNeg ((7 * (I 99 38)) + v2)) 0) fun I6 => some (.inl (v2 + 1, I6)) else none) else some (.inr I))
set_option maxRecDepth 100000 in
set_option maxHeartbeats 4000000 in
theorem k_X11_layOne_b2 {G : GX} {Q : State → Prop} {X : MX} (hO : shX11 X) {v1 : Int32}  {v2 : Int32} {N : Nat} {I : MI} {L : ML} {out : (Int32 × MI) ⊕ (MI)} (hf : f_X11_layOne_b2 N v1 v2 I = some out) (hC : ∀ (v2' : Int32) (I' : MI), out = .inl (v2', I') → Ex G mX11_layOne rmX11_layOne Q (0, 0) X I' L 2 [(0, .ref (gB G + 99)), (1, .int v1), (2, .int v2')] []) (hX : ∀ (I' : MI), out = .inr I' → Ex G mX11_layOne rmX11_layOne Q (0, 0) X I' L 37 [(0, .ref (gB G + 99)), (1, .int v1)] []) : Ex G mX11_layOne rmX11_layOne Q (0, 0) X I L 2 [(0, .ref (gB G + 99)), (1, .int v1), (2, .int v2)] [] := by
  unfold f_X11_layOne_b2 at hf
  refine ex_iload_n 2 (pc' := 3) dX11_layOne_2 rfl rfl rfl ?_
  refine ex_bipush (v := 7) (pc' := 5) dX11_layOne_3 bp_7 rfl ?_
  refine ex_icmpge (tgt := 37) (pc' := 8) dX11_layOne_5 (by decide) rfl (fun hc1 => ?_) (fun hc1 => ?_)
  · replace hf := if_t hc1 hf
    refine ex_aload_n 0 (pc' := 9) dX11_layOne_8 rfl rfl rfl ?_
    refine ex_getR (pc' := 12) dX11_layOne_9 fl_X11_112 rfl (sh11_k hO) (sh11_F41 hO) rfl ?_
    refine ex_bipush (v := 7) (pc' := 14) dX11_layOne_12 bp_7 rfl ?_
    refine ex_aload_n 0 (pc' := 15) dX11_layOne_14 rfl rfl rfl ?_
    refine ex_getI (pc' := 18) dX11_layOne_15 fl_X11_209 rfl (sh11_k hO) rfl ?_
    refine ex_imul (pc' := 19) dX11_layOne_18 rfl ?_
    refine ex_iload_n 2 (pc' := 20) dX11_layOne_19 rfl rfl rfl ?_
    refine ex_iadd (pc' := 21) dX11_layOne_20 rfl ?_
    refine ex_iload_n 2 (pc' := 22) dX11_layOne_21 rfl rfl rfl ?_
    refine ex_ifne (tgt := 29) (pc' := 25) dX11_layOne_22 (by decide) rfl (fun hc2 => ?_) (fun hc2 => ?_)
    · replace hf := if_t hc2 hf
      refine ex_iconst (v := 1) (pc' := 26) dX11_layOne_25 ic_1 rfl ?_
      refine ex_goto (tgt := 30) dX11_layOne_26 (by decide) ?_
      obtain ⟨hg3, hf⟩ := of_guard hf
      refine ex_iast (pc' := 31) dX11_layOne_30 (sh11_T41 hO) (inb_in hg3) rfl ?_
      obtain ⟨I4, hI4, hf⟩ := of_let hf
      rw [← hI4]
      refine ex_iincc (lv' := [(2, .int (v2 + 1)), (0, .ref (gB G + 99)), (1, .int v1)]) 2 (pc' := 34) dX11_layOne_31 rfl ic_1 (Nat.le_of_ble_eq_true rfl) rfl rfl ?_
      refine ex_goto (tgt := 2) dX11_layOne_34 (by decide) ?_
      exact ex_sub [1, 2, 0] rfl (hC _ _ (Option.some.inj hf).symm)
    · replace hf := if_f hc2 hf
      refine ex_iconst (v := 0) (pc' := 30) dX11_layOne_29 ic_0 rfl ?_
      obtain ⟨hg5, hf⟩ := of_guard hf
      refine ex_iast (pc' := 31) dX11_layOne_30 (sh11_T41 hO) (inb_in hg5) rfl ?_
      obtain ⟨I6, hI6, hf⟩ := of_let hf
      rw [← hI6]
      refine ex_iincc (lv' := [(2, .int (v2 + 1)), (0, .ref (gB G + 99)), (1, .int v1)]) 2 (pc' := 34) dX11_layOne_31 rfl ic_1 (Nat.le_of_ble_eq_true rfl) rfl rfl ?_
      refine ex_goto (tgt := 2) dX11_layOne_34 (by decide) ?_
      exact ex_sub [1, 2, 0] rfl (hC _ _ (Option.some.inj hf).symm)
  · replace hf := if_f hc1 hf
    exact ex_sub [0, 1] rfl (hX _ (Option.some.inj hf).symm)
def f_X11_layOne_l2 (N : Nat) (v1 : Int32) (v2 : Int32) (I : MI) : Option (MI) := loopN (fun s => f_X11_layOne_b2 N v1 s.1 s.2) N (v2, I)
set_option maxRecDepth 100000 in
set_option maxHeartbeats 4000000 in
theorem k_X11_layOne_l2 {G : GX} {Q : State → Prop} {X : MX} (hO : shX11 X) {v1 : Int32}  {N0 : Nat} {L : ML} {out : (MI)} (hX : ∀ (I' : MI), out = I' → Ex G mX11_layOne rmX11_layOne Q (0, 0) X I' L 37 [(0, .ref (gB G + 99)), (1, .int v1)] []) : ∀ (N : Nat) (v2 : Int32) (I : MI), loopN (fun s => f_X11_layOne_b2 N0 v1 s.1 s.2) N (v2, I) = some out → Ex G mX11_layOne rmX11_layOne Q (0, 0) X I L 2 [(0, .ref (gB G + 99)), (1, .int v1), (2, .int v2)] [] := by
  intro N
  induction N with
  | zero => intro v2 I hf; exact absurd (loopN_zero hf) id
  | succ n ih =>
    intro v2 I hf
    rcases loopN_succ hf with ⟨s, hb, hl⟩ | hb
    · obtain ⟨v2', I'⟩ := s
      refine k_X11_layOne_b2 hO  hb (fun _ _ he => ?_) (fun _ he => by cases he)
      cases he
      exact ih v2' I' hl
    · exact k_X11_layOne_b2 hO  hb (fun _ _ he => by cases he) (fun x0 he => hX x0 (Sum.inr.inj he))
def f_X11_layOne_b66 (N : Nat) (v1 : Int32) (v2 : Int32) (v3 : Int32) (I : MI) : Option ((Int32 × MI) ⊕ (MI)) := (if v3 < 0 then some (.inr I) else if inb v2 6 then letv ((I 127 (Int32.toNatClampNeg v2)) - v3) fun x15 => if inb (((7 * (I 99 38)) + v3) + 1) 6468 then (if 0 < x15 then if inb ((7 * (I 99 38)) + v3) 6468 then if inb (((7 * (I 99 38)) + v3) + 1) 6468 then letv (upI I 133 (Int32.toNatClampNeg (((7 * (I 99 38)) + v3) + 1)) ((I 133 (Int32.toNatClampNeg (((7 * (I 99 38)) + v3) + 1))) + ((I 133 (Int32.toNatClampNeg ((7 * (I 99 38)) + v3))) * x15))) fun I20 => some (.inl (v3 + (-1), I20)) else none else none else if inb (((7 * (I 99 38)) + v3) + 1) 6468 then letv (upI I 133 (Int32.toNatClampNeg (((7 * (I 99 38)) + v3) + 1)) ((I 133 (Int32.toNatClampNeg (((7 * (I 99 38)) + v3) + 1))) + 0)) fun I22 => some (.inl (v3 + (-1), I22)) else none) else none else none)
set_option maxRecDepth 100000 in
set_option maxHeartbeats 4000000 in
theorem k_X11_layOne_b66 {G : GX} {Q : State → Prop} {X : MX} (hO : shX11 X) {v1 : Int32} {v2 : Int32}  {v3 : Int32} {N : Nat} {I : MI} {L : ML} {out : (Int32 × MI) ⊕ (MI)} (hf : f_X11_layOne_b66 N v1 v2 v3 I = some out) (hC : ∀ (v3' : Int32) (I' : MI), out = .inl (v3', I') → Ex G mX11_layOne rmX11_layOne Q (0, 0) X I' L 66 [(0, .ref (gB G + 99)), (1, .int v1), (2, .int v2), (3, .int v3')] []) (hX : ∀ (I' : MI), out = .inr I' → Ex G mX11_layOne rmX11_layOne Q (0, 0) X I' L 131 [(0, .ref (gB G + 99)), (1, .int v1), (2, .int v2)] []) : Ex G mX11_layOne rmX11_layOne Q (0, 0) X I L 66 [(0, .ref (gB G + 99)), (1, .int v1), (2, .int v2), (3, .int v3)] [] := by
  unfold f_X11_layOne_b66 at hf
  refine ex_iload_n 3 (pc' := 67) dX11_layOne_66 rfl rfl rfl ?_
  refine ex_iflt (tgt := 131) (pc' := 70) dX11_layOne_67 (by decide) rfl (fun hc13 => ?_) (fun hc13 => ?_)
  · replace hf := if_t hc13 hf
    exact ex_sub [0, 1, 2] rfl (hX _ (Option.some.inj hf).symm)
  · replace hf := if_f hc13 hf
    refine ex_aload_n 0 (pc' := 71) dX11_layOne_70 rfl rfl rfl ?_
    refine ex_getR (pc' := 74) dX11_layOne_71 fl_X11_94 rfl (sh11_k hO) (sh11_F33 hO) rfl ?_
    refine ex_iload_n 2 (pc' := 75) dX11_layOne_74 rfl rfl rfl ?_
    obtain ⟨hg14, hf⟩ := of_guard hf
    refine ex_iald (pc' := 76) dX11_layOne_75 (sh11_T33 hO) (inb_in hg14) rfl ?_
    refine ex_iload_n 3 (pc' := 77) dX11_layOne_76 rfl rfl rfl ?_
    refine ex_isub (pc' := 78) dX11_layOne_77 rfl ?_
    obtain ⟨x15, hx15, hf⟩ := of_let hf
    rw [← hx15]
    refine ex_istore (lv' := [(4, .int x15), (0, .ref (gB G + 99)), (1, .int v1), (2, .int v2), (3, .int v3)]) (pc' := 80) dX11_layOne_78 (Nat.le_of_ble_eq_true rfl) rfl rfl ?_
    refine ex_aload_n 1 (pc' := 81) dX11_layOne_80 rfl rfl rfl ?_
    refine ex_getR (pc' := 84) dX11_layOne_81 fl_X11_112 rfl (sh11_k hO) (sh11_F41 hO) rfl ?_
    refine ex_bipush (v := 7) (pc' := 86) dX11_layOne_84 bp_7 rfl ?_
    refine ex_aload_n 1 (pc' := 87) dX11_layOne_86 rfl rfl rfl ?_
    refine ex_getI (pc' := 90) dX11_layOne_87 fl_X11_209 rfl (sh11_k hO) rfl ?_
    refine ex_imul (pc' := 91) dX11_layOne_90 rfl ?_
    refine ex_iload_n 4 (pc' := 92) dX11_layOne_91 rfl rfl rfl ?_
    refine ex_iadd (pc' := 93) dX11_layOne_92 rfl ?_
    refine ex_iconst (v := 1) (pc' := 94) dX11_layOne_93 ic_1 rfl ?_
    refine ex_iadd (pc' := 95) dX11_layOne_94 rfl ?_
    refine ex_dup2 (pc' := 96) dX11_layOne_95 rfl rfl rfl ?_
    obtain ⟨hg16, hf⟩ := of_guard hf
    refine ex_iald (pc' := 97) dX11_layOne_96 (sh11_T41 hO) (inb_in hg16) rfl ?_
    refine ex_iload 0 (pc' := 99) dX11_layOne_97 rfl rfl ?_
    refine ex_ifle (tgt := 122) (pc' := 102) dX11_layOne_99 (by decide) rfl (fun hc17 => ?_) (fun hc17 => ?_)
    · replace hf := if_t hc17 hf
      refine ex_aload_n 1 (pc' := 103) dX11_layOne_102 rfl rfl rfl ?_
      refine ex_getR (pc' := 106) dX11_layOne_103 fl_X11_112 rfl (sh11_k hO) (sh11_F41 hO) rfl ?_
      refine ex_bipush (v := 7) (pc' := 108) dX11_layOne_106 bp_7 rfl ?_
      refine ex_aload_n 1 (pc' := 109) dX11_layOne_108 rfl rfl rfl ?_
      refine ex_getI (pc' := 112) dX11_layOne_109 fl_X11_209 rfl (sh11_k hO) rfl ?_
      refine ex_imul (pc' := 113) dX11_layOne_112 rfl ?_
      refine ex_iload_n 4 (pc' := 114) dX11_layOne_113 rfl rfl rfl ?_
      refine ex_iadd (pc' := 115) dX11_layOne_114 rfl ?_
      obtain ⟨hg18, hf⟩ := of_guard hf
      refine ex_iald (pc' := 116) dX11_layOne_115 (sh11_T41 hO) (inb_in hg18) rfl ?_
      refine ex_iload 0 (pc' := 118) dX11_layOne_116 rfl rfl ?_
      refine ex_imul (pc' := 119) dX11_layOne_118 rfl ?_
      refine ex_goto (tgt := 123) dX11_layOne_119 (by decide) ?_
      refine ex_iadd (pc' := 124) dX11_layOne_123 rfl ?_
      obtain ⟨hg19, hf⟩ := of_guard hf
      refine ex_iast (pc' := 125) dX11_layOne_124 (sh11_T41 hO) (inb_in hg19) rfl ?_
      obtain ⟨I20, hI20, hf⟩ := of_let hf
      rw [← hI20]
      refine ex_iincc (lv' := [(3, .int (v3 + (-1))), (4, .int x15), (0, .ref (gB G + 99)), (1, .int v1), (2, .int v2)]) 4 (pc' := 128) dX11_layOne_125 rfl ic_m1 (Nat.le_of_ble_eq_true rfl) rfl rfl ?_
      refine ex_goto (tgt := 66) dX11_layOne_128 (by decide) ?_
      exact ex_sub [2, 3, 4, 0] rfl (hC _ _ (Option.some.inj hf).symm)
    · replace hf := if_f hc17 hf
      refine ex_iconst (v := 0) (pc' := 123) dX11_layOne_122 ic_0 rfl ?_
      refine ex_iadd (pc' := 124) dX11_layOne_123 rfl ?_
      obtain ⟨hg21, hf⟩ := of_guard hf
      refine ex_iast (pc' := 125) dX11_layOne_124 (sh11_T41 hO) (inb_in hg21) rfl ?_
      obtain ⟨I22, hI22, hf⟩ := of_let hf
      rw [← hI22]
      refine ex_iincc (lv' := [(3, .int (v3 + (-1))), (4, .int x15), (0, .ref (gB G + 99)), (1, .int v1), (2, .int v2)]) 4 (pc' := 128) dX11_layOne_125 rfl ic_m1 (Nat.le_of_ble_eq_true rfl) rfl rfl ?_
      refine ex_goto (tgt := 66) dX11_layOne_128 (by decide) ?_
      exact ex_sub [2, 3, 4, 0] rfl (hC _ _ (Option.some.inj hf).symm)
def f_X11_layOne_l66 (N : Nat) (v1 : Int32) (v2 : Int32) (v3 : Int32) (I : MI) : Option (MI) := loopN (fun s => f_X11_layOne_b66 N v1 v2 s.1 s.2) N (v3, I)
set_option maxRecDepth 100000 in
set_option maxHeartbeats 4000000 in
theorem k_X11_layOne_l66 {G : GX} {Q : State → Prop} {X : MX} (hO : shX11 X) {v1 : Int32} {v2 : Int32}  {N0 : Nat} {L : ML} {out : (MI)} (hX : ∀ (I' : MI), out = I' → Ex G mX11_layOne rmX11_layOne Q (0, 0) X I' L 131 [(0, .ref (gB G + 99)), (1, .int v1), (2, .int v2)] []) : ∀ (N : Nat) (v3 : Int32) (I : MI), loopN (fun s => f_X11_layOne_b66 N0 v1 v2 s.1 s.2) N (v3, I) = some out → Ex G mX11_layOne rmX11_layOne Q (0, 0) X I L 66 [(0, .ref (gB G + 99)), (1, .int v1), (2, .int v2), (3, .int v3)] [] := by
  intro N
  induction N with
  | zero => intro v3 I hf; exact absurd (loopN_zero hf) id
  | succ n ih =>
    intro v3 I hf
    rcases loopN_succ hf with ⟨s, hb, hl⟩ | hb
    · obtain ⟨v3', I'⟩ := s
      refine k_X11_layOne_b66 hO  hb (fun _ _ he => ?_) (fun _ he => by cases he)
      cases he
      exact ih v3' I' hl
    · exact k_X11_layOne_b66 hO  hb (fun _ _ he => by cases he) (fun x0 he => hX x0 (Sum.inr.inj he))
def f_X11_layOne_b39 (N : Nat) (v1 : Int32) (v2 : Int32) (I : MI) : Option ((Int32 × MI) ⊕ (MI)) := (if v2 < v1 then if inb v2 6 then if inb ((6 * (I 99 38)) + v2) 5544 then letv (upI I 132 (Int32.toNatClampNeg ((6 * (I 99 38)) + v2)) (I 127 (Int32.toNatClampNeg v2))) fun I12 => bnd1 (f_X11_layOne_l66 N v1 v2 5 I12) fun I23 => some (.inl (v2 + 1, I23)) else none else none else some (.inr I))
set_option maxRecDepth 100000 in
set_option maxHeartbeats 4000000 in
theorem k_X11_layOne_b39 {G : GX} {Q : State → Prop} {X : MX} (hO : shX11 X) {v1 : Int32}  {v2 : Int32} {N : Nat} {I : MI} {L : ML} {out : (Int32 × MI) ⊕ (MI)} (hf : f_X11_layOne_b39 N v1 v2 I = some out) (hC : ∀ (v2' : Int32) (I' : MI), out = .inl (v2', I') → Ex G mX11_layOne rmX11_layOne Q (0, 0) X I' L 39 [(0, .ref (gB G + 99)), (1, .int v1), (2, .int v2')] []) (hX : ∀ (I' : MI), out = .inr I' → Ex G mX11_layOne rmX11_layOne Q (0, 0) X I' L 137 [(0, .ref (gB G + 99))] []) : Ex G mX11_layOne rmX11_layOne Q (0, 0) X I L 39 [(0, .ref (gB G + 99)), (1, .int v1), (2, .int v2)] [] := by
  unfold f_X11_layOne_b39 at hf
  refine ex_iload_n 2 (pc' := 40) dX11_layOne_39 rfl rfl rfl ?_
  refine ex_iload_n 1 (pc' := 41) dX11_layOne_40 rfl rfl rfl ?_
  refine ex_icmpge (tgt := 137) (pc' := 44) dX11_layOne_41 (by decide) rfl (fun hc9 => ?_) (fun hc9 => ?_)
  · replace hf := if_t hc9 hf
    refine ex_aload_n 0 (pc' := 45) dX11_layOne_44 rfl rfl rfl ?_
    refine ex_getR (pc' := 48) dX11_layOne_45 fl_X11_109 rfl (sh11_k hO) (sh11_F40 hO) rfl ?_
    refine ex_bipush (v := 6) (pc' := 50) dX11_layOne_48 bp_6 rfl ?_
    refine ex_aload_n 0 (pc' := 51) dX11_layOne_50 rfl rfl rfl ?_
    refine ex_getI (pc' := 54) dX11_layOne_51 fl_X11_209 rfl (sh11_k hO) rfl ?_
    refine ex_imul (pc' := 55) dX11_layOne_54 rfl ?_
    refine ex_iload_n 2 (pc' := 56) dX11_layOne_55 rfl rfl rfl ?_
    refine ex_iadd (pc' := 57) dX11_layOne_56 rfl ?_
    refine ex_aload_n 0 (pc' := 58) dX11_layOne_57 rfl rfl rfl ?_
    refine ex_getR (pc' := 61) dX11_layOne_58 fl_X11_94 rfl (sh11_k hO) (sh11_F33 hO) rfl ?_
    refine ex_iload_n 2 (pc' := 62) dX11_layOne_61 rfl rfl rfl ?_
    obtain ⟨hg10, hf⟩ := of_guard hf
    refine ex_iald (pc' := 63) dX11_layOne_62 (sh11_T33 hO) (inb_in hg10) rfl ?_
    obtain ⟨hg11, hf⟩ := of_guard hf
    refine ex_iast (pc' := 64) dX11_layOne_63 (sh11_T40 hO) (inb_in hg11) rfl ?_
    obtain ⟨I12, hI12, hf⟩ := of_let hf
    rw [← hI12]
    refine ex_iconst (v := 5) (pc' := 65) dX11_layOne_64 ic_5 rfl ?_
    refine ex_istore_n (lv' := [(3, .int 5), (0, .ref (gB G + 99)), (1, .int v1), (2, .int v2)]) (pc' := 66) dX11_layOne_65 rfl (Nat.le_of_ble_eq_true rfl) rfl rfl ?_
    refine ex_sub (lv' := [(0, .ref (gB G + 99)), (1, .int v1), (2, .int v2), (3, .int 5)]) [1, 2, 3, 0] rfl ?_
    obtain ⟨I23, hq24, hf⟩ := of_bnd1 hf
    refine k_X11_layOne_l66 hO (fun I23' he => ?_) _ _ _ hq24
    cases he
    refine ex_iincc (lv' := [(2, .int (v2 + 1)), (0, .ref (gB G + 99)), (1, .int v1)]) 2 (pc' := 134) dX11_layOne_131 rfl ic_1 (Nat.le_of_ble_eq_true rfl) rfl rfl ?_
    refine ex_goto (tgt := 39) dX11_layOne_134 (by decide) ?_
    exact ex_sub [1, 2, 0] rfl (hC _ _ (Option.some.inj hf).symm)
  · replace hf := if_f hc9 hf
    exact ex_sub [0] rfl (hX _ (Option.some.inj hf).symm)
def f_X11_layOne_l39 (N : Nat) (v1 : Int32) (v2 : Int32) (I : MI) : Option (MI) := loopN (fun s => f_X11_layOne_b39 N v1 s.1 s.2) N (v2, I)
set_option maxRecDepth 100000 in
set_option maxHeartbeats 4000000 in
theorem k_X11_layOne_l39 {G : GX} {Q : State → Prop} {X : MX} (hO : shX11 X) {v1 : Int32}  {N0 : Nat} {L : ML} {out : (MI)} (hX : ∀ (I' : MI), out = I' → Ex G mX11_layOne rmX11_layOne Q (0, 0) X I' L 137 [(0, .ref (gB G + 99))] []) : ∀ (N : Nat) (v2 : Int32) (I : MI), loopN (fun s => f_X11_layOne_b39 N0 v1 s.1 s.2) N (v2, I) = some out → Ex G mX11_layOne rmX11_layOne Q (0, 0) X I L 39 [(0, .ref (gB G + 99)), (1, .int v1), (2, .int v2)] [] := by
  intro N
  induction N with
  | zero => intro v2 I hf; exact absurd (loopN_zero hf) id
  | succ n ih =>
    intro v2 I hf
    rcases loopN_succ hf with ⟨s, hb, hl⟩ | hb
    · obtain ⟨v2', I'⟩ := s
      refine k_X11_layOne_b39 hO  hb (fun _ _ he => ?_) (fun _ he => by cases he)
      cases he
      exact ih v2' I' hl
    · exact k_X11_layOne_b39 hO  hb (fun _ _ he => by cases he) (fun x0 he => hX x0 (Sum.inr.inj he))
def f_X11_layOne (N : Nat) (v1 : Int32) (I : MI) : Option (MI) := bnd1 (f_X11_layOne_l2 N v1 0 I) fun I7 => bnd1 (f_X11_layOne_l39 N v1 0 I7) fun I25 => letv (upI I25 99 38 ((I25 99 38) + 1)) fun I27 => some I27
set_option maxRecDepth 100000 in
set_option maxHeartbeats 4000000 in
theorem kb_X11_layOne {G : GX} {Q : State → Prop} {X : MX} (hO : shX11 X) {v1 : Int32}  {N : Nat} {I : MI} {L : ML} {out : MI} (hf : f_X11_layOne N v1 I = some out) (hR : ∀ (I' : MI), out = I' → Q = RetQ G none X I' L (0, 0)) : Ex G mX11_layOne rmX11_layOne Q (0, 0) X I L 0 [(0, .ref (gB G + 99)), (1, .int v1)] [] := by
  unfold f_X11_layOne at hf
  refine ex_iconst (v := 0) (pc' := 1) dX11_layOne_0 ic_0 rfl ?_
  refine ex_istore_n (lv' := [(2, .int 0), (0, .ref (gB G + 99)), (1, .int v1)]) (pc' := 2) dX11_layOne_1 rfl (Nat.le_of_ble_eq_true rfl) rfl rfl ?_
  refine ex_sub (lv' := [(0, .ref (gB G + 99)), (1, .int v1), (2, .int 0)]) [1, 2, 0] rfl ?_
  obtain ⟨I7, hq8, hf⟩ := of_bnd1 hf
  refine k_X11_layOne_l2 hO (fun I7' he => ?_) _ _ _ hq8
  cases he
  refine ex_iconst (v := 0) (pc' := 38) dX11_layOne_37 ic_0 rfl ?_
  refine ex_istore_n (lv' := [(2, .int 0), (0, .ref (gB G + 99)), (1, .int v1)]) (pc' := 39) dX11_layOne_38 rfl (Nat.le_of_ble_eq_true rfl) rfl rfl ?_
  refine ex_sub (lv' := [(0, .ref (gB G + 99)), (1, .int v1), (2, .int 0)]) [1, 2, 0] rfl ?_
  obtain ⟨I25, hq26, hf⟩ := of_bnd1 hf
  refine k_X11_layOne_l39 hO (fun I25' he => ?_) _ _ _ hq26
  cases he
  refine ex_aload_n 0 (pc' := 138) dX11_layOne_137 rfl rfl rfl ?_
  refine ex_dup (pc' := 139) dX11_layOne_138 rfl rfl ?_
  refine ex_getI (pc' := 142) dX11_layOne_139 fl_X11_209 rfl (sh11_k hO) rfl ?_
  refine ex_iconst (v := 1) (pc' := 143) dX11_layOne_142 ic_1 rfl ?_
  refine ex_iadd (pc' := 144) dX11_layOne_143 rfl ?_
  refine ex_putI (pc' := 147) dX11_layOne_144 fl_X11_209 rfl (sh11_k hO) rfl ?_
  obtain ⟨I27, hI27, hf⟩ := of_let hf
  rw [← hI27]
  exact ex_vret dX11_layOne_147 rfl (hR _ (Option.some.inj hf).symm)
set_option maxRecDepth 100000 in
set_option maxHeartbeats 4000000 in
theorem k_X11_layOne (G : GX) {X : MX} (hO : shX11 X) {v1 : Int32}  {N : Nat} {I : MI} {L : ML} {I' : MI} (hf : f_X11_layOne N v1 I = some I') : Con G mX11_layOne yX11_layOne rmX11_layOne (fun B => [.ref (B + 99), .int v1]) X I L none X I' L :=
  Con.of (by decide) rfl (fun h => by cases h) (fun B => Nat.le_of_ble_eq_true rfl) (fun G => kb_X11_layOne hO  hf (fun _ he => by cases he; rfl))
theorem fl_X11_206 : FLD RX11 206 11 39 false := ⟨RX11, TX11, 51, rfl, inX11, by decide, lwg_at 973 (by decide +kernel) rfl, nmX11, tyX11_ok, rfl, rfl⟩
theorem cl_X11_212 : CLV RX11 212 yX11_layOne mX11_layOne none 1 := ⟨⟨lwg_at 1267 (by decide +kernel) rfl, lwg_at 1269 (by decide +kernel) rfl, lwg_at 34 (by decide +kernel) rfl, lwg_at 61 (by decide +kernel) rfl⟩, lwg_at 1270 (by decide +kernel) rfl, ⟨by decide +kernel, by decide +kernel, by decide +kernel⟩⟩
-- X11_layAll ('RookWordsModel', 'layAll', '(I)V')
def rmX11_layAll : RM := ((1, 24, 0, 0), false, none)
def f_X11_layAll_b21 (N : Nat) (v1 : Int32) (v2 : Int32) (I : MI) : Option ((Int32 × MI) ⊕ (MI)) := (if v2 < v1 then if inb v2 6 then letv (upI I 127 (Int32.toNatClampNeg v2) 0) fun I6 => some (.inl (v2 + 1, I6)) else none else some (.inr I))
set_option maxRecDepth 100000 in
set_option maxHeartbeats 4000000 in
theorem k_X11_layAll_b21 {G : GX} {Q : State → Prop} {X : MX} (hO : shX11 X) {v1 : Int32}  {v2 : Int32} {N : Nat} {I : MI} {L : ML} {out : (Int32 × MI) ⊕ (MI)} (hf : f_X11_layAll_b21 N v1 v2 I = some out) (hC : ∀ (v2' : Int32) (I' : MI), out = .inl (v2', I') → Ex G mX11_layAll rmX11_layAll Q (0, 0) X I' L 21 [(0, .ref (gB G + 99)), (1, .int v1), (2, .int v2')] []) (hX : ∀ (I' : MI), out = .inr I' → Ex G mX11_layAll rmX11_layAll Q (0, 0) X I' L 39 [(0, .ref (gB G + 99)), (1, .int v1)] []) : Ex G mX11_layAll rmX11_layAll Q (0, 0) X I L 21 [(0, .ref (gB G + 99)), (1, .int v1), (2, .int v2)] [] := by
  unfold f_X11_layAll_b21 at hf
  refine ex_iload_n 2 (pc' := 22) dX11_layAll_21 rfl rfl rfl ?_
  refine ex_iload_n 1 (pc' := 23) dX11_layAll_22 rfl rfl rfl ?_
  refine ex_icmpge (tgt := 39) (pc' := 26) dX11_layAll_23 (by decide) rfl (fun hc4 => ?_) (fun hc4 => ?_)
  · replace hf := if_t hc4 hf
    refine ex_aload_n 0 (pc' := 27) dX11_layAll_26 rfl rfl rfl ?_
    refine ex_getR (pc' := 30) dX11_layAll_27 fl_X11_94 rfl (sh11_k hO) (sh11_F33 hO) rfl ?_
    refine ex_iload_n 2 (pc' := 31) dX11_layAll_30 rfl rfl rfl ?_
    refine ex_iconst (v := 0) (pc' := 32) dX11_layAll_31 ic_0 rfl ?_
    obtain ⟨hg5, hf⟩ := of_guard hf
    refine ex_iast (pc' := 33) dX11_layAll_32 (sh11_T33 hO) (inb_in hg5) rfl ?_
    obtain ⟨I6, hI6, hf⟩ := of_let hf
    rw [← hI6]
    refine ex_iincc (lv' := [(2, .int (v2 + 1)), (0, .ref (gB G + 99)), (1, .int v1)]) 2 (pc' := 36) dX11_layAll_33 rfl ic_1 (Nat.le_of_ble_eq_true rfl) rfl rfl ?_
    refine ex_goto (tgt := 21) dX11_layAll_36 (by decide) ?_
    exact ex_sub [1, 2, 0] rfl (hC _ _ (Option.some.inj hf).symm)
  · replace hf := if_f hc4 hf
    exact ex_sub [0, 1] rfl (hX _ (Option.some.inj hf).symm)
def f_X11_layAll_l21 (N : Nat) (v1 : Int32) (v2 : Int32) (I : MI) : Option (MI) := loopN (fun s => f_X11_layAll_b21 N v1 s.1 s.2) N (v2, I)
set_option maxRecDepth 100000 in
set_option maxHeartbeats 4000000 in
theorem k_X11_layAll_l21 {G : GX} {Q : State → Prop} {X : MX} (hO : shX11 X) {v1 : Int32}  {N0 : Nat} {L : ML} {out : (MI)} (hX : ∀ (I' : MI), out = I' → Ex G mX11_layAll rmX11_layAll Q (0, 0) X I' L 39 [(0, .ref (gB G + 99)), (1, .int v1)] []) : ∀ (N : Nat) (v2 : Int32) (I : MI), loopN (fun s => f_X11_layAll_b21 N0 v1 s.1 s.2) N (v2, I) = some out → Ex G mX11_layAll rmX11_layAll Q (0, 0) X I L 21 [(0, .ref (gB G + 99)), (1, .int v1), (2, .int v2)] [] := by
  intro N
  induction N with
  | zero => intro v2 I hf; exact absurd (loopN_zero hf) id
  | succ n ih =>
    intro v2 I hf
    rcases loopN_succ hf with ⟨s, hb, hl⟩ | hb
    · obtain ⟨v2', I'⟩ := s
      refine k_X11_layAll_b21 hO  hb (fun _ _ he => ?_) (fun _ he => by cases he)
      cases he
      exact ih v2' I' hl
    · exact k_X11_layAll_b21 hO  hb (fun _ _ he => by cases he) (fun x0 he => hX x0 (Sum.inr.inj he))
def f_X11_layAll_b54 (N : Nat) (v1 : Int32) (v3 : Int32) (I : MI) : Option ((Int32) ⊕ (Int32)) := (if v3 < 0 then some (.inr v3) else if inb v3 6 then (if (I 127 (Int32.toNatClampNeg v3)) = v1 then some (.inl (v3 + (-1))) else some (.inr v3)) else none)
set_option maxRecDepth 100000 in
set_option maxHeartbeats 4000000 in
theorem k_X11_layAll_b54 {G : GX} {Q : State → Prop} {X : MX} (hO : shX11 X) {v1 : Int32}  {v3 : Int32} {N : Nat} {I : MI} {L : ML} {out : (Int32) ⊕ (Int32)} (hf : f_X11_layAll_b54 N v1 v3 I = some out) (hC : ∀ (v3' : Int32), out = .inl v3' → Ex G mX11_layAll rmX11_layAll Q (0, 0) X I L 54 [(0, .ref (gB G + 99)), (1, .int v1), (3, .int v3')] []) (hX : ∀ (w3 : Int32), out = .inr w3 → Ex G mX11_layAll rmX11_layAll Q (0, 0) X I L 74 [(0, .ref (gB G + 99)), (1, .int v1), (3, .int w3)] []) : Ex G mX11_layAll rmX11_layAll Q (0, 0) X I L 54 [(0, .ref (gB G + 99)), (1, .int v1), (3, .int v3)] [] := by
  unfold f_X11_layAll_b54 at hf
  refine ex_iload_n 2 (pc' := 55) dX11_layAll_54 rfl rfl rfl ?_
  refine ex_iflt (tgt := 74) (pc' := 58) dX11_layAll_55 (by decide) rfl (fun hc12 => ?_) (fun hc12 => ?_)
  · replace hf := if_t hc12 hf
    exact ex_sub [0, 1, 2] rfl (hX _ (Option.some.inj hf).symm)
  · replace hf := if_f hc12 hf
    refine ex_aload_n 0 (pc' := 59) dX11_layAll_58 rfl rfl rfl ?_
    refine ex_getR (pc' := 62) dX11_layAll_59 fl_X11_94 rfl (sh11_k hO) (sh11_F33 hO) rfl ?_
    refine ex_iload_n 2 (pc' := 63) dX11_layAll_62 rfl rfl rfl ?_
    obtain ⟨hg13, hf⟩ := of_guard hf
    refine ex_iald (pc' := 64) dX11_layAll_63 (sh11_T33 hO) (inb_in hg13) rfl ?_
    refine ex_iload_n 1 (pc' := 65) dX11_layAll_64 rfl rfl rfl ?_
    refine ex_icmpne (tgt := 74) (pc' := 68) dX11_layAll_65 (by decide) rfl (fun hc14 => ?_) (fun hc14 => ?_)
    · replace hf := if_t hc14 hf
      refine ex_iincc (lv' := [(3, .int (v3 + (-1))), (0, .ref (gB G + 99)), (1, .int v1)]) 2 (pc' := 71) dX11_layAll_68 rfl ic_m1 (Nat.le_of_ble_eq_true rfl) rfl rfl ?_
      refine ex_goto (tgt := 54) dX11_layAll_71 (by decide) ?_
      exact ex_sub [1, 2, 0] rfl (hC _ (Option.some.inj hf).symm)
    · replace hf := if_f hc14 hf
      exact ex_sub [0, 1, 2] rfl (hX _ (Option.some.inj hf).symm)
def f_X11_layAll_l54 (N : Nat) (v1 : Int32) (v3 : Int32) (I : MI) : Option (Int32) := loopN (fun s => f_X11_layAll_b54 N v1 s I) N v3
set_option maxRecDepth 100000 in
set_option maxHeartbeats 4000000 in
theorem k_X11_layAll_l54 {G : GX} {Q : State → Prop} {X : MX} (hO : shX11 X) {v1 : Int32}  {N0 : Nat} {I : MI} {L : ML} {out : (Int32)} (hX : ∀ (w3 : Int32), out = w3 → Ex G mX11_layAll rmX11_layAll Q (0, 0) X I L 74 [(0, .ref (gB G + 99)), (1, .int v1), (3, .int w3)] []) : ∀ (N : Nat) (v3 : Int32), loopN (fun s => f_X11_layAll_b54 N0 v1 s I) N v3 = some out → Ex G mX11_layAll rmX11_layAll Q (0, 0) X I L 54 [(0, .ref (gB G + 99)), (1, .int v1), (3, .int v3)] [] := by
  intro N
  induction N with
  | zero => intro v3 hf; exact absurd (loopN_zero hf) id
  | succ n ih =>
    intro v3 hf
    rcases loopN_succ hf with ⟨s, hb, hl⟩ | hb
    · skip
      refine k_X11_layAll_b54 hO  hb (fun _ he => ?_) (fun _ he => by cases he)
      cases he
      exact ih s hl
    · exact k_X11_layAll_b54 hO  hb (fun _ he => by cases he) (fun x0 he => hX x0 (Sum.inr.inj he))
def f_X11_layAll_b101 (N : Nat) (v1 : Int32) (v2 : Int32) (v4 : Int32) (v5 : Int32) (I : MI) : Option ((Int32 × MI) ⊕ (MI)) := (if v5 < v1 then if inb v5 6 then letv (upI I 127 (Int32.toNatClampNeg v5) v4) fun I23 => some (.inl (v5 + 1, I23)) else none else some (.inr I))
set_option maxRecDepth 100000 in
set_option maxHeartbeats 4000000 in
theorem k_X11_layAll_b101 {G : GX} {Q : State → Prop} {X : MX} (hO : shX11 X) {v1 : Int32} {v2 : Int32} {v4 : Int32}  {v5 : Int32} {N : Nat} {I : MI} {L : ML} {out : (Int32 × MI) ⊕ (MI)} (hf : f_X11_layAll_b101 N v1 v2 v4 v5 I = some out) (hC : ∀ (v5' : Int32) (I' : MI), out = .inl (v5', I') → Ex G mX11_layAll rmX11_layAll Q (0, 0) X I' L 101 [(0, .ref (gB G + 99)), (1, .int v1), (2, .int v2), (4, .int v4), (5, .int v5')] []) (hX : ∀ (I' : MI), out = .inr I' → Ex G mX11_layAll rmX11_layAll Q (0, 0) X I' L 122 [(0, .ref (gB G + 99)), (1, .int v1), (2, .int v2)] []) : Ex G mX11_layAll rmX11_layAll Q (0, 0) X I L 101 [(0, .ref (gB G + 99)), (1, .int v1), (2, .int v2), (4, .int v4), (5, .int v5)] [] := by
  unfold f_X11_layAll_b101 at hf
  refine ex_iload 4 (pc' := 103) dX11_layAll_101 rfl rfl ?_
  refine ex_iload_n 1 (pc' := 104) dX11_layAll_103 rfl rfl rfl ?_
  refine ex_icmpge (tgt := 122) (pc' := 107) dX11_layAll_104 (by decide) rfl (fun hc21 => ?_) (fun hc21 => ?_)
  · replace hf := if_t hc21 hf
    refine ex_aload_n 0 (pc' := 108) dX11_layAll_107 rfl rfl rfl ?_
    refine ex_getR (pc' := 111) dX11_layAll_108 fl_X11_94 rfl (sh11_k hO) (sh11_F33 hO) rfl ?_
    refine ex_iload 4 (pc' := 113) dX11_layAll_111 rfl rfl ?_
    refine ex_iload 3 (pc' := 115) dX11_layAll_113 rfl rfl ?_
    obtain ⟨hg22, hf⟩ := of_guard hf
    refine ex_iast (pc' := 116) dX11_layAll_115 (sh11_T33 hO) (inb_in hg22) rfl ?_
    obtain ⟨I23, hI23, hf⟩ := of_let hf
    rw [← hI23]
    refine ex_iincc (lv' := [(5, .int (v5 + 1)), (0, .ref (gB G + 99)), (1, .int v1), (2, .int v2), (4, .int v4)]) 4 (pc' := 119) dX11_layAll_116 rfl ic_1 (Nat.le_of_ble_eq_true rfl) rfl rfl ?_
    refine ex_goto (tgt := 101) dX11_layAll_119 (by decide) ?_
    exact ex_sub [1, 2, 3, 4, 0] rfl (hC _ _ (Option.some.inj hf).symm)
  · replace hf := if_f hc21 hf
    exact ex_sub [0, 1, 2] rfl (hX _ (Option.some.inj hf).symm)
def f_X11_layAll_l101 (N : Nat) (v1 : Int32) (v2 : Int32) (v4 : Int32) (v5 : Int32) (I : MI) : Option (MI) := loopN (fun s => f_X11_layAll_b101 N v1 v2 v4 s.1 s.2) N (v5, I)
set_option maxRecDepth 100000 in
set_option maxHeartbeats 4000000 in
theorem k_X11_layAll_l101 {G : GX} {Q : State → Prop} {X : MX} (hO : shX11 X) {v1 : Int32} {v2 : Int32} {v4 : Int32}  {N0 : Nat} {L : ML} {out : (MI)} (hX : ∀ (I' : MI), out = I' → Ex G mX11_layAll rmX11_layAll Q (0, 0) X I' L 122 [(0, .ref (gB G + 99)), (1, .int v1), (2, .int v2)] []) : ∀ (N : Nat) (v5 : Int32) (I : MI), loopN (fun s => f_X11_layAll_b101 N0 v1 v2 v4 s.1 s.2) N (v5, I) = some out → Ex G mX11_layAll rmX11_layAll Q (0, 0) X I L 101 [(0, .ref (gB G + 99)), (1, .int v1), (2, .int v2), (4, .int v4), (5, .int v5)] [] := by
  intro N
  induction N with
  | zero => intro v5 I hf; exact absurd (loopN_zero hf) id
  | succ n ih =>
    intro v5 I hf
    rcases loopN_succ hf with ⟨s, hb, hl⟩ | hb
    · obtain ⟨v5', I'⟩ := s
      refine k_X11_layAll_b101 hO  hb (fun _ _ he => ?_) (fun _ he => by cases he)
      cases he
      exact ih v5' I' hl
    · exact k_X11_layAll_b101 hO  hb (fun _ _ he => by cases he) (fun x0 he => hX x0 (Sum.inr.inj he))
def f_X11_layAll_b41_j83 (N : Nat) (v1 : Int32) (v3 : Int32) (s0 : Int32) (I : MI) : Option ((Int32 × MI) ⊕ (MI)) := (if s0 = 0 then some (.inl (s0, I)) else if inb v3 6 then letv ((I 127 (Int32.toNatClampNeg v3)) + 1) fun x20 => bnd1 (f_X11_layAll_l101 N v1 s0 x20 v3 I) fun I24 => some (.inl (s0, I24)) else none)
set_option maxRecDepth 100000 in
set_option maxHeartbeats 4000000 in
theorem k_X11_layAll_b41_j83 {G : GX} {Q : State → Prop} {X : MX} (hO : shX11 X) {v1 : Int32} {v3 : Int32} {s0 : Int32}   {N : Nat} {I : MI} {L : ML} {out : (Int32 × MI) ⊕ (MI)} (hf : f_X11_layAll_b41_j83 N v1 v3 s0 I = some out) (hC : ∀ (v2' : Int32) (I' : MI), out = .inl (v2', I') → Ex G mX11_layAll rmX11_layAll Q (0, 0) X I' L 41 [(0, .ref (gB G + 99)), (1, .int v1), (2, .int v2')] []) (hX : ∀ (I' : MI), out = .inr I' → Ex G mX11_layAll rmX11_layAll Q (0, 0) X I' L 125 [] []) : Ex G mX11_layAll rmX11_layAll Q (0, 0) X I L 83 [(0, .ref (gB G + 99)), (1, .int v1), (3, .int v3)] [.int s0] := by
  unfold f_X11_layAll_b41_j83 at hf
  refine ex_istore_n (lv' := [(2, .int s0), (0, .ref (gB G + 99)), (1, .int v1), (3, .int v3)]) (pc' := 84) dX11_layAll_83 rfl (Nat.le_of_ble_eq_true rfl) rfl rfl ?_
  refine ex_iload_n 0 (pc' := 85) dX11_layAll_84 rfl rfl rfl ?_
  refine ex_ifeq (tgt := 122) (pc' := 88) dX11_layAll_85 (by decide) rfl (fun hc18 => ?_) (fun hc18 => ?_)
  · replace hf := if_t hc18 hf
    refine ex_goto (tgt := 41) dX11_layAll_122 (by decide) ?_
    exact ex_sub [1, 2, 0] rfl (hC _ _ (Option.some.inj hf).symm)
  · replace hf := if_f hc18 hf
    refine ex_aload_n 1 (pc' := 89) dX11_layAll_88 rfl rfl rfl ?_
    refine ex_getR (pc' := 92) dX11_layAll_89 fl_X11_94 rfl (sh11_k hO) (sh11_F33 hO) rfl ?_
    refine ex_iload_n 3 (pc' := 93) dX11_layAll_92 rfl rfl rfl ?_
    obtain ⟨hg19, hf⟩ := of_guard hf
    refine ex_iald (pc' := 94) dX11_layAll_93 (sh11_T33 hO) (inb_in hg19) rfl ?_
    refine ex_iconst (v := 1) (pc' := 95) dX11_layAll_94 ic_1 rfl ?_
    refine ex_iadd (pc' := 96) dX11_layAll_95 rfl ?_
    obtain ⟨x20, hx20, hf⟩ := of_let hf
    rw [← hx20]
    refine ex_istore (lv' := [(4, .int x20), (2, .int s0), (0, .ref (gB G + 99)), (1, .int v1), (3, .int v3)]) (pc' := 98) dX11_layAll_96 (Nat.le_of_ble_eq_true rfl) rfl rfl ?_
    refine ex_iload_n 4 (pc' := 99) dX11_layAll_98 rfl rfl rfl ?_
    refine ex_istore (lv' := [(5, .int v3), (4, .int x20), (2, .int s0), (0, .ref (gB G + 99)), (1, .int v1), (3, .int v3)]) (pc' := 101) dX11_layAll_99 (Nat.le_of_ble_eq_true rfl) rfl rfl ?_
    refine ex_sub (lv' := [(0, .ref (gB G + 99)), (1, .int v1), (2, .int s0), (4, .int x20), (5, .int v3)]) [3, 4, 2, 1, 0] rfl ?_
    obtain ⟨I24, hq25, hf⟩ := of_bnd1 hf
    refine k_X11_layAll_l101 hO (fun I24' he => ?_) _ _ _ hq25
    cases he
    refine ex_goto (tgt := 41) dX11_layAll_122 (by decide) ?_
    exact ex_sub [0, 1, 2] rfl (hC _ _ (Option.some.inj hf).symm)
def f_X11_layAll_b41_j74 (N : Nat) (v1 : Int32) (v3 : Int32) (I : MI) : Option ((Int32 × MI) ⊕ (MI)) := (if v3 < 0 then f_X11_layAll_b41_j83 N v1 v3 0 I else f_X11_layAll_b41_j83 N v1 v3 1 I)
set_option maxRecDepth 100000 in
set_option maxHeartbeats 4000000 in
theorem k_X11_layAll_b41_j74 {G : GX} {Q : State → Prop} {X : MX} (hO : shX11 X) {v1 : Int32} {v3 : Int32}   {N : Nat} {I : MI} {L : ML} {out : (Int32 × MI) ⊕ (MI)} (hf : f_X11_layAll_b41_j74 N v1 v3 I = some out) (hC : ∀ (v2' : Int32) (I' : MI), out = .inl (v2', I') → Ex G mX11_layAll rmX11_layAll Q (0, 0) X I' L 41 [(0, .ref (gB G + 99)), (1, .int v1), (2, .int v2')] []) (hX : ∀ (I' : MI), out = .inr I' → Ex G mX11_layAll rmX11_layAll Q (0, 0) X I' L 125 [] []) : Ex G mX11_layAll rmX11_layAll Q (0, 0) X I L 74 [(0, .ref (gB G + 99)), (1, .int v1), (3, .int v3)] [] := by
  unfold f_X11_layAll_b41_j74 at hf
  refine ex_iload_n 2 (pc' := 75) dX11_layAll_74 rfl rfl rfl ?_
  refine ex_iflt (tgt := 82) (pc' := 78) dX11_layAll_75 (by decide) rfl (fun hc17 => ?_) (fun hc17 => ?_)
  · replace hf := if_t hc17 hf
    refine ex_iconst (v := 0) (pc' := 83) dX11_layAll_82 ic_0 rfl ?_
    refine ex_sub [0, 1, 2] rfl (k_X11_layAll_b41_j83 hO  hf hC hX)
  · replace hf := if_f hc17 hf
    refine ex_iconst (v := 1) (pc' := 79) dX11_layAll_78 ic_1 rfl ?_
    refine ex_goto (tgt := 83) dX11_layAll_79 (by decide) ?_
    refine ex_sub [0, 1, 2] rfl (k_X11_layAll_b41_j83 hO  hf hC hX)
def f_X11_layAll_b41 (N : Nat) (v1 : Int32) (v2 : Int32) (I : MI) : Option ((Int32 × MI) ⊕ (MI)) := (if v2 = 0 then some (.inr I) else bnd1 (f_X11_layOne N v1 I) fun I10 => bnd1 (f_X11_layAll_l54 N v1 (v1 - 1) I10) fun x15 => f_X11_layAll_b41_j74 N v1 x15 I10)
set_option maxRecDepth 100000 in
set_option maxHeartbeats 4000000 in
theorem k_X11_layAll_b41 {G : GX} {Q : State → Prop} {X : MX} (hO : shX11 X) {v1 : Int32}  {v2 : Int32} {N : Nat} {I : MI} {L : ML} {out : (Int32 × MI) ⊕ (MI)} (hf : f_X11_layAll_b41 N v1 v2 I = some out) (hC : ∀ (v2' : Int32) (I' : MI), out = .inl (v2', I') → Ex G mX11_layAll rmX11_layAll Q (0, 0) X I' L 41 [(0, .ref (gB G + 99)), (1, .int v1), (2, .int v2')] []) (hX : ∀ (I' : MI), out = .inr I' → Ex G mX11_layAll rmX11_layAll Q (0, 0) X I' L 125 [] []) : Ex G mX11_layAll rmX11_layAll Q (0, 0) X I L 41 [(0, .ref (gB G + 99)), (1, .int v1), (2, .int v2)] [] := by
  unfold f_X11_layAll_b41 at hf
  refine ex_iload_n 2 (pc' := 42) dX11_layAll_41 rfl rfl rfl ?_
  refine ex_ifeq (tgt := 125) (pc' := 45) dX11_layAll_42 (by decide) rfl (fun hc9 => ?_) (fun hc9 => ?_)
  · replace hf := if_t hc9 hf
    exact ex_sub [] rfl (hX _ (Option.some.inj hf).symm)
  · replace hf := if_f hc9 hf
    refine ex_aload_n 0 (pc' := 46) dX11_layAll_45 rfl rfl rfl ?_
    refine ex_iload_n 1 (pc' := 47) dX11_layAll_46 rfl rfl rfl ?_
    obtain ⟨I10, hq11, hf⟩ := of_bnd1 hf
    refine ex_callV_v (rm' := rmX11_layOne) (st := []) (pc' := 50) [.int v1] dX11_layAll_47 cl_X11_212 (k_X11_layOne G hO hq11) rfl (sh11_k hO) ⟨_, _, rfl⟩ rfl rfl (ROOM_of rfl) (Nat.le_of_ble_eq_true rfl) rfl rfl ?_
    refine ex_iload_n 1 (pc' := 51) dX11_layAll_50 rfl rfl rfl ?_
    refine ex_iconst (v := 1) (pc' := 52) dX11_layAll_51 ic_1 rfl ?_
    refine ex_isub (pc' := 53) dX11_layAll_52 rfl ?_
    refine ex_istore_n (lv' := [(3, .int (v1 - 1)), (0, .ref (gB G + 99)), (1, .int v1), (2, .int v2)]) (pc' := 54) dX11_layAll_53 rfl (Nat.le_of_ble_eq_true rfl) rfl rfl ?_
    refine ex_sub (lv' := [(0, .ref (gB G + 99)), (1, .int v1), (3, .int (v1 - 1))]) [1, 2, 0] rfl ?_
    obtain ⟨x15, hq16, hf⟩ := of_bnd1 hf
    refine k_X11_layAll_l54 hO (fun x15' he => ?_) _ _ hq16
    cases he
    refine ex_sub [0, 1, 2] rfl (k_X11_layAll_b41_j74 hO  hf hC hX)
def f_X11_layAll_l41 (N : Nat) (v1 : Int32) (v2 : Int32) (I : MI) : Option (MI) := loopN (fun s => f_X11_layAll_b41 N v1 s.1 s.2) N (v2, I)
set_option maxRecDepth 100000 in
set_option maxHeartbeats 4000000 in
theorem k_X11_layAll_l41 {G : GX} {Q : State → Prop} {X : MX} (hO : shX11 X) {v1 : Int32}  {N0 : Nat} {L : ML} {out : (MI)} (hX : ∀ (I' : MI), out = I' → Ex G mX11_layAll rmX11_layAll Q (0, 0) X I' L 125 [] []) : ∀ (N : Nat) (v2 : Int32) (I : MI), loopN (fun s => f_X11_layAll_b41 N0 v1 s.1 s.2) N (v2, I) = some out → Ex G mX11_layAll rmX11_layAll Q (0, 0) X I L 41 [(0, .ref (gB G + 99)), (1, .int v1), (2, .int v2)] [] := by
  intro N
  induction N with
  | zero => intro v2 I hf; exact absurd (loopN_zero hf) id
  | succ n ih =>
    intro v2 I hf
    rcases loopN_succ hf with ⟨s, hb, hl⟩ | hb
    · obtain ⟨v2', I'⟩ := s
      refine k_X11_layAll_b41 hO  hb (fun _ _ he => ?_) (fun _ he => by cases he)
      cases he
      exact ih v2' I' hl
    · exact k_X11_layAll_b41 hO  hb (fun _ _ he => by cases he) (fun x0 he => hX x0 (Sum.inr.inj he))
def f_X11_layAll (N : Nat) (v1 : Int32) (I : MI) : Option (MI) := (if (I 99 39) = v1 then some I else letv (upI I 99 39 v1) fun I2 => letv (upI I2 99 38 0) fun I3 => bnd1 (f_X11_layAll_l21 N v1 0 I3) fun I7 => bnd1 (f_X11_layAll_l41 N v1 1 I7) fun I26 => some I26)
set_option maxRecDepth 100000 in
set_option maxHeartbeats 4000000 in
theorem kb_X11_layAll {G : GX} {Q : State → Prop} {X : MX} (hO : shX11 X) {v1 : Int32}  {N : Nat} {I : MI} {L : ML} {out : MI} (hf : f_X11_layAll N v1 I = some out) (hR : ∀ (I' : MI), out = I' → Q = RetQ G none X I' L (0, 0)) : Ex G mX11_layAll rmX11_layAll Q (0, 0) X I L 0 [(0, .ref (gB G + 99)), (1, .int v1)] [] := by
  unfold f_X11_layAll at hf
  refine ex_aload_n 0 (pc' := 1) dX11_layAll_0 rfl rfl rfl ?_
  refine ex_getI (pc' := 4) dX11_layAll_1 fl_X11_206 rfl (sh11_k hO) rfl ?_
  refine ex_iload_n 1 (pc' := 5) dX11_layAll_4 rfl rfl rfl ?_
  refine ex_icmpne (tgt := 9) (pc' := 8) dX11_layAll_5 (by decide) rfl (fun hc1 => ?_) (fun hc1 => ?_)
  · replace hf := if_t hc1 hf
    exact ex_vret dX11_layAll_8 rfl (hR _ (Option.some.inj hf).symm)
  · replace hf := if_f hc1 hf
    refine ex_aload_n 0 (pc' := 10) dX11_layAll_9 rfl rfl rfl ?_
    refine ex_iload_n 1 (pc' := 11) dX11_layAll_10 rfl rfl rfl ?_
    refine ex_putI (pc' := 14) dX11_layAll_11 fl_X11_206 rfl (sh11_k hO) rfl ?_
    obtain ⟨I2, hI2, hf⟩ := of_let hf
    rw [← hI2]
    refine ex_aload_n 0 (pc' := 15) dX11_layAll_14 rfl rfl rfl ?_
    refine ex_iconst (v := 0) (pc' := 16) dX11_layAll_15 ic_0 rfl ?_
    refine ex_putI (pc' := 19) dX11_layAll_16 fl_X11_209 rfl (sh11_k hO) rfl ?_
    obtain ⟨I3, hI3, hf⟩ := of_let hf
    rw [← hI3]
    refine ex_iconst (v := 0) (pc' := 20) dX11_layAll_19 ic_0 rfl ?_
    refine ex_istore_n (lv' := [(2, .int 0), (0, .ref (gB G + 99)), (1, .int v1)]) (pc' := 21) dX11_layAll_20 rfl (Nat.le_of_ble_eq_true rfl) rfl rfl ?_
    refine ex_sub (lv' := [(0, .ref (gB G + 99)), (1, .int v1), (2, .int 0)]) [1, 2, 0] rfl ?_
    obtain ⟨I7, hq8, hf⟩ := of_bnd1 hf
    refine k_X11_layAll_l21 hO (fun I7' he => ?_) _ _ _ hq8
    cases he
    refine ex_iconst (v := 1) (pc' := 40) dX11_layAll_39 ic_1 rfl ?_
    refine ex_istore_n (lv' := [(2, .int 1), (0, .ref (gB G + 99)), (1, .int v1)]) (pc' := 41) dX11_layAll_40 rfl (Nat.le_of_ble_eq_true rfl) rfl rfl ?_
    refine ex_sub (lv' := [(0, .ref (gB G + 99)), (1, .int v1), (2, .int 1)]) [1, 2, 0] rfl ?_
    obtain ⟨I26, hq27, hf⟩ := of_bnd1 hf
    refine k_X11_layAll_l41 hO (fun I26' he => ?_) _ _ _ hq27
    cases he
    exact ex_vret dX11_layAll_125 rfl (hR _ (Option.some.inj hf).symm)
set_option maxRecDepth 100000 in
set_option maxHeartbeats 4000000 in
theorem k_X11_layAll (G : GX) {X : MX} (hO : shX11 X) {v1 : Int32}  {N : Nat} {I : MI} {L : ML} {I' : MI} (hf : f_X11_layAll N v1 I = some I') : Con G mX11_layAll yX11_layAll rmX11_layAll (fun B => [.ref (B + 99), .int v1]) X I L none X I' L :=
  Con.of (by decide) rfl (fun h => by cases h) (fun B => Nat.le_of_ble_eq_true rfl) (fun G => kb_X11_layAll hO  hf (fun _ he => by cases he; rfl))
theorem co_X11_137 : Cond.constantLong RX11 137 (6) ∈ lwg := lwg_at 1107 (by decide +kernel) rfl
theorem co_X11_223 : Cond.constantLong RX11 223 (-1) ∈ lwg := lwg_at 1275 (by decide +kernel) rfl
theorem cl_X11_215 : CLV RX11 215 yX11_layAll mX11_layAll none 1 := ⟨⟨lwg_at 1263 (by decide +kernel) rfl, lwg_at 1265 (by decide +kernel) rfl, lwg_at 33 (by decide +kernel) rfl, lwg_at 61 (by decide +kernel) rfl⟩, lwg_at 1266 (by decide +kernel) rfl, ⟨by decide +kernel, by decide +kernel, by decide +kernel⟩⟩
-- X11_all ('RookWordsModel', 'all', '(III)I')
def rmX11_all : RM := ((2, 49, 0, 0), false, (some FieldType.int))
def f_X11_all (N : Nat) (v1 : Int32) (v2 : Int32) (v3 : Int32) (I : MI) : Option (Int32 × MI) := bnd1 (f_X11_in (Int32.toInt64 v1) 1 6) fun r1 => (if r1 = 0 then some ((-2), I) else bnd1 (f_X11_in (Int32.toInt64 v3) (-1) (Int32.toInt64 (v1 - 1))) fun r4 => (if r4 = 0 then some ((-1), I) else bnd1 (f_X11_layAll N v1 I) fun I7 => (if v3 = (-1) then some (I7 99 38, I7) else bnd1 (f_X11_in (Int32.toInt64 v2) 0 (Int32.toInt64 ((I7 99 38) - 1))) fun r10 => (if r10 = 0 then some ((-5), I7) else if inb ((6 * v2) + v3) 5544 then some (I7 132 (Int32.toNatClampNeg ((6 * v2) + v3)), I7) else none))))
set_option maxRecDepth 100000 in
set_option maxHeartbeats 4000000 in
theorem kb_X11_all {G : GX} {Q : State → Prop} {X : MX} (hO : shX11 X) {v1 : Int32} {v2 : Int32} {v3 : Int32}  {N : Nat} {I : MI} {L : ML} {out : Int32 × MI} (hf : f_X11_all N v1 v2 v3 I = some out) (hR : ∀ (z : Int32) (I' : MI), out = (z, I') → Q = RetQ G (some (.int z)) X I' L (0, 0)) : Ex G mX11_all rmX11_all Q (0, 0) X I L 0 [(0, .ref (gB G + 99)), (1, .int v1), (2, .int v2), (3, .int v3)] [] := by
  unfold f_X11_all at hf
  refine ex_iload_n 1 (pc' := 1) dX11_all_0 rfl rfl rfl ?_
  refine ex_i2l (pc' := 2) dX11_all_1 rfl ?_
  refine ex_lconst (v := 1) (pc' := 3) dX11_all_2 lc_1 rfl ?_
  refine ex_ldc2 (v := 6) (pc' := 6) dX11_all_3 co_X11_137 rfl ?_
  obtain ⟨r1, hq2, hf⟩ := of_bnd1 hf
  refine ex_callS_i (rm' := rmX11_in) (st := []) (pc' := 9) [.long (Int32.toInt64 v1), .long 1, .long 6] dX11_all_6 cl_X11_129 (k_X11_in G hq2) rfl rfl rfl (ROOM_of rfl) (Nat.le_of_ble_eq_true rfl) rfl rfl ?_
  refine ex_ifne (tgt := 15) (pc' := 12) dX11_all_9 (by decide) rfl (fun hc3 => ?_) (fun hc3 => ?_)
  · replace hf := if_t hc3 hf
    refine ex_bipush (v := (-2)) (pc' := 14) dX11_all_12 bp_m2 rfl ?_
    exact ex_iret dX11_all_14 rfl (hR _ _ (Option.some.inj hf).symm)
  · replace hf := if_f hc3 hf
    refine ex_iload_n 3 (pc' := 16) dX11_all_15 rfl rfl rfl ?_
    refine ex_i2l (pc' := 17) dX11_all_16 rfl ?_
    refine ex_ldc2 (v := (-1)) (pc' := 20) dX11_all_17 co_X11_223 rfl ?_
    refine ex_iload_n 1 (pc' := 21) dX11_all_20 rfl rfl rfl ?_
    refine ex_iconst (v := 1) (pc' := 22) dX11_all_21 ic_1 rfl ?_
    refine ex_isub (pc' := 23) dX11_all_22 rfl ?_
    refine ex_i2l (pc' := 24) dX11_all_23 rfl ?_
    obtain ⟨r4, hq5, hf⟩ := of_bnd1 hf
    refine ex_callS_i (rm' := rmX11_in) (st := []) (pc' := 27) [.long (Int32.toInt64 v3), .long (-1), .long (Int32.toInt64 (v1 - 1))] dX11_all_24 cl_X11_129 (k_X11_in G hq5) rfl rfl rfl (ROOM_of rfl) (Nat.le_of_ble_eq_true rfl) rfl rfl ?_
    refine ex_ifne (tgt := 32) (pc' := 30) dX11_all_27 (by decide) rfl (fun hc6 => ?_) (fun hc6 => ?_)
    · replace hf := if_t hc6 hf
      refine ex_iconst (v := (-1)) (pc' := 31) dX11_all_30 ic_m1 rfl ?_
      exact ex_iret dX11_all_31 rfl (hR _ _ (Option.some.inj hf).symm)
    · replace hf := if_f hc6 hf
      refine ex_aload_n 0 (pc' := 33) dX11_all_32 rfl rfl rfl ?_
      refine ex_iload_n 1 (pc' := 34) dX11_all_33 rfl rfl rfl ?_
      obtain ⟨I7, hq8, hf⟩ := of_bnd1 hf
      refine ex_callV_v (rm' := rmX11_layAll) (st := []) (pc' := 37) [.int v1] dX11_all_34 cl_X11_215 (k_X11_layAll G hO hq8) rfl (sh11_k hO) ⟨_, _, rfl⟩ rfl rfl (ROOM_of rfl) (Nat.le_of_ble_eq_true rfl) rfl rfl ?_
      refine ex_iload_n 3 (pc' := 38) dX11_all_37 rfl rfl rfl ?_
      refine ex_iconst (v := (-1)) (pc' := 39) dX11_all_38 ic_m1 rfl ?_
      refine ex_icmpne (tgt := 47) (pc' := 42) dX11_all_39 (by decide) rfl (fun hc9 => ?_) (fun hc9 => ?_)
      · replace hf := if_t hc9 hf
        refine ex_aload_n 0 (pc' := 43) dX11_all_42 rfl rfl rfl ?_
        refine ex_getI (pc' := 46) dX11_all_43 fl_X11_209 rfl (sh11_k hO) rfl ?_
        exact ex_iret dX11_all_46 rfl (hR _ _ (Option.some.inj hf).symm)
      · replace hf := if_f hc9 hf
        refine ex_iload_n 2 (pc' := 48) dX11_all_47 rfl rfl rfl ?_
        refine ex_i2l (pc' := 49) dX11_all_48 rfl ?_
        refine ex_lconst (v := 0) (pc' := 50) dX11_all_49 lc_0 rfl ?_
        refine ex_aload_n 0 (pc' := 51) dX11_all_50 rfl rfl rfl ?_
        refine ex_getI (pc' := 54) dX11_all_51 fl_X11_209 rfl (sh11_k hO) rfl ?_
        refine ex_iconst (v := 1) (pc' := 55) dX11_all_54 ic_1 rfl ?_
        refine ex_isub (pc' := 56) dX11_all_55 rfl ?_
        refine ex_i2l (pc' := 57) dX11_all_56 rfl ?_
        obtain ⟨r10, hq11, hf⟩ := of_bnd1 hf
        refine ex_callS_i (rm' := rmX11_in) (st := []) (pc' := 60) [.long (Int32.toInt64 v2), .long 0, .long (Int32.toInt64 ((I7 99 38) - 1))] dX11_all_57 cl_X11_129 (k_X11_in G hq11) rfl rfl rfl (ROOM_of rfl) (Nat.le_of_ble_eq_true rfl) rfl rfl ?_
        refine ex_ifeq (tgt := 77) (pc' := 63) dX11_all_60 (by decide) rfl (fun hc12 => ?_) (fun hc12 => ?_)
        · replace hf := if_t hc12 hf
          refine ex_bipush (v := (-5)) (pc' := 79) dX11_all_77 bp_m5 rfl ?_
          exact ex_iret dX11_all_79 rfl (hR _ _ (Option.some.inj hf).symm)
        · replace hf := if_f hc12 hf
          refine ex_aload_n 0 (pc' := 64) dX11_all_63 rfl rfl rfl ?_
          refine ex_getR (pc' := 67) dX11_all_64 fl_X11_109 rfl (sh11_k hO) (sh11_F40 hO) rfl ?_
          refine ex_bipush (v := 6) (pc' := 69) dX11_all_67 bp_6 rfl ?_
          refine ex_iload_n 2 (pc' := 70) dX11_all_69 rfl rfl rfl ?_
          refine ex_imul (pc' := 71) dX11_all_70 rfl ?_
          refine ex_iload_n 3 (pc' := 72) dX11_all_71 rfl rfl rfl ?_
          refine ex_iadd (pc' := 73) dX11_all_72 rfl ?_
          obtain ⟨hg13, hf⟩ := of_guard hf
          refine ex_iald (pc' := 74) dX11_all_73 (sh11_T40 hO) (inb_in hg13) rfl ?_
          refine ex_goto (tgt := 79) dX11_all_74 (by decide) ?_
          exact ex_iret dX11_all_79 rfl (hR _ _ (Option.some.inj hf).symm)
set_option maxRecDepth 100000 in
set_option maxHeartbeats 4000000 in
theorem k_X11_all (G : GX) {X : MX} (hO : shX11 X) {v1 : Int32} {v2 : Int32} {v3 : Int32}  {N : Nat} {I : MI} {L : ML} {z : Int32} {I' : MI} (hf : f_X11_all N v1 v2 v3 I = some (z, I')) : Con G mX11_all yX11_all rmX11_all (fun B => [.ref (B + 99), .int v1, .int v2, .int v3]) X I L (some (.int z)) X I' L :=
  Con.of (by decide) rfl (fun h => by cases h) (fun B => Nat.le_of_ble_eq_true rfl) (fun G => kb_X11_all hO  hf (fun _ _ he => by cases he; rfl))
-- X11_allLetters ('RookWordsModel', 'allLetters', '()I')
def rmX11_allLetters : RM := ((0, 0, 0, 0), false, (some FieldType.int))
def f_X11_allLetters_b4 (N : Nat)  (v1 : Int32) (v2 : Int32) (I : MI) : Option ((Int32 × Int32) ⊕ (Int32)) := (if v2 < 6 then if inb v2 6 then letv (v1 + (I 100 (Int32.toNatClampNeg v2))) fun x3 => some (.inl (x3, v2 + 1)) else none else some (.inr v1))
set_option maxRecDepth 100000 in
set_option maxHeartbeats 4000000 in
theorem k_X11_allLetters_b4 {G : GX} {Q : State → Prop} {X : MX} (hO : shX11 X)   {v1 : Int32} {v2 : Int32} {N : Nat} {I : MI} {L : ML} {out : (Int32 × Int32) ⊕ (Int32)} (hf : f_X11_allLetters_b4 N v1 v2 I = some out) (hC : ∀ (v1' : Int32) (v2' : Int32), out = .inl (v1', v2') → Ex G mX11_allLetters rmX11_allLetters Q (0, 0) X I L 4 [(0, .ref (gB G + 99)), (1, .int v1'), (2, .int v2')] []) (hX : ∀ (w1 : Int32), out = .inr w1 → Ex G mX11_allLetters rmX11_allLetters Q (0, 0) X I L 25 [(1, .int w1)] []) : Ex G mX11_allLetters rmX11_allLetters Q (0, 0) X I L 4 [(0, .ref (gB G + 99)), (1, .int v1), (2, .int v2)] [] := by
  unfold f_X11_allLetters_b4 at hf
  refine ex_iload_n 2 (pc' := 5) dX11_allLetters_4 rfl rfl rfl ?_
  refine ex_bipush (v := 6) (pc' := 7) dX11_allLetters_5 bp_6 rfl ?_
  refine ex_icmpge (tgt := 25) (pc' := 10) dX11_allLetters_7 (by decide) rfl (fun hc1 => ?_) (fun hc1 => ?_)
  · replace hf := if_t hc1 hf
    refine ex_iload_n 1 (pc' := 11) dX11_allLetters_10 rfl rfl rfl ?_
    refine ex_aload_n 0 (pc' := 12) dX11_allLetters_11 rfl rfl rfl ?_
    refine ex_getR (pc' := 15) dX11_allLetters_12 fl_X11_9 rfl (sh11_k hO) (sh11_F0 hO) rfl ?_
    refine ex_iload_n 2 (pc' := 16) dX11_allLetters_15 rfl rfl rfl ?_
    obtain ⟨hg2, hf⟩ := of_guard hf
    refine ex_iald (pc' := 17) dX11_allLetters_16 (sh11_T0 hO) (inb_in hg2) rfl ?_
    refine ex_iadd (pc' := 18) dX11_allLetters_17 rfl ?_
    obtain ⟨x3, hx3, hf⟩ := of_let hf
    rw [← hx3]
    refine ex_istore_n (lv' := [(1, .int x3), (0, .ref (gB G + 99)), (2, .int v2)]) (pc' := 19) dX11_allLetters_18 rfl (Nat.le_of_ble_eq_true rfl) rfl rfl ?_
    refine ex_iincc (lv' := [(2, .int (v2 + 1)), (1, .int x3), (0, .ref (gB G + 99))]) 2 (pc' := 22) dX11_allLetters_19 rfl ic_1 (Nat.le_of_ble_eq_true rfl) rfl rfl ?_
    refine ex_goto (tgt := 4) dX11_allLetters_22 (by decide) ?_
    exact ex_sub [2, 1, 0] rfl (hC _ _ (Option.some.inj hf).symm)
  · replace hf := if_f hc1 hf
    exact ex_sub [1] rfl (hX _ (Option.some.inj hf).symm)
def f_X11_allLetters_l4 (N : Nat)  (v1 : Int32) (v2 : Int32) (I : MI) : Option (Int32) := loopN (fun s => f_X11_allLetters_b4 N s.1 s.2 I) N (v1, v2)
set_option maxRecDepth 100000 in
set_option maxHeartbeats 4000000 in
theorem k_X11_allLetters_l4 {G : GX} {Q : State → Prop} {X : MX} (hO : shX11 X)   {N0 : Nat} {I : MI} {L : ML} {out : (Int32)} (hX : ∀ (w1 : Int32), out = w1 → Ex G mX11_allLetters rmX11_allLetters Q (0, 0) X I L 25 [(1, .int w1)] []) : ∀ (N : Nat) (v1 : Int32) (v2 : Int32), loopN (fun s => f_X11_allLetters_b4 N0 s.1 s.2 I) N (v1, v2) = some out → Ex G mX11_allLetters rmX11_allLetters Q (0, 0) X I L 4 [(0, .ref (gB G + 99)), (1, .int v1), (2, .int v2)] [] := by
  intro N
  induction N with
  | zero => intro v1 v2 hf; exact absurd (loopN_zero hf) id
  | succ n ih =>
    intro v1 v2 hf
    rcases loopN_succ hf with ⟨s, hb, hl⟩ | hb
    · obtain ⟨v1', v2'⟩ := s
      refine k_X11_allLetters_b4 hO  hb (fun _ _ he => ?_) (fun _ he => by cases he)
      cases he
      exact ih v1' v2' hl
    · exact k_X11_allLetters_b4 hO  hb (fun _ _ he => by cases he) (fun x0 he => hX x0 (Sum.inr.inj he))
def f_X11_allLetters (N : Nat)  (I : MI) : Option (Int32) := bnd1 (f_X11_allLetters_l4 N 0 0 I) fun x4 => some x4
set_option maxRecDepth 100000 in
set_option maxHeartbeats 4000000 in
theorem kb_X11_allLetters {G : GX} {Q : State → Prop} {X : MX} (hO : shX11 X)   {N : Nat} {I : MI} {L : ML} {out : Int32} (hf : f_X11_allLetters N I = some out) (hR : ∀ (z : Int32), out = z → Q = RetQ G (some (.int z)) X I L (0, 0)) : Ex G mX11_allLetters rmX11_allLetters Q (0, 0) X I L 0 [(0, .ref (gB G + 99))] [] := by
  unfold f_X11_allLetters at hf
  refine ex_iconst (v := 0) (pc' := 1) dX11_allLetters_0 ic_0 rfl ?_
  refine ex_istore_n (lv' := [(1, .int 0), (0, .ref (gB G + 99))]) (pc' := 2) dX11_allLetters_1 rfl (Nat.le_of_ble_eq_true rfl) rfl rfl ?_
  refine ex_iconst (v := 0) (pc' := 3) dX11_allLetters_2 ic_0 rfl ?_
  refine ex_istore_n (lv' := [(2, .int 0), (1, .int 0), (0, .ref (gB G + 99))]) (pc' := 4) dX11_allLetters_3 rfl (Nat.le_of_ble_eq_true rfl) rfl rfl ?_
  refine ex_sub (lv' := [(0, .ref (gB G + 99)), (1, .int 0), (2, .int 0)]) [2, 1, 0] rfl ?_
  obtain ⟨x4, hq5, hf⟩ := of_bnd1 hf
  refine k_X11_allLetters_l4 hO (fun x4' he => ?_) _ _ _ hq5
  cases he
  refine ex_iload_n 0 (pc' := 26) dX11_allLetters_25 rfl rfl rfl ?_
  exact ex_iret dX11_allLetters_26 rfl (hR _ (Option.some.inj hf).symm)
set_option maxRecDepth 100000 in
set_option maxHeartbeats 4000000 in
theorem k_X11_allLetters (G : GX) {X : MX} (hO : shX11 X)   {N : Nat} {I : MI} {L : ML} {z : Int32} (hf : f_X11_allLetters N I = some z) : Con G mX11_allLetters yX11_allLetters rmX11_allLetters (fun B => [.ref (B + 99)]) X I L (some (.int z)) X I L :=
  Con.of (by decide) rfl (fun h => by cases h) (fun B => Nat.le_of_ble_eq_true rfl) (fun G => kb_X11_allLetters hO  hf (fun _ he => by cases he; rfl))
theorem fl_X11_22 : FLD RX11 22 11 3 true := ⟨RX11, TX11, 51, rfl, inX11, by decide, lwg_at 937 (by decide +kernel) rfl, nmX11, tyX11_ok, rfl, rfl⟩
theorem fl_X11_25 : FLD RX11 25 11 4 true := ⟨RX11, TX11, 51, rfl, inX11, by decide, lwg_at 938 (by decide +kernel) rfl, nmX11, tyX11_ok, rfl, rfl⟩
theorem fl_X11_175 : FLD RX11 175 11 9 false := ⟨RX11, TX11, 51, rfl, inX11, by decide, lwg_at 943 (by decide +kernel) rfl, nmX11, tyX11_ok, rfl, rfl⟩
-- X11_bare ('RookWordsModel', 'bare', '(II)V')
def rmX11_bare : RM := ((0, 0, 0, 0), false, none)
def f_X11_bare_b9 (N : Nat) (v1 : Int32) (v3 : Int32) (I : MI) : Option ((Int32 × MI) ⊕ (MI)) := (if v3 < 6 then if inb ((6 * v1) + v3) 36 then letv (upI I 104 (Int32.toNatClampNeg ((6 * v1) + v3)) 0) fun I5 => some (.inl (v3 + 1, I5)) else none else some (.inr I))
set_option maxRecDepth 100000 in
set_option maxHeartbeats 4000000 in
theorem k_X11_bare_b9 {G : GX} {Q : State → Prop} {X : MX} (hO : shX11 X) {v1 : Int32}  {v3 : Int32} {N : Nat} {I : MI} {L : ML} {out : (Int32 × MI) ⊕ (MI)} (hf : f_X11_bare_b9 N v1 v3 I = some out) (hC : ∀ (v3' : Int32) (I' : MI), out = .inl (v3', I') → Ex G mX11_bare rmX11_bare Q (0, 0) X I' L 9 [(0, .ref (gB G + 99)), (1, .int v1), (3, .int v3')] []) (hX : ∀ (I' : MI), out = .inr I' → Ex G mX11_bare rmX11_bare Q (0, 0) X I' L 33 [(0, .ref (gB G + 99))] []) : Ex G mX11_bare rmX11_bare Q (0, 0) X I L 9 [(0, .ref (gB G + 99)), (1, .int v1), (3, .int v3)] [] := by
  unfold f_X11_bare_b9 at hf
  refine ex_iload_n 2 (pc' := 10) dX11_bare_9 rfl rfl rfl ?_
  refine ex_bipush (v := 6) (pc' := 12) dX11_bare_10 bp_6 rfl ?_
  refine ex_icmpge (tgt := 33) (pc' := 15) dX11_bare_12 (by decide) rfl (fun hc3 => ?_) (fun hc3 => ?_)
  · replace hf := if_t hc3 hf
    refine ex_aload_n 0 (pc' := 16) dX11_bare_15 rfl rfl rfl ?_
    refine ex_getR (pc' := 19) dX11_bare_16 fl_X11_25 rfl (sh11_k hO) (sh11_F4 hO) rfl ?_
    refine ex_bipush (v := 6) (pc' := 21) dX11_bare_19 bp_6 rfl ?_
    refine ex_iload_n 1 (pc' := 22) dX11_bare_21 rfl rfl rfl ?_
    refine ex_imul (pc' := 23) dX11_bare_22 rfl ?_
    refine ex_iload_n 2 (pc' := 24) dX11_bare_23 rfl rfl rfl ?_
    refine ex_iadd (pc' := 25) dX11_bare_24 rfl ?_
    refine ex_iconst (v := 0) (pc' := 26) dX11_bare_25 ic_0 rfl ?_
    obtain ⟨hg4, hf⟩ := of_guard hf
    refine ex_iast (pc' := 27) dX11_bare_26 (sh11_T4 hO) (inb_in hg4) rfl ?_
    obtain ⟨I5, hI5, hf⟩ := of_let hf
    rw [← hI5]
    refine ex_iincc (lv' := [(3, .int (v3 + 1)), (0, .ref (gB G + 99)), (1, .int v1)]) 2 (pc' := 30) dX11_bare_27 rfl ic_1 (Nat.le_of_ble_eq_true rfl) rfl rfl ?_
    refine ex_goto (tgt := 9) dX11_bare_30 (by decide) ?_
    exact ex_sub [1, 2, 0] rfl (hC _ _ (Option.some.inj hf).symm)
  · replace hf := if_f hc3 hf
    exact ex_sub [0] rfl (hX _ (Option.some.inj hf).symm)
def f_X11_bare_l9 (N : Nat) (v1 : Int32) (v3 : Int32) (I : MI) : Option (MI) := loopN (fun s => f_X11_bare_b9 N v1 s.1 s.2) N (v3, I)
set_option maxRecDepth 100000 in
set_option maxHeartbeats 4000000 in
theorem k_X11_bare_l9 {G : GX} {Q : State → Prop} {X : MX} (hO : shX11 X) {v1 : Int32}  {N0 : Nat} {L : ML} {out : (MI)} (hX : ∀ (I' : MI), out = I' → Ex G mX11_bare rmX11_bare Q (0, 0) X I' L 33 [(0, .ref (gB G + 99))] []) : ∀ (N : Nat) (v3 : Int32) (I : MI), loopN (fun s => f_X11_bare_b9 N0 v1 s.1 s.2) N (v3, I) = some out → Ex G mX11_bare rmX11_bare Q (0, 0) X I L 9 [(0, .ref (gB G + 99)), (1, .int v1), (3, .int v3)] [] := by
  intro N
  induction N with
  | zero => intro v3 I hf; exact absurd (loopN_zero hf) id
  | succ n ih =>
    intro v3 I hf
    rcases loopN_succ hf with ⟨s, hb, hl⟩ | hb
    · obtain ⟨v3', I'⟩ := s
      refine k_X11_bare_b9 hO  hb (fun _ _ he => ?_) (fun _ he => by cases he)
      cases he
      exact ih v3' I' hl
    · exact k_X11_bare_b9 hO  hb (fun _ _ he => by cases he) (fun x0 he => hX x0 (Sum.inr.inj he))
def f_X11_bare (N : Nat) (v1 : Int32) (v2 : Int32) (I : MI) : Option (MI) := if inb v1 6 then letv (upI I 103 (Int32.toNatClampNeg v1) v2) fun I2 => bnd1 (f_X11_bare_l9 N v1 0 I2) fun I6 => letv (upI I6 99 9 0) fun I8 => some I8 else none
set_option maxRecDepth 100000 in
set_option maxHeartbeats 4000000 in
theorem kb_X11_bare {G : GX} {Q : State → Prop} {X : MX} (hO : shX11 X) {v1 : Int32} {v2 : Int32}  {N : Nat} {I : MI} {L : ML} {out : MI} (hf : f_X11_bare N v1 v2 I = some out) (hR : ∀ (I' : MI), out = I' → Q = RetQ G none X I' L (0, 0)) : Ex G mX11_bare rmX11_bare Q (0, 0) X I L 0 [(0, .ref (gB G + 99)), (1, .int v1), (2, .int v2)] [] := by
  unfold f_X11_bare at hf
  refine ex_aload_n 0 (pc' := 1) dX11_bare_0 rfl rfl rfl ?_
  refine ex_getR (pc' := 4) dX11_bare_1 fl_X11_22 rfl (sh11_k hO) (sh11_F3 hO) rfl ?_
  refine ex_iload_n 1 (pc' := 5) dX11_bare_4 rfl rfl rfl ?_
  refine ex_iload_n 2 (pc' := 6) dX11_bare_5 rfl rfl rfl ?_
  obtain ⟨hg1, hf⟩ := of_guard hf
  refine ex_iast (pc' := 7) dX11_bare_6 (sh11_T3 hO) (inb_in hg1) rfl ?_
  obtain ⟨I2, hI2, hf⟩ := of_let hf
  rw [← hI2]
  refine ex_iconst (v := 0) (pc' := 8) dX11_bare_7 ic_0 rfl ?_
  refine ex_istore_n (lv' := [(3, .int 0), (0, .ref (gB G + 99)), (1, .int v1), (2, .int v2)]) (pc' := 9) dX11_bare_8 rfl (Nat.le_of_ble_eq_true rfl) rfl rfl ?_
  refine ex_sub (lv' := [(0, .ref (gB G + 99)), (1, .int v1), (3, .int 0)]) [1, 2, 0] rfl ?_
  obtain ⟨I6, hq7, hf⟩ := of_bnd1 hf
  refine k_X11_bare_l9 hO (fun I6' he => ?_) _ _ _ hq7
  cases he
  refine ex_aload_n 0 (pc' := 34) dX11_bare_33 rfl rfl rfl ?_
  refine ex_iconst (v := 0) (pc' := 35) dX11_bare_34 ic_0 rfl ?_
  refine ex_putI (pc' := 38) dX11_bare_35 fl_X11_175 rfl (sh11_k hO) rfl ?_
  obtain ⟨I8, hI8, hf⟩ := of_let hf
  rw [← hI8]
  exact ex_vret dX11_bare_38 rfl (hR _ (Option.some.inj hf).symm)
set_option maxRecDepth 100000 in
set_option maxHeartbeats 4000000 in
theorem k_X11_bare (G : GX) {X : MX} (hO : shX11 X) {v1 : Int32} {v2 : Int32}  {N : Nat} {I : MI} {L : ML} {I' : MI} (hf : f_X11_bare N v1 v2 I = some I') : Con G mX11_bare yX11_bare rmX11_bare (fun B => [.ref (B + 99), .int v1, .int v2]) X I L none X I' L :=
  Con.of (by decide) rfl (fun h => by cases h) (fun B => Nat.le_of_ble_eq_true rfl) (fun G => kb_X11_bare hO  hf (fun _ he => by cases he; rfl))
theorem fl_X11_241 : FLD RX11 241 11 43 false := ⟨RX11, TX11, 51, rfl, inX11, by decide, lwg_at 977 (by decide +kernel) rfl, nmX11, tyX11_ok, rfl, rfl⟩
theorem fl_X11_244 : FLD RX11 244 11 44 false := ⟨RX11, TX11, 51, rfl, inX11, by decide, lwg_at 978 (by decide +kernel) rfl, nmX11, tyX11_ok, rfl, rfl⟩
theorem fl_X11_247 : FLD RX11 247 11 45 false := ⟨RX11, TX11, 51, rfl, inX11, by decide, lwg_at 979 (by decide +kernel) rfl, nmX11, tyX11_ok, rfl, rfl⟩
theorem fl_X11_250 : FLD RX11 250 11 46 false := ⟨RX11, TX11, 51, rfl, inX11, by decide, lwg_at 980 (by decide +kernel) rfl, nmX11, tyX11_ok, rfl, rfl⟩
theorem fl_X11_115 : FLD RX11 115 11 42 true := ⟨RX11, TX11, 51, rfl, inX11, by decide, lwg_at 976 (by decide +kernel) rfl, nmX11, tyX11_ok, rfl, rfl⟩
-- X11_begin ('RookWordsModel', 'begin', '()V')
def rmX11_begin : RM := ((0, 0, 0, 0), false, none)
def f_X11_begin  (I : MI) : Option (MI) := letv (upI I 99 43 0) fun I1 => letv (upI I1 99 44 0) fun I2 => letv (upI I2 99 45 0) fun I3 => letv (upI I3 99 46 0) fun I4 => if inb 0 6 then letv (upI I4 134 (Int32.toNatClampNeg 0) (-1)) fun I6 => some I6 else none
set_option maxRecDepth 100000 in
set_option maxHeartbeats 4000000 in
theorem kb_X11_begin {G : GX} {Q : State → Prop} {X : MX} (hO : shX11 X)   {I : MI} {L : ML} {out : MI} (hf : f_X11_begin I = some out) (hR : ∀ (I' : MI), out = I' → Q = RetQ G none X I' L (0, 0)) : Ex G mX11_begin rmX11_begin Q (0, 0) X I L 0 [(0, .ref (gB G + 99))] [] := by
  unfold f_X11_begin at hf
  refine ex_aload_n 0 (pc' := 1) dX11_begin_0 rfl rfl rfl ?_
  refine ex_iconst (v := 0) (pc' := 2) dX11_begin_1 ic_0 rfl ?_
  refine ex_putI (pc' := 5) dX11_begin_2 fl_X11_241 rfl (sh11_k hO) rfl ?_
  obtain ⟨I1, hI1, hf⟩ := of_let hf
  rw [← hI1]
  refine ex_aload_n 0 (pc' := 6) dX11_begin_5 rfl rfl rfl ?_
  refine ex_iconst (v := 0) (pc' := 7) dX11_begin_6 ic_0 rfl ?_
  refine ex_putI (pc' := 10) dX11_begin_7 fl_X11_244 rfl (sh11_k hO) rfl ?_
  obtain ⟨I2, hI2, hf⟩ := of_let hf
  rw [← hI2]
  refine ex_aload_n 0 (pc' := 11) dX11_begin_10 rfl rfl rfl ?_
  refine ex_iconst (v := 0) (pc' := 12) dX11_begin_11 ic_0 rfl ?_
  refine ex_putI (pc' := 15) dX11_begin_12 fl_X11_247 rfl (sh11_k hO) rfl ?_
  obtain ⟨I3, hI3, hf⟩ := of_let hf
  rw [← hI3]
  refine ex_aload_n 0 (pc' := 16) dX11_begin_15 rfl rfl rfl ?_
  refine ex_iconst (v := 0) (pc' := 17) dX11_begin_16 ic_0 rfl ?_
  refine ex_putI (pc' := 20) dX11_begin_17 fl_X11_250 rfl (sh11_k hO) rfl ?_
  obtain ⟨I4, hI4, hf⟩ := of_let hf
  rw [← hI4]
  refine ex_aload_n 0 (pc' := 21) dX11_begin_20 rfl rfl rfl ?_
  refine ex_getR (pc' := 24) dX11_begin_21 fl_X11_115 rfl (sh11_k hO) (sh11_F42 hO) rfl ?_
  refine ex_iconst (v := 0) (pc' := 25) dX11_begin_24 ic_0 rfl ?_
  refine ex_iconst (v := (-1)) (pc' := 26) dX11_begin_25 ic_m1 rfl ?_
  obtain ⟨hg5, hf⟩ := of_guard hf
  refine ex_iast (pc' := 27) dX11_begin_26 (sh11_T42 hO) (inb_in hg5) rfl ?_
  obtain ⟨I6, hI6, hf⟩ := of_let hf
  rw [← hI6]
  exact ex_vret dX11_begin_27 rfl (hR _ (Option.some.inj hf).symm)
set_option maxRecDepth 100000 in
set_option maxHeartbeats 4000000 in
theorem k_X11_begin (G : GX) {X : MX} (hO : shX11 X)   {I : MI} {L : ML} {I' : MI} (hf : f_X11_begin I = some I') : Con G mX11_begin yX11_begin rmX11_begin (fun B => [.ref (B + 99)]) X I L none X I' L :=
  Con.of (by decide) rfl (fun h => by cases h) (fun B => Nat.le_of_ble_eq_true rfl) (fun G => kb_X11_begin hO  hf (fun _ he => by cases he; rfl))
-- X11_ones ('RookWordsModel', 'ones', '(I)I')
def rmX11_ones : RM := ((0, 0, 0, 0), false, (some FieldType.int))
def f_X11_ones_b4 (N : Nat)  (v1 : Int32) (v2 : Int32) : Option ((Int32 × Int32) ⊕ (Int32)) := (if 0 < v2 then some (.inl (v1 + (jrem v2 2), v2 / 2)) else some (.inr v1))
set_option maxRecDepth 100000 in
set_option maxHeartbeats 4000000 in
theorem k_X11_ones_b4 {G : GX} {Q : State → Prop} {X : MX}   {v1 : Int32} {v2 : Int32} {N : Nat} {I : MI} {L : ML} {out : (Int32 × Int32) ⊕ (Int32)} (hf : f_X11_ones_b4 N v1 v2 = some out) (hC : ∀ (v1' : Int32) (v2' : Int32), out = .inl (v1', v2') → Ex G mX11_ones rmX11_ones Q (0, 0) X I L 4 [(1, .int v1'), (2, .int v2')] []) (hX : ∀ (w1 : Int32), out = .inr w1 → Ex G mX11_ones rmX11_ones Q (0, 0) X I L 21 [(1, .int w1)] []) : Ex G mX11_ones rmX11_ones Q (0, 0) X I L 4 [(1, .int v1), (2, .int v2)] [] := by
  unfold f_X11_ones_b4 at hf
  refine ex_iload_n 1 (pc' := 5) dX11_ones_4 rfl rfl rfl ?_
  refine ex_ifle (tgt := 21) (pc' := 8) dX11_ones_5 (by decide) rfl (fun hc1 => ?_) (fun hc1 => ?_)
  · replace hf := if_t hc1 hf
    refine ex_iload_n 0 (pc' := 9) dX11_ones_8 rfl rfl rfl ?_
    refine ex_iload_n 1 (pc' := 10) dX11_ones_9 rfl rfl rfl ?_
    refine ex_iconst (v := 2) (pc' := 11) dX11_ones_10 ic_2 rfl ?_
    refine ex_irem (pc' := 12) dX11_ones_11 (by decide) rfl ?_
    refine ex_iadd (pc' := 13) dX11_ones_12 rfl ?_
    refine ex_istore_n (lv' := [(1, .int (v1 + (jrem v2 2))), (2, .int v2)]) (pc' := 14) dX11_ones_13 rfl (Nat.le_of_ble_eq_true rfl) rfl rfl ?_
    refine ex_iload_n 1 (pc' := 15) dX11_ones_14 rfl rfl rfl ?_
    refine ex_iconst (v := 2) (pc' := 16) dX11_ones_15 ic_2 rfl ?_
    refine ex_idiv (pc' := 17) dX11_ones_16 (by decide) rfl ?_
    refine ex_istore_n (lv' := [(2, .int (v2 / 2)), (1, .int (v1 + (jrem v2 2)))]) (pc' := 18) dX11_ones_17 rfl (Nat.le_of_ble_eq_true rfl) rfl rfl ?_
    refine ex_goto (tgt := 4) dX11_ones_18 (by decide) ?_
    exact ex_sub [1, 0] rfl (hC _ _ (Option.some.inj hf).symm)
  · replace hf := if_f hc1 hf
    exact ex_sub [0] rfl (hX _ (Option.some.inj hf).symm)
def f_X11_ones_l4 (N : Nat)  (v1 : Int32) (v2 : Int32) : Option (Int32) := loopN (fun s => f_X11_ones_b4 N s.1 s.2) N (v1, v2)
set_option maxRecDepth 100000 in
set_option maxHeartbeats 4000000 in
theorem k_X11_ones_l4 {G : GX} {Q : State → Prop} {X : MX}   {N0 : Nat} {I : MI} {L : ML} {out : (Int32)} (hX : ∀ (w1 : Int32), out = w1 → Ex G mX11_ones rmX11_ones Q (0, 0) X I L 21 [(1, .int w1)] []) : ∀ (N : Nat) (v1 : Int32) (v2 : Int32), loopN (fun s => f_X11_ones_b4 N0 s.1 s.2) N (v1, v2) = some out → Ex G mX11_ones rmX11_ones Q (0, 0) X I L 4 [(1, .int v1), (2, .int v2)] [] := by
  intro N
  induction N with
  | zero => intro v1 v2 hf; exact absurd (loopN_zero hf) id
  | succ n ih =>
    intro v1 v2 hf
    rcases loopN_succ hf with ⟨s, hb, hl⟩ | hb
    · obtain ⟨v1', v2'⟩ := s
      refine k_X11_ones_b4  hb (fun _ _ he => ?_) (fun _ he => by cases he)
      cases he
      exact ih v1' v2' hl
    · exact k_X11_ones_b4  hb (fun _ _ he => by cases he) (fun x0 he => hX x0 (Sum.inr.inj he))
def f_X11_ones (N : Nat) (v0 : Int32) : Option (Int32) := bnd1 (f_X11_ones_l4 N 0 v0) fun x2 => some x2
set_option maxRecDepth 100000 in
set_option maxHeartbeats 4000000 in
theorem kb_X11_ones {G : GX} {Q : State → Prop} {X : MX} {v0 : Int32}  {N : Nat} {I : MI} {L : ML} {out : Int32} (hf : f_X11_ones N v0 = some out) (hR : ∀ (z : Int32), out = z → Q = RetQ G (some (.int z)) X I L (0, 0)) : Ex G mX11_ones rmX11_ones Q (0, 0) X I L 0 [(0, .int v0)] [] := by
  unfold f_X11_ones at hf
  refine ex_iconst (v := 0) (pc' := 1) dX11_ones_0 ic_0 rfl ?_
  refine ex_istore_n (lv' := [(1, .int 0), (0, .int v0)]) (pc' := 2) dX11_ones_1 rfl (Nat.le_of_ble_eq_true rfl) rfl rfl ?_
  refine ex_iload_n 1 (pc' := 3) dX11_ones_2 rfl rfl rfl ?_
  refine ex_istore_n (lv' := [(2, .int v0), (1, .int 0), (0, .int v0)]) (pc' := 4) dX11_ones_3 rfl (Nat.le_of_ble_eq_true rfl) rfl rfl ?_
  refine ex_sub (lv' := [(1, .int 0), (2, .int v0)]) [1, 0] rfl ?_
  obtain ⟨x2, hq3, hf⟩ := of_bnd1 hf
  refine k_X11_ones_l4 (fun x2' he => ?_) _ _ _ hq3
  cases he
  refine ex_iload_n 0 (pc' := 22) dX11_ones_21 rfl rfl rfl ?_
  exact ex_iret dX11_ones_22 rfl (hR _ (Option.some.inj hf).symm)
set_option maxRecDepth 100000 in
set_option maxHeartbeats 4000000 in
theorem k_X11_ones (G : GX) {X : MX} {v0 : Int32}  {N : Nat} {I : MI} {L : ML} {z : Int32} (hf : f_X11_ones N v0 = some z) : Con G mX11_ones yX11_ones rmX11_ones (fun B => [.int v0]) X I L (some (.int z)) X I L :=
  Con.of (by decide) rfl (fun h => by cases h) (fun B => Nat.le_of_ble_eq_true rfl) (fun G => kb_X11_ones  hf (fun _ he => by cases he; rfl))
theorem cl_X11_172 : CLS RX11 172 yX11_ones mX11_ones (some FieldType.int) 1 := ⟨⟨lwg_at 1191 (by decide +kernel) rfl, lwg_at 1192 (by decide +kernel) rfl, lwg_at 61 (by decide +kernel) rfl⟩, lwg_at 1193 (by decide +kernel) rfl, ⟨by decide +kernel, by decide +kernel, by decide +kernel⟩⟩
-- X11_cells ('RookWordsModel', 'cells', '(I)I')
def rmX11_cells : RM := ((1, 22, 0, 0), false, (some FieldType.int))
def f_X11_cells_b4 (N : Nat) (v1 : Int32) (v2 : Int32) (v3 : Int32) (I : MI) : Option ((Int32 × Int32) ⊕ (Int32)) := if inb v1 6 then (if v3 < (I 103 (Int32.toNatClampNeg v1)) then if inb ((6 * v1) + v3) 36 then bnd1 (f_X11_ones N (I 104 (Int32.toNatClampNeg ((6 * v1) + v3)))) fun r4 => some (.inl (v2 + r4, v3 + 1)) else none else some (.inr v2)) else none
set_option maxRecDepth 100000 in
set_option maxHeartbeats 4000000 in
theorem k_X11_cells_b4 {G : GX} {Q : State → Prop} {X : MX} (hO : shX11 X) {v1 : Int32}  {v2 : Int32} {v3 : Int32} {N : Nat} {I : MI} {L : ML} {out : (Int32 × Int32) ⊕ (Int32)} (hf : f_X11_cells_b4 N v1 v2 v3 I = some out) (hC : ∀ (v2' : Int32) (v3' : Int32), out = .inl (v2', v3') → Ex G mX11_cells rmX11_cells Q (0, 0) X I L 4 [(0, .ref (gB G + 99)), (1, .int v1), (2, .int v2'), (3, .int v3')] []) (hX : ∀ (w2 : Int32), out = .inr w2 → Ex G mX11_cells rmX11_cells Q (0, 0) X I L 37 [(2, .int w2)] []) : Ex G mX11_cells rmX11_cells Q (0, 0) X I L 4 [(0, .ref (gB G + 99)), (1, .int v1), (2, .int v2), (3, .int v3)] [] := by
  unfold f_X11_cells_b4 at hf
  refine ex_iload_n 3 (pc' := 5) dX11_cells_4 rfl rfl rfl ?_
  refine ex_aload_n 0 (pc' := 6) dX11_cells_5 rfl rfl rfl ?_
  refine ex_getR (pc' := 9) dX11_cells_6 fl_X11_22 rfl (sh11_k hO) (sh11_F3 hO) rfl ?_
  refine ex_iload_n 1 (pc' := 10) dX11_cells_9 rfl rfl rfl ?_
  obtain ⟨hg1, hf⟩ := of_guard hf
  refine ex_iald (pc' := 11) dX11_cells_10 (sh11_T3 hO) (inb_in hg1) rfl ?_
  refine ex_icmpge (tgt := 37) (pc' := 14) dX11_cells_11 (by decide) rfl (fun hc2 => ?_) (fun hc2 => ?_)
  · replace hf := if_t hc2 hf
    refine ex_iload_n 2 (pc' := 15) dX11_cells_14 rfl rfl rfl ?_
    refine ex_aload_n 0 (pc' := 16) dX11_cells_15 rfl rfl rfl ?_
    refine ex_getR (pc' := 19) dX11_cells_16 fl_X11_25 rfl (sh11_k hO) (sh11_F4 hO) rfl ?_
    refine ex_bipush (v := 6) (pc' := 21) dX11_cells_19 bp_6 rfl ?_
    refine ex_iload_n 1 (pc' := 22) dX11_cells_21 rfl rfl rfl ?_
    refine ex_imul (pc' := 23) dX11_cells_22 rfl ?_
    refine ex_iload_n 3 (pc' := 24) dX11_cells_23 rfl rfl rfl ?_
    refine ex_iadd (pc' := 25) dX11_cells_24 rfl ?_
    obtain ⟨hg3, hf⟩ := of_guard hf
    refine ex_iald (pc' := 26) dX11_cells_25 (sh11_T4 hO) (inb_in hg3) rfl ?_
    obtain ⟨r4, hq5, hf⟩ := of_bnd1 hf
    refine ex_callS_i (rm' := rmX11_ones) (st := [.int v2]) (pc' := 29) [.int (I 104 (Int32.toNatClampNeg ((6 * v1) + v3)))] dX11_cells_26 cl_X11_172 (k_X11_ones G hq5) rfl rfl rfl (ROOM_of rfl) (Nat.le_of_ble_eq_true rfl) rfl rfl ?_
    refine ex_iadd (pc' := 30) dX11_cells_29 rfl ?_
    refine ex_istore_n (lv' := [(2, .int (v2 + r4)), (0, .ref (gB G + 99)), (1, .int v1), (3, .int v3)]) (pc' := 31) dX11_cells_30 rfl (Nat.le_of_ble_eq_true rfl) rfl rfl ?_
    refine ex_iincc (lv' := [(3, .int (v3 + 1)), (2, .int (v2 + r4)), (0, .ref (gB G + 99)), (1, .int v1)]) 3 (pc' := 34) dX11_cells_31 rfl ic_1 (Nat.le_of_ble_eq_true rfl) rfl rfl ?_
    refine ex_goto (tgt := 4) dX11_cells_34 (by decide) ?_
    exact ex_sub [2, 3, 1, 0] rfl (hC _ _ (Option.some.inj hf).symm)
  · replace hf := if_f hc2 hf
    exact ex_sub [2] rfl (hX _ (Option.some.inj hf).symm)
def f_X11_cells_l4 (N : Nat) (v1 : Int32) (v2 : Int32) (v3 : Int32) (I : MI) : Option (Int32) := loopN (fun s => f_X11_cells_b4 N v1 s.1 s.2 I) N (v2, v3)
set_option maxRecDepth 100000 in
set_option maxHeartbeats 4000000 in
theorem k_X11_cells_l4 {G : GX} {Q : State → Prop} {X : MX} (hO : shX11 X) {v1 : Int32}  {N0 : Nat} {I : MI} {L : ML} {out : (Int32)} (hX : ∀ (w2 : Int32), out = w2 → Ex G mX11_cells rmX11_cells Q (0, 0) X I L 37 [(2, .int w2)] []) : ∀ (N : Nat) (v2 : Int32) (v3 : Int32), loopN (fun s => f_X11_cells_b4 N0 v1 s.1 s.2 I) N (v2, v3) = some out → Ex G mX11_cells rmX11_cells Q (0, 0) X I L 4 [(0, .ref (gB G + 99)), (1, .int v1), (2, .int v2), (3, .int v3)] [] := by
  intro N
  induction N with
  | zero => intro v2 v3 hf; exact absurd (loopN_zero hf) id
  | succ n ih =>
    intro v2 v3 hf
    rcases loopN_succ hf with ⟨s, hb, hl⟩ | hb
    · obtain ⟨v2', v3'⟩ := s
      refine k_X11_cells_b4 hO  hb (fun _ _ he => ?_) (fun _ he => by cases he)
      cases he
      exact ih v2' v3' hl
    · exact k_X11_cells_b4 hO  hb (fun _ _ he => by cases he) (fun x0 he => hX x0 (Sum.inr.inj he))
def f_X11_cells (N : Nat) (v1 : Int32) (I : MI) : Option (Int32) := bnd1 (f_X11_cells_l4 N v1 0 0 I) fun x6 => some x6
set_option maxRecDepth 100000 in
set_option maxHeartbeats 4000000 in
theorem kb_X11_cells {G : GX} {Q : State → Prop} {X : MX} (hO : shX11 X) {v1 : Int32}  {N : Nat} {I : MI} {L : ML} {out : Int32} (hf : f_X11_cells N v1 I = some out) (hR : ∀ (z : Int32), out = z → Q = RetQ G (some (.int z)) X I L (0, 0)) : Ex G mX11_cells rmX11_cells Q (0, 0) X I L 0 [(0, .ref (gB G + 99)), (1, .int v1)] [] := by
  unfold f_X11_cells at hf
  refine ex_iconst (v := 0) (pc' := 1) dX11_cells_0 ic_0 rfl ?_
  refine ex_istore_n (lv' := [(2, .int 0), (0, .ref (gB G + 99)), (1, .int v1)]) (pc' := 2) dX11_cells_1 rfl (Nat.le_of_ble_eq_true rfl) rfl rfl ?_
  refine ex_iconst (v := 0) (pc' := 3) dX11_cells_2 ic_0 rfl ?_
  refine ex_istore_n (lv' := [(3, .int 0), (2, .int 0), (0, .ref (gB G + 99)), (1, .int v1)]) (pc' := 4) dX11_cells_3 rfl (Nat.le_of_ble_eq_true rfl) rfl rfl ?_
  refine ex_sub (lv' := [(0, .ref (gB G + 99)), (1, .int v1), (2, .int 0), (3, .int 0)]) [2, 3, 1, 0] rfl ?_
  obtain ⟨x6, hq7, hf⟩ := of_bnd1 hf
  refine k_X11_cells_l4 hO (fun x6' he => ?_) _ _ _ hq7
  cases he
  refine ex_iload_n 0 (pc' := 38) dX11_cells_37 rfl rfl rfl ?_
  exact ex_iret dX11_cells_38 rfl (hR _ (Option.some.inj hf).symm)
set_option maxRecDepth 100000 in
set_option maxHeartbeats 4000000 in
theorem k_X11_cells (G : GX) {X : MX} (hO : shX11 X) {v1 : Int32}  {N : Nat} {I : MI} {L : ML} {z : Int32} (hf : f_X11_cells N v1 I = some z) : Con G mX11_cells yX11_cells rmX11_cells (fun B => [.ref (B + 99), .int v1]) X I L (some (.int z)) X I L :=
  Con.of (by decide) rfl (fun h => by cases h) (fun B => Nat.le_of_ble_eq_true rfl) (fun G => kb_X11_cells hO  hf (fun _ he => by cases he; rfl))
theorem cl_X11_179 : CLV RX11 179 yX11_bare mX11_bare none 2 := ⟨⟨lwg_at 1175 (by decide +kernel) rfl, lwg_at 1177 (by decide +kernel) rfl, lwg_at 24 (by decide +kernel) rfl, lwg_at 61 (by decide +kernel) rfl⟩, lwg_at 1178 (by decide +kernel) rfl, ⟨by decide +kernel, by decide +kernel, by decide +kernel⟩⟩
theorem cl_X11_186 : CLV RX11 186 yX11_cells mX11_cells (some FieldType.int) 1 := ⟨⟨lwg_at 1187 (by decide +kernel) rfl, lwg_at 1189 (by decide +kernel) rfl, lwg_at 26 (by decide +kernel) rfl, lwg_at 61 (by decide +kernel) rfl⟩, lwg_at 1190 (by decide +kernel) rfl, ⟨by decide +kernel, by decide +kernel, by decide +kernel⟩⟩
-- X11_board ('RookWordsModel', 'board', '(II)I')
def rmX11_board : RM := ((2, 45, 0, 0), false, (some FieldType.int))
def f_X11_board_b124 (N : Nat) (v1 : Int32) (v2 : Int32) (v6 : Int32) (v7 : Int32) (v8 : Int32) (v9 : Int32) (I : MI) : Option ((Int32 × MI) ⊕ (MI)) := (if v9 < v6 then if inb ((6 * v1) + v9) 36 then if inb ((6 * v1) + v9) 36 then letv (upI I 104 (Int32.toNatClampNeg ((6 * v1) + v9)) ((I 104 (Int32.toNatClampNeg ((6 * v1) + v9))) ||| (jshl 1 v7))) fun I24 => some (.inl (v9 + 1, I24)) else none else none else some (.inr I))
set_option maxRecDepth 100000 in
set_option maxHeartbeats 4000000 in
theorem k_X11_board_b124 {G : GX} {Q : State → Prop} {X : MX} (hO : shX11 X) {v1 : Int32} {v2 : Int32} {v6 : Int32} {v7 : Int32} {v8 : Int32}  {v9 : Int32} {N : Nat} {I : MI} {L : ML} {out : (Int32 × MI) ⊕ (MI)} (hf : f_X11_board_b124 N v1 v2 v6 v7 v8 v9 I = some out) (hC : ∀ (v9' : Int32) (I' : MI), out = .inl (v9', I') → Ex G mX11_board rmX11_board Q (0, 0) X I' L 124 [(0, .ref (gB G + 99)), (1, .int v1), (2, .int v2), (6, .int v6), (7, .int v7), (8, .int v8), (9, .int v9')] []) (hX : ∀ (I' : MI), out = .inr I' → Ex G mX11_board rmX11_board Q (0, 0) X I' L 156 [(0, .ref (gB G + 99)), (1, .int v1), (2, .int v2), (6, .int v6), (7, .int v7), (8, .int v8)] []) : Ex G mX11_board rmX11_board Q (0, 0) X I L 124 [(0, .ref (gB G + 99)), (1, .int v1), (2, .int v2), (6, .int v6), (7, .int v7), (8, .int v8), (9, .int v9)] [] := by
  unfold f_X11_board_b124 at hf
  refine ex_iload 6 (pc' := 126) dX11_board_124 rfl rfl ?_
  refine ex_iload 3 (pc' := 128) dX11_board_126 rfl rfl ?_
  refine ex_icmpge (tgt := 156) (pc' := 131) dX11_board_128 (by decide) rfl (fun hc21 => ?_) (fun hc21 => ?_)
  · replace hf := if_t hc21 hf
    refine ex_aload_n 0 (pc' := 132) dX11_board_131 rfl rfl rfl ?_
    refine ex_getR (pc' := 135) dX11_board_132 fl_X11_25 rfl (sh11_k hO) (sh11_F4 hO) rfl ?_
    refine ex_bipush (v := 6) (pc' := 137) dX11_board_135 bp_6 rfl ?_
    refine ex_iload_n 1 (pc' := 138) dX11_board_137 rfl rfl rfl ?_
    refine ex_imul (pc' := 139) dX11_board_138 rfl ?_
    refine ex_iload 6 (pc' := 141) dX11_board_139 rfl rfl ?_
    refine ex_iadd (pc' := 142) dX11_board_141 rfl ?_
    refine ex_dup2 (pc' := 143) dX11_board_142 rfl rfl rfl ?_
    obtain ⟨hg22, hf⟩ := of_guard hf
    refine ex_iald (pc' := 144) dX11_board_143 (sh11_T4 hO) (inb_in hg22) rfl ?_
    refine ex_iconst (v := 1) (pc' := 145) dX11_board_144 ic_1 rfl ?_
    refine ex_iload 4 (pc' := 147) dX11_board_145 rfl rfl ?_
    refine ex_ishl (pc' := 148) dX11_board_147 rfl ?_
    refine ex_ior (pc' := 149) dX11_board_148 rfl ?_
    obtain ⟨hg23, hf⟩ := of_guard hf
    refine ex_iast (pc' := 150) dX11_board_149 (sh11_T4 hO) (inb_in hg23) rfl ?_
    obtain ⟨I24, hI24, hf⟩ := of_let hf
    rw [← hI24]
    refine ex_iincc (lv' := [(9, .int (v9 + 1)), (0, .ref (gB G + 99)), (1, .int v1), (2, .int v2), (6, .int v6), (7, .int v7), (8, .int v8)]) 6 (pc' := 153) dX11_board_150 rfl ic_1 (Nat.le_of_ble_eq_true rfl) rfl rfl ?_
    refine ex_goto (tgt := 124) dX11_board_153 (by decide) ?_
    exact ex_sub [1, 2, 3, 4, 5, 6, 0] rfl (hC _ _ (Option.some.inj hf).symm)
  · replace hf := if_f hc21 hf
    exact ex_sub [0, 1, 2, 3, 4, 5] rfl (hX _ (Option.some.inj hf).symm)
def f_X11_board_l124 (N : Nat) (v1 : Int32) (v2 : Int32) (v6 : Int32) (v7 : Int32) (v8 : Int32) (v9 : Int32) (I : MI) : Option (MI) := loopN (fun s => f_X11_board_b124 N v1 v2 v6 v7 v8 s.1 s.2) N (v9, I)
set_option maxRecDepth 100000 in
set_option maxHeartbeats 4000000 in
theorem k_X11_board_l124 {G : GX} {Q : State → Prop} {X : MX} (hO : shX11 X) {v1 : Int32} {v2 : Int32} {v6 : Int32} {v7 : Int32} {v8 : Int32}  {N0 : Nat} {L : ML} {out : (MI)} (hX : ∀ (I' : MI), out = I' → Ex G mX11_board rmX11_board Q (0, 0) X I' L 156 [(0, .ref (gB G + 99)), (1, .int v1), (2, .int v2), (6, .int v6), (7, .int v7), (8, .int v8)] []) : ∀ (N : Nat) (v9 : Int32) (I : MI), loopN (fun s => f_X11_board_b124 N0 v1 v2 v6 v7 v8 s.1 s.2) N (v9, I) = some out → Ex G mX11_board rmX11_board Q (0, 0) X I L 124 [(0, .ref (gB G + 99)), (1, .int v1), (2, .int v2), (6, .int v6), (7, .int v7), (8, .int v8), (9, .int v9)] [] := by
  intro N
  induction N with
  | zero => intro v9 I hf; exact absurd (loopN_zero hf) id
  | succ n ih =>
    intro v9 I hf
    rcases loopN_succ hf with ⟨s, hb, hl⟩ | hb
    · obtain ⟨v9', I'⟩ := s
      refine k_X11_board_b124 hO  hb (fun _ _ he => ?_) (fun _ he => by cases he)
      cases he
      exact ih v9' I' hl
    · exact k_X11_board_b124 hO  hb (fun _ _ he => by cases he) (fun x0 he => hX x0 (Sum.inr.inj he))
def f_X11_board_b88 (N : Nat) (v1 : Int32) (v2 : Int32) (v6 : Int32) (v7 : Int32) (v8 : Int32) (I : MI) : Option ((Int32 × Int32 × Int32 × MI) ⊕ (MI)) := if inb v2 6 then (if v8 < (I 100 (Int32.toNatClampNeg v2)) then if inb ((12 * v2) + v8) 72 then (if (I 101 (Int32.toNatClampNeg ((12 * v2) + v8))) = 1 then some (.inl (v6 + 1, v7, v8 + 1, I)) else bnd1 (f_X11_board_l124 N v1 v2 v6 v7 v8 0 I) fun I25 => some (.inl (v6, v7 + 1, v8 + 1, I25))) else none else some (.inr I)) else none
set_option maxRecDepth 100000 in
set_option maxHeartbeats 4000000 in
theorem k_X11_board_b88 {G : GX} {Q : State → Prop} {X : MX} (hO : shX11 X) {v1 : Int32} {v2 : Int32}  {v6 : Int32} {v7 : Int32} {v8 : Int32} {N : Nat} {I : MI} {L : ML} {out : (Int32 × Int32 × Int32 × MI) ⊕ (MI)} (hf : f_X11_board_b88 N v1 v2 v6 v7 v8 I = some out) (hC : ∀ (v6' : Int32) (v7' : Int32) (v8' : Int32) (I' : MI), out = .inl (v6', v7', v8', I') → Ex G mX11_board rmX11_board Q (0, 0) X I' L 88 [(0, .ref (gB G + 99)), (1, .int v1), (2, .int v2), (6, .int v6'), (7, .int v7'), (8, .int v8')] []) (hX : ∀ (I' : MI), out = .inr I' → Ex G mX11_board rmX11_board Q (0, 0) X I' L 165 [(0, .ref (gB G + 99)), (1, .int v1)] []) : Ex G mX11_board rmX11_board Q (0, 0) X I L 88 [(0, .ref (gB G + 99)), (1, .int v1), (2, .int v2), (6, .int v6), (7, .int v7), (8, .int v8)] [] := by
  unfold f_X11_board_b88 at hf
  refine ex_iload 5 (pc' := 90) dX11_board_88 rfl rfl ?_
  refine ex_aload_n 0 (pc' := 91) dX11_board_90 rfl rfl rfl ?_
  refine ex_getR (pc' := 94) dX11_board_91 fl_X11_9 rfl (sh11_k hO) (sh11_F0 hO) rfl ?_
  refine ex_iload_n 2 (pc' := 95) dX11_board_94 rfl rfl rfl ?_
  obtain ⟨hg17, hf⟩ := of_guard hf
  refine ex_iald (pc' := 96) dX11_board_95 (sh11_T0 hO) (inb_in hg17) rfl ?_
  refine ex_icmpge (tgt := 165) (pc' := 99) dX11_board_96 (by decide) rfl (fun hc18 => ?_) (fun hc18 => ?_)
  · replace hf := if_t hc18 hf
    refine ex_aload_n 0 (pc' := 100) dX11_board_99 rfl rfl rfl ?_
    refine ex_getR (pc' := 103) dX11_board_100 fl_X11_15 rfl (sh11_k hO) (sh11_F1 hO) rfl ?_
    refine ex_bipush (v := 12) (pc' := 105) dX11_board_103 bp_12 rfl ?_
    refine ex_iload_n 2 (pc' := 106) dX11_board_105 rfl rfl rfl ?_
    refine ex_imul (pc' := 107) dX11_board_106 rfl ?_
    refine ex_iload 5 (pc' := 109) dX11_board_107 rfl rfl ?_
    refine ex_iadd (pc' := 110) dX11_board_109 rfl ?_
    obtain ⟨hg19, hf⟩ := of_guard hf
    refine ex_iald (pc' := 111) dX11_board_110 (sh11_T1 hO) (inb_in hg19) rfl ?_
    refine ex_iconst (v := 1) (pc' := 112) dX11_board_111 ic_1 rfl ?_
    refine ex_icmpne (tgt := 121) (pc' := 115) dX11_board_112 (by decide) rfl (fun hc20 => ?_) (fun hc20 => ?_)
    · replace hf := if_t hc20 hf
      refine ex_iincc (lv' := [(6, .int (v6 + 1)), (0, .ref (gB G + 99)), (1, .int v1), (2, .int v2), (7, .int v7), (8, .int v8)]) 3 (pc' := 118) dX11_board_115 rfl ic_1 (Nat.le_of_ble_eq_true rfl) rfl rfl ?_
      refine ex_goto (tgt := 159) dX11_board_118 (by decide) ?_
      refine ex_iincc (lv' := [(8, .int (v8 + 1)), (6, .int (v6 + 1)), (0, .ref (gB G + 99)), (1, .int v1), (2, .int v2), (7, .int v7)]) 5 (pc' := 162) dX11_board_159 rfl ic_1 (Nat.le_of_ble_eq_true rfl) rfl rfl ?_
      refine ex_goto (tgt := 88) dX11_board_162 (by decide) ?_
      exact ex_sub [2, 3, 4, 1, 5, 0] rfl (hC _ _ _ _ (Option.some.inj hf).symm)
    · replace hf := if_f hc20 hf
      refine ex_iconst (v := 0) (pc' := 122) dX11_board_121 ic_0 rfl ?_
      refine ex_istore (lv' := [(9, .int 0), (0, .ref (gB G + 99)), (1, .int v1), (2, .int v2), (6, .int v6), (7, .int v7), (8, .int v8)]) (pc' := 124) dX11_board_122 (Nat.le_of_ble_eq_true rfl) rfl rfl ?_
      refine ex_sub (lv' := [(0, .ref (gB G + 99)), (1, .int v1), (2, .int v2), (6, .int v6), (7, .int v7), (8, .int v8), (9, .int 0)]) [1, 2, 3, 4, 5, 6, 0] rfl ?_
      obtain ⟨I25, hq26, hf⟩ := of_bnd1 hf
      refine k_X11_board_l124 hO (fun I25' he => ?_) _ _ _ hq26
      cases he
      refine ex_iincc (lv' := [(7, .int (v7 + 1)), (0, .ref (gB G + 99)), (1, .int v1), (2, .int v2), (6, .int v6), (8, .int v8)]) 4 (pc' := 159) dX11_board_156 rfl ic_1 (Nat.le_of_ble_eq_true rfl) rfl rfl ?_
      refine ex_iincc (lv' := [(8, .int (v8 + 1)), (7, .int (v7 + 1)), (0, .ref (gB G + 99)), (1, .int v1), (2, .int v2), (6, .int v6)]) 5 (pc' := 162) dX11_board_159 rfl ic_1 (Nat.le_of_ble_eq_true rfl) rfl rfl ?_
      refine ex_goto (tgt := 88) dX11_board_162 (by decide) ?_
      exact ex_sub [2, 3, 4, 5, 1, 0] rfl (hC _ _ _ _ (Option.some.inj hf).symm)
  · replace hf := if_f hc18 hf
    exact ex_sub [0, 1] rfl (hX _ (Option.some.inj hf).symm)
def f_X11_board_l88 (N : Nat) (v1 : Int32) (v2 : Int32) (v6 : Int32) (v7 : Int32) (v8 : Int32) (I : MI) : Option (MI) := loopN (fun s => f_X11_board_b88 N v1 v2 s.1 s.2.1 s.2.2.1 s.2.2.2) N (v6, v7, v8, I)
set_option maxRecDepth 100000 in
set_option maxHeartbeats 4000000 in
theorem k_X11_board_l88 {G : GX} {Q : State → Prop} {X : MX} (hO : shX11 X) {v1 : Int32} {v2 : Int32}  {N0 : Nat} {L : ML} {out : (MI)} (hX : ∀ (I' : MI), out = I' → Ex G mX11_board rmX11_board Q (0, 0) X I' L 165 [(0, .ref (gB G + 99)), (1, .int v1)] []) : ∀ (N : Nat) (v6 : Int32) (v7 : Int32) (v8 : Int32) (I : MI), loopN (fun s => f_X11_board_b88 N0 v1 v2 s.1 s.2.1 s.2.2.1 s.2.2.2) N (v6, v7, v8, I) = some out → Ex G mX11_board rmX11_board Q (0, 0) X I L 88 [(0, .ref (gB G + 99)), (1, .int v1), (2, .int v2), (6, .int v6), (7, .int v7), (8, .int v8)] [] := by
  intro N
  induction N with
  | zero => intro v6 v7 v8 I hf; exact absurd (loopN_zero hf) id
  | succ n ih =>
    intro v6 v7 v8 I hf
    rcases loopN_succ hf with ⟨s, hb, hl⟩ | hb
    · obtain ⟨v6', v7', v8', I'⟩ := s
      refine k_X11_board_b88 hO  hb (fun _ _ _ _ he => ?_) (fun _ he => by cases he)
      cases he
      exact ih v6' v7' v8' I' hl
    · exact k_X11_board_b88 hO  hb (fun _ _ _ _ he => by cases he) (fun x0 he => hX x0 (Sum.inr.inj he))
def f_X11_board_j60 (N : Nat) (v1 : Int32) (v2 : Int32) (s0 : Int32) (I : MI) : Option (Int32 × MI) := (if s0 < 1 then bnd1 (f_X11_bare N v1 1 I) fun I15 => bnd1 (f_X11_board_l88 N v1 v2 0 0 0 I15) fun I27 => bnd1 (f_X11_cells N v1 I27) fun r29 => some (r29, I27) else bnd1 (f_X11_bare N v1 s0 I) fun I31 => bnd1 (f_X11_board_l88 N v1 v2 0 0 0 I31) fun I33 => bnd1 (f_X11_cells N v1 I33) fun r35 => some (r35, I33))
set_option maxRecDepth 100000 in
set_option maxHeartbeats 4000000 in
theorem k_X11_board_j60 {G : GX} {Q : State → Prop} {X : MX} (hO : shX11 X) {v1 : Int32} {v2 : Int32} {s0 : Int32}  {N : Nat} {I : MI} {L : ML} {out : Int32 × MI} (hf : f_X11_board_j60 N v1 v2 s0 I = some out) (hR : ∀ (z : Int32) (I' : MI), out = (z, I') → Q = RetQ G (some (.int z)) X I' L (0, 0)) : Ex G mX11_board rmX11_board Q (0, 0) X I L 60 [(0, .ref (gB G + 99)), (1, .int v1), (2, .int v2)] [.int s0] := by
  unfold f_X11_board_j60 at hf
  refine ex_istore (lv' := [(5, .int s0), (0, .ref (gB G + 99)), (1, .int v1), (2, .int v2)]) (pc' := 62) dX11_board_60 (Nat.le_of_ble_eq_true rfl) rfl rfl ?_
  refine ex_aload_n 1 (pc' := 63) dX11_board_62 rfl rfl rfl ?_
  refine ex_iload_n 2 (pc' := 64) dX11_board_63 rfl rfl rfl ?_
  refine ex_iload 0 (pc' := 66) dX11_board_64 rfl rfl ?_
  refine ex_iconst (v := 1) (pc' := 67) dX11_board_66 ic_1 rfl ?_
  refine ex_icmpge (tgt := 74) (pc' := 70) dX11_board_67 (by decide) rfl (fun hc14 => ?_) (fun hc14 => ?_)
  · replace hf := if_t hc14 hf
    refine ex_iconst (v := 1) (pc' := 71) dX11_board_70 ic_1 rfl ?_
    refine ex_goto (tgt := 76) dX11_board_71 (by decide) ?_
    obtain ⟨I15, hq16, hf⟩ := of_bnd1 hf
    refine ex_callV_v (rm' := rmX11_bare) (st := []) (pc' := 79) [.int v1, .int 1] dX11_board_76 cl_X11_179 (k_X11_bare G hO hq16) rfl (sh11_k hO) ⟨_, _, rfl⟩ rfl rfl (ROOM_of rfl) (Nat.le_of_ble_eq_true rfl) rfl rfl ?_
    refine ex_iconst (v := 0) (pc' := 80) dX11_board_79 ic_0 rfl ?_
    refine ex_istore (lv' := [(6, .int 0), (5, .int s0), (0, .ref (gB G + 99)), (1, .int v1), (2, .int v2)]) (pc' := 82) dX11_board_80 (Nat.le_of_ble_eq_true rfl) rfl rfl ?_
    refine ex_iconst (v := 0) (pc' := 83) dX11_board_82 ic_0 rfl ?_
    refine ex_istore (lv' := [(7, .int 0), (6, .int 0), (5, .int s0), (0, .ref (gB G + 99)), (1, .int v1), (2, .int v2)]) (pc' := 85) dX11_board_83 (Nat.le_of_ble_eq_true rfl) rfl rfl ?_
    refine ex_iconst (v := 0) (pc' := 86) dX11_board_85 ic_0 rfl ?_
    refine ex_istore (lv' := [(8, .int 0), (7, .int 0), (6, .int 0), (5, .int s0), (0, .ref (gB G + 99)), (1, .int v1), (2, .int v2)]) (pc' := 88) dX11_board_86 (Nat.le_of_ble_eq_true rfl) rfl rfl ?_
    refine ex_sub (lv' := [(0, .ref (gB G + 99)), (1, .int v1), (2, .int v2), (6, .int 0), (7, .int 0), (8, .int 0)]) [4, 5, 6, 2, 1, 0] rfl ?_
    obtain ⟨I27, hq28, hf⟩ := of_bnd1 hf
    refine k_X11_board_l88 hO (fun I27' he => ?_) _ _ _ _ _ hq28
    cases he
    refine ex_aload_n 0 (pc' := 166) dX11_board_165 rfl rfl rfl ?_
    refine ex_iload_n 1 (pc' := 167) dX11_board_166 rfl rfl rfl ?_
    obtain ⟨r29, hq30, hf⟩ := of_bnd1 hf
    refine ex_callV_i (rm' := rmX11_cells) (st := []) (pc' := 170) [.int v1] dX11_board_167 cl_X11_186 (k_X11_cells G hO hq30) rfl (sh11_k hO) ⟨_, _, rfl⟩ rfl rfl (ROOM_of rfl) (Nat.le_of_ble_eq_true rfl) rfl rfl ?_
    exact ex_iret dX11_board_170 rfl (hR _ _ (Option.some.inj hf).symm)
  · replace hf := if_f hc14 hf
    refine ex_iload 0 (pc' := 76) dX11_board_74 rfl rfl ?_
    obtain ⟨I31, hq32, hf⟩ := of_bnd1 hf
    refine ex_callV_v (rm' := rmX11_bare) (st := []) (pc' := 79) [.int v1, .int s0] dX11_board_76 cl_X11_179 (k_X11_bare G hO hq32) rfl (sh11_k hO) ⟨_, _, rfl⟩ rfl rfl (ROOM_of rfl) (Nat.le_of_ble_eq_true rfl) rfl rfl ?_
    refine ex_iconst (v := 0) (pc' := 80) dX11_board_79 ic_0 rfl ?_
    refine ex_istore (lv' := [(6, .int 0), (5, .int s0), (0, .ref (gB G + 99)), (1, .int v1), (2, .int v2)]) (pc' := 82) dX11_board_80 (Nat.le_of_ble_eq_true rfl) rfl rfl ?_
    refine ex_iconst (v := 0) (pc' := 83) dX11_board_82 ic_0 rfl ?_
    refine ex_istore (lv' := [(7, .int 0), (6, .int 0), (5, .int s0), (0, .ref (gB G + 99)), (1, .int v1), (2, .int v2)]) (pc' := 85) dX11_board_83 (Nat.le_of_ble_eq_true rfl) rfl rfl ?_
    refine ex_iconst (v := 0) (pc' := 86) dX11_board_85 ic_0 rfl ?_
    refine ex_istore (lv' := [(8, .int 0), (7, .int 0), (6, .int 0), (5, .int s0), (0, .ref (gB G + 99)), (1, .int v1), (2, .int v2)]) (pc' := 88) dX11_board_86 (Nat.le_of_ble_eq_true rfl) rfl rfl ?_
    refine ex_sub (lv' := [(0, .ref (gB G + 99)), (1, .int v1), (2, .int v2), (6, .int 0), (7, .int 0), (8, .int 0)]) [4, 5, 6, 2, 1, 0] rfl ?_
    obtain ⟨I33, hq34, hf⟩ := of_bnd1 hf
    refine k_X11_board_l88 hO (fun I33' he => ?_) _ _ _ _ _ hq34
    cases he
    refine ex_aload_n 0 (pc' := 166) dX11_board_165 rfl rfl rfl ?_
    refine ex_iload_n 1 (pc' := 167) dX11_board_166 rfl rfl rfl ?_
    obtain ⟨r35, hq36, hf⟩ := of_bnd1 hf
    refine ex_callV_i (rm' := rmX11_cells) (st := []) (pc' := 170) [.int v1] dX11_board_167 cl_X11_186 (k_X11_cells G hO hq36) rfl (sh11_k hO) ⟨_, _, rfl⟩ rfl rfl (ROOM_of rfl) (Nat.le_of_ble_eq_true rfl) rfl rfl ?_
    exact ex_iret dX11_board_170 rfl (hR _ _ (Option.some.inj hf).symm)
def f_X11_board (N : Nat) (v1 : Int32) (v2 : Int32) (I : MI) : Option (Int32 × MI) := bnd1 (f_X11_isSix v1) fun r1 => (if r1 = 0 then some ((-1), I) else bnd1 (f_X11_isSix v2) fun r4 => (if r4 = 0 then some ((-1), I) else bnd1 (f_X11_lettersU N v2 I) fun r7 => if inb v2 6 then letv ((I 100 (Int32.toNatClampNeg v2)) - r7) fun x10 => (if 6 < r7 then some ((-3), I) else (if 6 < x10 then some ((-3), I) else (if x10 < r7 then f_X11_board_j60 N v1 v2 r7 I else f_X11_board_j60 N v1 v2 x10 I))) else none))
set_option maxRecDepth 100000 in
set_option maxHeartbeats 4000000 in
theorem kb_X11_board {G : GX} {Q : State → Prop} {X : MX} (hO : shX11 X) {v1 : Int32} {v2 : Int32}  {N : Nat} {I : MI} {L : ML} {out : Int32 × MI} (hf : f_X11_board N v1 v2 I = some out) (hR : ∀ (z : Int32) (I' : MI), out = (z, I') → Q = RetQ G (some (.int z)) X I' L (0, 0)) : Ex G mX11_board rmX11_board Q (0, 0) X I L 0 [(0, .ref (gB G + 99)), (1, .int v1), (2, .int v2)] [] := by
  unfold f_X11_board at hf
  refine ex_iload_n 1 (pc' := 1) dX11_board_0 rfl rfl rfl ?_
  obtain ⟨r1, hq2, hf⟩ := of_bnd1 hf
  refine ex_callS_i (rm' := rmX11_isSix) (st := []) (pc' := 4) [.int v1] dX11_board_1 cl_X11_133 (k_X11_isSix G hq2) rfl rfl rfl (ROOM_of rfl) (Nat.le_of_ble_eq_true rfl) rfl rfl ?_
  refine ex_ifeq (tgt := 14) (pc' := 7) dX11_board_4 (by decide) rfl (fun hc3 => ?_) (fun hc3 => ?_)
  · replace hf := if_t hc3 hf
    refine ex_iconst (v := (-1)) (pc' := 15) dX11_board_14 ic_m1 rfl ?_
    exact ex_iret dX11_board_15 rfl (hR _ _ (Option.some.inj hf).symm)
  · replace hf := if_f hc3 hf
    refine ex_iload_n 2 (pc' := 8) dX11_board_7 rfl rfl rfl ?_
    obtain ⟨r4, hq5, hf⟩ := of_bnd1 hf
    refine ex_callS_i (rm' := rmX11_isSix) (st := []) (pc' := 11) [.int v2] dX11_board_8 cl_X11_133 (k_X11_isSix G hq5) rfl rfl rfl (ROOM_of rfl) (Nat.le_of_ble_eq_true rfl) rfl rfl ?_
    refine ex_ifne (tgt := 16) (pc' := 14) dX11_board_11 (by decide) rfl (fun hc6 => ?_) (fun hc6 => ?_)
    · replace hf := if_t hc6 hf
      refine ex_iconst (v := (-1)) (pc' := 15) dX11_board_14 ic_m1 rfl ?_
      exact ex_iret dX11_board_15 rfl (hR _ _ (Option.some.inj hf).symm)
    · replace hf := if_f hc6 hf
      refine ex_aload_n 0 (pc' := 17) dX11_board_16 rfl rfl rfl ?_
      refine ex_iload_n 2 (pc' := 18) dX11_board_17 rfl rfl rfl ?_
      obtain ⟨r7, hq8, hf⟩ := of_bnd1 hf
      refine ex_callV_i (rm' := rmX11_lettersU) (st := []) (pc' := 21) [.int v2] dX11_board_18 cl_X11_143 (k_X11_lettersU G hO hq8) rfl (sh11_k hO) ⟨_, _, rfl⟩ rfl rfl (ROOM_of rfl) (Nat.le_of_ble_eq_true rfl) rfl rfl ?_
      refine ex_istore_n (lv' := [(3, .int r7), (0, .ref (gB G + 99)), (1, .int v1), (2, .int v2)]) (pc' := 22) dX11_board_21 rfl (Nat.le_of_ble_eq_true rfl) rfl rfl ?_
      refine ex_aload_n 1 (pc' := 23) dX11_board_22 rfl rfl rfl ?_
      refine ex_getR (pc' := 26) dX11_board_23 fl_X11_9 rfl (sh11_k hO) (sh11_F0 hO) rfl ?_
      refine ex_iload_n 3 (pc' := 27) dX11_board_26 rfl rfl rfl ?_
      obtain ⟨hg9, hf⟩ := of_guard hf
      refine ex_iald (pc' := 28) dX11_board_27 (sh11_T0 hO) (inb_in hg9) rfl ?_
      refine ex_iload_n 0 (pc' := 29) dX11_board_28 rfl rfl rfl ?_
      refine ex_isub (pc' := 30) dX11_board_29 rfl ?_
      obtain ⟨x10, hx10, hf⟩ := of_let hf
      rw [← hx10]
      refine ex_istore (lv' := [(4, .int x10), (3, .int r7), (0, .ref (gB G + 99)), (1, .int v1), (2, .int v2)]) (pc' := 32) dX11_board_30 (Nat.le_of_ble_eq_true rfl) rfl rfl ?_
      refine ex_iload_n 1 (pc' := 33) dX11_board_32 rfl rfl rfl ?_
      refine ex_bipush (v := 6) (pc' := 35) dX11_board_33 bp_6 rfl ?_
      refine ex_icmpgt (tgt := 45) (pc' := 38) dX11_board_35 (by decide) rfl (fun hc11 => ?_) (fun hc11 => ?_)
      · replace hf := if_t hc11 hf
        refine ex_bipush (v := (-3)) (pc' := 47) dX11_board_45 bp_m3 rfl ?_
        exact ex_iret dX11_board_47 rfl (hR _ _ (Option.some.inj hf).symm)
      · replace hf := if_f hc11 hf
        refine ex_iload 0 (pc' := 40) dX11_board_38 rfl rfl ?_
        refine ex_bipush (v := 6) (pc' := 42) dX11_board_40 bp_6 rfl ?_
        refine ex_icmple (tgt := 48) (pc' := 45) dX11_board_42 (by decide) rfl (fun hc12 => ?_) (fun hc12 => ?_)
        · replace hf := if_t hc12 hf
          refine ex_bipush (v := (-3)) (pc' := 47) dX11_board_45 bp_m3 rfl ?_
          exact ex_iret dX11_board_47 rfl (hR _ _ (Option.some.inj hf).symm)
        · replace hf := if_f hc12 hf
          refine ex_iload_n 1 (pc' := 49) dX11_board_48 rfl rfl rfl ?_
          refine ex_iload 0 (pc' := 51) dX11_board_49 rfl rfl ?_
          refine ex_icmple (tgt := 58) (pc' := 54) dX11_board_51 (by decide) rfl (fun hc13 => ?_) (fun hc13 => ?_)
          · replace hf := if_t hc13 hf
            refine ex_iload_n 1 (pc' := 55) dX11_board_54 rfl rfl rfl ?_
            refine ex_goto (tgt := 60) dX11_board_55 (by decide) ?_
            refine ex_sub [2, 3, 4] rfl (k_X11_board_j60 hO  hf hR)
          · replace hf := if_f hc13 hf
            refine ex_iload 0 (pc' := 60) dX11_board_58 rfl rfl ?_
            refine ex_sub [2, 3, 4] rfl (k_X11_board_j60 hO  hf hR)
set_option maxRecDepth 100000 in
set_option maxHeartbeats 4000000 in
theorem k_X11_board (G : GX) {X : MX} (hO : shX11 X) {v1 : Int32} {v2 : Int32}  {N : Nat} {I : MI} {L : ML} {z : Int32} {I' : MI} (hf : f_X11_board N v1 v2 I = some (z, I')) : Con G mX11_board yX11_board rmX11_board (fun B => [.ref (B + 99), .int v1, .int v2]) X I L (some (.int z)) X I' L :=
  Con.of (by decide) rfl (fun h => by cases h) (fun B => Nat.le_of_ble_eq_true rfl) (fun G => kb_X11_board hO  hf (fun _ _ he => by cases he; rfl))
-- X11_isSteps ('RookWordsModel', 'isSteps', '(I)Z')
def rmX11_isSteps : RM := ((0, 0, 0, 0), false, (some FieldType.boolean))
def f_X11_isSteps_b4 (N : Nat) (v1 : Int32) (v2 : Int32) (v3 : Int32) (I : MI) : Option ((Int32 × Int32) ⊕ ((Unit) ⊕ (Int32))) := if inb v1 6 then (if v3 < (I 103 (Int32.toNatClampNeg v1)) then if inb ((6 * v1) + v3) 36 then letv (I 104 (Int32.toNatClampNeg ((6 * v1) + v3))) fun x4 => (if (x4 &&& (x4 + 1)) = 0 then (if x4 < v2 then some (.inr (.inr 0)) else some (.inl (x4, v3 + 1))) else some (.inr (.inr 0))) else none else some (.inr (.inl ()))) else none
set_option maxRecDepth 100000 in
set_option maxHeartbeats 4000000 in
theorem k_X11_isSteps_b4 {G : GX} {Q : State → Prop} {X : MX} (hO : shX11 X) {v1 : Int32}  {v2 : Int32} {v3 : Int32} {N : Nat} {I : MI} {L : ML} {out : (Int32 × Int32) ⊕ ((Unit) ⊕ (Int32))} (hf : f_X11_isSteps_b4 N v1 v2 v3 I = some out) (hC : ∀ (v2' : Int32) (v3' : Int32), out = .inl (v2', v3') → Ex G mX11_isSteps rmX11_isSteps Q (0, 0) X I L 4 [(0, .ref (gB G + 99)), (1, .int v1), (2, .int v2'), (3, .int v3')] []) (hX : ∀ (u : Unit), out = .inr (.inl u) → Ex G mX11_isSteps rmX11_isSteps Q (0, 0) X I L 54 [] []) (hR : ∀ (z : Int32), out = .inr (.inr z) → Q = RetQ G (some (.int z)) X I L (0, 0)) : Ex G mX11_isSteps rmX11_isSteps Q (0, 0) X I L 4 [(0, .ref (gB G + 99)), (1, .int v1), (2, .int v2), (3, .int v3)] [] := by
  unfold f_X11_isSteps_b4 at hf
  refine ex_iload_n 3 (pc' := 5) dX11_isSteps_4 rfl rfl rfl ?_
  refine ex_aload_n 0 (pc' := 6) dX11_isSteps_5 rfl rfl rfl ?_
  refine ex_getR (pc' := 9) dX11_isSteps_6 fl_X11_22 rfl (sh11_k hO) (sh11_F3 hO) rfl ?_
  refine ex_iload_n 1 (pc' := 10) dX11_isSteps_9 rfl rfl rfl ?_
  obtain ⟨hg1, hf⟩ := of_guard hf
  refine ex_iald (pc' := 11) dX11_isSteps_10 (sh11_T3 hO) (inb_in hg1) rfl ?_
  refine ex_icmpge (tgt := 54) (pc' := 14) dX11_isSteps_11 (by decide) rfl (fun hc2 => ?_) (fun hc2 => ?_)
  · replace hf := if_t hc2 hf
    refine ex_aload_n 0 (pc' := 15) dX11_isSteps_14 rfl rfl rfl ?_
    refine ex_getR (pc' := 18) dX11_isSteps_15 fl_X11_25 rfl (sh11_k hO) (sh11_F4 hO) rfl ?_
    refine ex_bipush (v := 6) (pc' := 20) dX11_isSteps_18 bp_6 rfl ?_
    refine ex_iload_n 1 (pc' := 21) dX11_isSteps_20 rfl rfl rfl ?_
    refine ex_imul (pc' := 22) dX11_isSteps_21 rfl ?_
    refine ex_iload_n 3 (pc' := 23) dX11_isSteps_22 rfl rfl rfl ?_
    refine ex_iadd (pc' := 24) dX11_isSteps_23 rfl ?_
    obtain ⟨hg3, hf⟩ := of_guard hf
    refine ex_iald (pc' := 25) dX11_isSteps_24 (sh11_T4 hO) (inb_in hg3) rfl ?_
    obtain ⟨x4, hx4, hf⟩ := of_let hf
    rw [← hx4]
    refine ex_istore (lv' := [(4, .int x4), (0, .ref (gB G + 99)), (1, .int v1), (2, .int v2), (3, .int v3)]) (pc' := 27) dX11_isSteps_25 (Nat.le_of_ble_eq_true rfl) rfl rfl ?_
    refine ex_iload 0 (pc' := 29) dX11_isSteps_27 rfl rfl ?_
    refine ex_iload 0 (pc' := 31) dX11_isSteps_29 rfl rfl ?_
    refine ex_iconst (v := 1) (pc' := 32) dX11_isSteps_31 ic_1 rfl ?_
    refine ex_iadd (pc' := 33) dX11_isSteps_32 rfl ?_
    refine ex_iand (pc' := 34) dX11_isSteps_33 rfl ?_
    refine ex_ifne (tgt := 43) (pc' := 37) dX11_isSteps_34 (by decide) rfl (fun hc5 => ?_) (fun hc5 => ?_)
    · replace hf := if_t hc5 hf
      refine ex_iload 0 (pc' := 39) dX11_isSteps_37 rfl rfl ?_
      refine ex_iload_n 3 (pc' := 40) dX11_isSteps_39 rfl rfl rfl ?_
      refine ex_icmpge (tgt := 45) (pc' := 43) dX11_isSteps_40 (by decide) rfl (fun hc6 => ?_) (fun hc6 => ?_)
      · replace hf := if_t hc6 hf
        refine ex_iconst (v := 0) (pc' := 44) dX11_isSteps_43 ic_0 rfl ?_
        exact ex_zret dX11_isSteps_44 rfl (Or.inl rfl) (hR _ (Option.some.inj hf).symm)
      · replace hf := if_f hc6 hf
        refine ex_iload 0 (pc' := 47) dX11_isSteps_45 rfl rfl ?_
        refine ex_istore_n (lv' := [(2, .int x4), (4, .int x4), (0, .ref (gB G + 99)), (1, .int v1), (3, .int v3)]) (pc' := 48) dX11_isSteps_47 rfl (Nat.le_of_ble_eq_true rfl) rfl rfl ?_
        refine ex_iincc (lv' := [(3, .int (v3 + 1)), (2, .int x4), (4, .int x4), (0, .ref (gB G + 99)), (1, .int v1)]) 4 (pc' := 51) dX11_isSteps_48 rfl ic_1 (Nat.le_of_ble_eq_true rfl) rfl rfl ?_
        refine ex_goto (tgt := 4) dX11_isSteps_51 (by decide) ?_
        exact ex_sub [3, 4, 1, 0] rfl (hC _ _ (Option.some.inj hf).symm)
    · replace hf := if_f hc5 hf
      refine ex_iconst (v := 0) (pc' := 44) dX11_isSteps_43 ic_0 rfl ?_
      exact ex_zret dX11_isSteps_44 rfl (Or.inl rfl) (hR _ (Option.some.inj hf).symm)
  · replace hf := if_f hc2 hf
    exact ex_sub [] rfl (hX _ (Option.some.inj hf).symm)
def f_X11_isSteps_l4 (N : Nat) (v1 : Int32) (v2 : Int32) (v3 : Int32) (I : MI) : Option ((Unit) ⊕ (Int32)) := loopN (fun s => f_X11_isSteps_b4 N v1 s.1 s.2 I) N (v2, v3)
set_option maxRecDepth 100000 in
set_option maxHeartbeats 4000000 in
theorem k_X11_isSteps_l4 {G : GX} {Q : State → Prop} {X : MX} (hO : shX11 X) {v1 : Int32}  {N0 : Nat} {I : MI} {L : ML} {out : ((Unit) ⊕ (Int32))} (hX : ∀ (u : Unit), out = .inl u → Ex G mX11_isSteps rmX11_isSteps Q (0, 0) X I L 54 [] []) (hR : ∀ (z : Int32), out = .inr z → Q = RetQ G (some (.int z)) X I L (0, 0)) : ∀ (N : Nat) (v2 : Int32) (v3 : Int32), loopN (fun s => f_X11_isSteps_b4 N0 v1 s.1 s.2 I) N (v2, v3) = some out → Ex G mX11_isSteps rmX11_isSteps Q (0, 0) X I L 4 [(0, .ref (gB G + 99)), (1, .int v1), (2, .int v2), (3, .int v3)] [] := by
  intro N
  induction N with
  | zero => intro v2 v3 hf; exact absurd (loopN_zero hf) id
  | succ n ih =>
    intro v2 v3 hf
    rcases loopN_succ hf with ⟨s, hb, hl⟩ | hb
    · obtain ⟨v2', v3'⟩ := s
      refine k_X11_isSteps_b4 hO  hb (fun _ _ he => ?_) (fun _ he => by cases he) (fun _ he => by cases he)
      cases he
      exact ih v2' v3' hl
    · exact k_X11_isSteps_b4 hO  hb (fun _ _ he => by cases he) (fun x0 he => hX x0 (Sum.inr.inj he)) (fun z0 he => hR z0 (Sum.inr.inj he))
def f_X11_isSteps (N : Nat) (v1 : Int32) (I : MI) : Option (Int32) := bns1 (f_X11_isSteps_l4 N v1 0 0 I) (fun u7 => some 1) (fun q9 => some q9)
set_option maxRecDepth 100000 in
set_option maxHeartbeats 4000000 in
theorem kb_X11_isSteps {G : GX} {Q : State → Prop} {X : MX} (hO : shX11 X) {v1 : Int32}  {N : Nat} {I : MI} {L : ML} {out : Int32} (hf : f_X11_isSteps N v1 I = some out) (hR : ∀ (z : Int32), out = z → Q = RetQ G (some (.int z)) X I L (0, 0)) : Ex G mX11_isSteps rmX11_isSteps Q (0, 0) X I L 0 [(0, .ref (gB G + 99)), (1, .int v1)] [] := by
  unfold f_X11_isSteps at hf
  refine ex_iconst (v := 0) (pc' := 1) dX11_isSteps_0 ic_0 rfl ?_
  refine ex_istore_n (lv' := [(2, .int 0), (0, .ref (gB G + 99)), (1, .int v1)]) (pc' := 2) dX11_isSteps_1 rfl (Nat.le_of_ble_eq_true rfl) rfl rfl ?_
  refine ex_iconst (v := 0) (pc' := 3) dX11_isSteps_2 ic_0 rfl ?_
  refine ex_istore_n (lv' := [(3, .int 0), (2, .int 0), (0, .ref (gB G + 99)), (1, .int v1)]) (pc' := 4) dX11_isSteps_3 rfl (Nat.le_of_ble_eq_true rfl) rfl rfl ?_
  refine ex_sub (lv' := [(0, .ref (gB G + 99)), (1, .int v1), (2, .int 0), (3, .int 0)]) [2, 3, 1, 0] rfl ?_
  rcases of_bns1 hf with ⟨u7, hq8, hf⟩ | ⟨q9, hq8, hf⟩
  · refine k_X11_isSteps_l4 hO (fun u7' he => ?_) (fun _ he => by cases he) _ _ _ hq8
    cases he
    refine ex_iconst (v := 1) (pc' := 55) dX11_isSteps_54 ic_1 rfl ?_
    exact ex_zret dX11_isSteps_55 rfl (Or.inr rfl) (hR _ (Option.some.inj hf).symm)
  · refine k_X11_isSteps_l4 hO (fun _ he => by cases he) (fun z0 he => ?_) _ _ _ hq8
    refine hR _ ?_
    rw [← Option.some.inj hf]
    cases he
    rfl
set_option maxRecDepth 100000 in
set_option maxHeartbeats 4000000 in
theorem k_X11_isSteps (G : GX) {X : MX} (hO : shX11 X) {v1 : Int32}  {N : Nat} {I : MI} {L : ML} {z : Int32} (hf : f_X11_isSteps N v1 I = some z) : Con G mX11_isSteps yX11_isSteps rmX11_isSteps (fun B => [.ref (B + 99), .int v1]) X I L (some (.int z)) X I L :=
  Con.of (by decide) rfl (fun h => by cases h) (fun B => Nat.le_of_ble_eq_true rfl) (fun G => kb_X11_isSteps hO  hf (fun _ he => by cases he; rfl))
theorem cl_X11_203 : CLV RX11 203 yX11_isSteps mX11_isSteps (some FieldType.boolean) 1 := ⟨⟨lwg_at 1250 (by decide +kernel) rfl, lwg_at 1252 (by decide +kernel) rfl, lwg_at 31 (by decide +kernel) rfl, lwg_at 61 (by decide +kernel) rfl⟩, lwg_at 1253 (by decide +kernel) rfl, ⟨by decide +kernel, by decide +kernel, by decide +kernel⟩⟩
-- X11_bySteps ('RookWordsModel', 'bySteps', '(II)J')
def rmX11_bySteps : RM := ((2, 45, 0, 0), false, (some FieldType.long))
def f_X11_bySteps_b36 (N : Nat) (v1 : Int32) (v2 : Int32) (v3 : Int64) (v5 : Int32) (I : MI) : Option ((Int64 × Int32) ⊕ (Int64)) := if inb v1 6 then (if v5 < (I 103 (Int32.toNatClampNeg v1)) then if inb ((6 * v1) + v5) 36 then bnd1 (f_X11_ones N (I 104 (Int32.toNatClampNeg ((6 * v1) + v5)))) fun r13 => letv (v3 * (Int32.toInt64 ((v2 + r13) - v5))) fun x15 => some (.inl (x15, v5 + 1)) else none else some (.inr v3)) else none
set_option maxRecDepth 100000 in
set_option maxHeartbeats 4000000 in
theorem k_X11_bySteps_b36 {G : GX} {Q : State → Prop} {X : MX} (hO : shX11 X) {v1 : Int32} {v2 : Int32}  {v3 : Int64} {v5 : Int32} {N : Nat} {I : MI} {L : ML} {out : (Int64 × Int32) ⊕ (Int64)} (hf : f_X11_bySteps_b36 N v1 v2 v3 v5 I = some out) (hC : ∀ (v3' : Int64) (v5' : Int32), out = .inl (v3', v5') → Ex G mX11_bySteps rmX11_bySteps Q (0, 0) X I L 36 [(0, .ref (gB G + 99)), (1, .int v1), (2, .int v2), (3, .long v3'), (5, .int v5')] []) (hX : ∀ (w3 : Int64), out = .inr w3 → Ex G mX11_bySteps rmX11_bySteps Q (0, 0) X I L 77 [(3, .long w3)] []) : Ex G mX11_bySteps rmX11_bySteps Q (0, 0) X I L 36 [(0, .ref (gB G + 99)), (1, .int v1), (2, .int v2), (3, .long v3), (5, .int v5)] [] := by
  unfold f_X11_bySteps_b36 at hf
  refine ex_iload 4 (pc' := 38) dX11_bySteps_36 rfl rfl ?_
  refine ex_aload_n 0 (pc' := 39) dX11_bySteps_38 rfl rfl rfl ?_
  refine ex_getR (pc' := 42) dX11_bySteps_39 fl_X11_22 rfl (sh11_k hO) (sh11_F3 hO) rfl ?_
  refine ex_iload_n 1 (pc' := 43) dX11_bySteps_42 rfl rfl rfl ?_
  obtain ⟨hg10, hf⟩ := of_guard hf
  refine ex_iald (pc' := 44) dX11_bySteps_43 (sh11_T3 hO) (inb_in hg10) rfl ?_
  refine ex_icmpge (tgt := 77) (pc' := 47) dX11_bySteps_44 (by decide) rfl (fun hc11 => ?_) (fun hc11 => ?_)
  · replace hf := if_t hc11 hf
    refine ex_lload_n 3 (pc' := 48) dX11_bySteps_47 rfl rfl rfl ?_
    refine ex_iload_n 2 (pc' := 49) dX11_bySteps_48 rfl rfl rfl ?_
    refine ex_aload_n 0 (pc' := 50) dX11_bySteps_49 rfl rfl rfl ?_
    refine ex_getR (pc' := 53) dX11_bySteps_50 fl_X11_25 rfl (sh11_k hO) (sh11_F4 hO) rfl ?_
    refine ex_bipush (v := 6) (pc' := 55) dX11_bySteps_53 bp_6 rfl ?_
    refine ex_iload_n 1 (pc' := 56) dX11_bySteps_55 rfl rfl rfl ?_
    refine ex_imul (pc' := 57) dX11_bySteps_56 rfl ?_
    refine ex_iload 4 (pc' := 59) dX11_bySteps_57 rfl rfl ?_
    refine ex_iadd (pc' := 60) dX11_bySteps_59 rfl ?_
    obtain ⟨hg12, hf⟩ := of_guard hf
    refine ex_iald (pc' := 61) dX11_bySteps_60 (sh11_T4 hO) (inb_in hg12) rfl ?_
    obtain ⟨r13, hq14, hf⟩ := of_bnd1 hf
    refine ex_callS_i (rm' := rmX11_ones) (st := [.int v2, .long v3]) (pc' := 64) [.int (I 104 (Int32.toNatClampNeg ((6 * v1) + v5)))] dX11_bySteps_61 cl_X11_172 (k_X11_ones G hq14) rfl rfl rfl (ROOM_of rfl) (Nat.le_of_ble_eq_true rfl) rfl rfl ?_
    refine ex_iadd (pc' := 65) dX11_bySteps_64 rfl ?_
    refine ex_iload 4 (pc' := 67) dX11_bySteps_65 rfl rfl ?_
    refine ex_isub (pc' := 68) dX11_bySteps_67 rfl ?_
    refine ex_i2l (pc' := 69) dX11_bySteps_68 rfl ?_
    refine ex_lmul (pc' := 70) dX11_bySteps_69 rfl ?_
    obtain ⟨x15, hx15, hf⟩ := of_let hf
    rw [← hx15]
    refine ex_lstore_n (lv' := [(3, .long x15), (0, .ref (gB G + 99)), (1, .int v1), (2, .int v2), (5, .int v5)]) (pc' := 71) dX11_bySteps_70 rfl (Nat.le_of_ble_eq_true rfl) rfl rfl ?_
    refine ex_iincc (lv' := [(5, .int (v5 + 1)), (3, .long x15), (0, .ref (gB G + 99)), (1, .int v1), (2, .int v2)]) 4 (pc' := 74) dX11_bySteps_71 rfl ic_1 (Nat.le_of_ble_eq_true rfl) rfl rfl ?_
    refine ex_goto (tgt := 36) dX11_bySteps_74 (by decide) ?_
    exact ex_sub [2, 3, 4, 1, 0] rfl (hC _ _ (Option.some.inj hf).symm)
  · replace hf := if_f hc11 hf
    exact ex_sub [3] rfl (hX _ (Option.some.inj hf).symm)
def f_X11_bySteps_l36 (N : Nat) (v1 : Int32) (v2 : Int32) (v3 : Int64) (v5 : Int32) (I : MI) : Option (Int64) := loopN (fun s => f_X11_bySteps_b36 N v1 v2 s.1 s.2 I) N (v3, v5)
set_option maxRecDepth 100000 in
set_option maxHeartbeats 4000000 in
theorem k_X11_bySteps_l36 {G : GX} {Q : State → Prop} {X : MX} (hO : shX11 X) {v1 : Int32} {v2 : Int32}  {N0 : Nat} {I : MI} {L : ML} {out : (Int64)} (hX : ∀ (w3 : Int64), out = w3 → Ex G mX11_bySteps rmX11_bySteps Q (0, 0) X I L 77 [(3, .long w3)] []) : ∀ (N : Nat) (v3 : Int64) (v5 : Int32), loopN (fun s => f_X11_bySteps_b36 N0 v1 v2 s.1 s.2 I) N (v3, v5) = some out → Ex G mX11_bySteps rmX11_bySteps Q (0, 0) X I L 36 [(0, .ref (gB G + 99)), (1, .int v1), (2, .int v2), (3, .long v3), (5, .int v5)] [] := by
  intro N
  induction N with
  | zero => intro v3 v5 hf; exact absurd (loopN_zero hf) id
  | succ n ih =>
    intro v3 v5 hf
    rcases loopN_succ hf with ⟨s, hb, hl⟩ | hb
    · obtain ⟨v3', v5'⟩ := s
      refine k_X11_bySteps_b36 hO  hb (fun _ _ he => ?_) (fun _ he => by cases he)
      cases he
      exact ih v3' v5' hl
    · exact k_X11_bySteps_b36 hO  hb (fun _ _ he => by cases he) (fun x0 he => hX x0 (Sum.inr.inj he))
def f_X11_bySteps (N : Nat) (v1 : Int32) (v2 : Int32) (I : MI) : Option (Int64) := bnd1 (f_X11_isSix v1) fun r1 => (if r1 = 0 then some (-9223372036854775808) else bnd1 (f_X11_in (Int32.toInt64 v2) 0 20) fun r4 => (if r4 = 0 then some (-9223372036854775808) else bnd1 (f_X11_isSteps N v1 I) fun r7 => (if r7 = 0 then some (-9223372036854775808) else bnd1 (f_X11_bySteps_l36 N v1 v2 1 0 I) fun x16 => some x16)))
set_option maxRecDepth 100000 in
set_option maxHeartbeats 4000000 in
theorem kb_X11_bySteps {G : GX} {Q : State → Prop} {X : MX} (hO : shX11 X) {v1 : Int32} {v2 : Int32}  {N : Nat} {I : MI} {L : ML} {out : Int64} (hf : f_X11_bySteps N v1 v2 I = some out) (hR : ∀ (z : Int64), out = z → Q = RetQ G (some (.long z)) X I L (0, 0)) : Ex G mX11_bySteps rmX11_bySteps Q (0, 0) X I L 0 [(0, .ref (gB G + 99)), (1, .int v1), (2, .int v2)] [] := by
  unfold f_X11_bySteps at hf
  refine ex_iload_n 1 (pc' := 1) dX11_bySteps_0 rfl rfl rfl ?_
  obtain ⟨r1, hq2, hf⟩ := of_bnd1 hf
  refine ex_callS_i (rm' := rmX11_isSix) (st := []) (pc' := 4) [.int v1] dX11_bySteps_1 cl_X11_133 (k_X11_isSix G hq2) rfl rfl rfl (ROOM_of rfl) (Nat.le_of_ble_eq_true rfl) rfl rfl ?_
  refine ex_ifeq (tgt := 27) (pc' := 7) dX11_bySteps_4 (by decide) rfl (fun hc3 => ?_) (fun hc3 => ?_)
  · replace hf := if_t hc3 hf
    refine ex_ldc2 (v := (-9223372036854775808)) (pc' := 30) dX11_bySteps_27 co_X11_149 rfl ?_
    exact ex_lret dX11_bySteps_30 rfl (hR _ (Option.some.inj hf).symm)
  · replace hf := if_f hc3 hf
    refine ex_iload_n 2 (pc' := 8) dX11_bySteps_7 rfl rfl rfl ?_
    refine ex_i2l (pc' := 9) dX11_bySteps_8 rfl ?_
    refine ex_lconst (v := 0) (pc' := 10) dX11_bySteps_9 lc_0 rfl ?_
    refine ex_ldc2 (v := 20) (pc' := 13) dX11_bySteps_10 co_X11_147 rfl ?_
    obtain ⟨r4, hq5, hf⟩ := of_bnd1 hf
    refine ex_callS_i (rm' := rmX11_in) (st := []) (pc' := 16) [.long (Int32.toInt64 v2), .long 0, .long 20] dX11_bySteps_13 cl_X11_129 (k_X11_in G hq5) rfl rfl rfl (ROOM_of rfl) (Nat.le_of_ble_eq_true rfl) rfl rfl ?_
    refine ex_ifeq (tgt := 27) (pc' := 19) dX11_bySteps_16 (by decide) rfl (fun hc6 => ?_) (fun hc6 => ?_)
    · replace hf := if_t hc6 hf
      refine ex_ldc2 (v := (-9223372036854775808)) (pc' := 30) dX11_bySteps_27 co_X11_149 rfl ?_
      exact ex_lret dX11_bySteps_30 rfl (hR _ (Option.some.inj hf).symm)
    · replace hf := if_f hc6 hf
      refine ex_aload_n 0 (pc' := 20) dX11_bySteps_19 rfl rfl rfl ?_
      refine ex_iload_n 1 (pc' := 21) dX11_bySteps_20 rfl rfl rfl ?_
      obtain ⟨r7, hq8, hf⟩ := of_bnd1 hf
      refine ex_callV_i (rm' := rmX11_isSteps) (st := []) (pc' := 24) [.int v1] dX11_bySteps_21 cl_X11_203 (k_X11_isSteps G hO hq8) rfl (sh11_k hO) ⟨_, _, rfl⟩ rfl rfl (ROOM_of rfl) (Nat.le_of_ble_eq_true rfl) rfl rfl ?_
      refine ex_ifne (tgt := 31) (pc' := 27) dX11_bySteps_24 (by decide) rfl (fun hc9 => ?_) (fun hc9 => ?_)
      · replace hf := if_t hc9 hf
        refine ex_ldc2 (v := (-9223372036854775808)) (pc' := 30) dX11_bySteps_27 co_X11_149 rfl ?_
        exact ex_lret dX11_bySteps_30 rfl (hR _ (Option.some.inj hf).symm)
      · replace hf := if_f hc9 hf
        refine ex_lconst (v := 1) (pc' := 32) dX11_bySteps_31 lc_1 rfl ?_
        refine ex_lstore_n (lv' := [(3, .long 1), (0, .ref (gB G + 99)), (1, .int v1), (2, .int v2)]) (pc' := 33) dX11_bySteps_32 rfl (Nat.le_of_ble_eq_true rfl) rfl rfl ?_
        refine ex_iconst (v := 0) (pc' := 34) dX11_bySteps_33 ic_0 rfl ?_
        refine ex_istore (lv' := [(5, .int 0), (3, .long 1), (0, .ref (gB G + 99)), (1, .int v1), (2, .int v2)]) (pc' := 36) dX11_bySteps_34 (Nat.le_of_ble_eq_true rfl) rfl rfl ?_
        refine ex_sub (lv' := [(0, .ref (gB G + 99)), (1, .int v1), (2, .int v2), (3, .long 1), (5, .int 0)]) [2, 3, 4, 1, 0] rfl ?_
        obtain ⟨x16, hq17, hf⟩ := of_bnd1 hf
        refine k_X11_bySteps_l36 hO (fun x16' he => ?_) _ _ _ hq17
        cases he
        refine ex_lload_n 0 (pc' := 78) dX11_bySteps_77 rfl rfl rfl ?_
        exact ex_lret dX11_bySteps_78 rfl (hR _ (Option.some.inj hf).symm)
set_option maxRecDepth 100000 in
set_option maxHeartbeats 4000000 in
theorem k_X11_bySteps (G : GX) {X : MX} (hO : shX11 X) {v1 : Int32} {v2 : Int32}  {N : Nat} {I : MI} {L : ML} {z : Int64} (hf : f_X11_bySteps N v1 v2 I = some z) : Con G mX11_bySteps yX11_bySteps rmX11_bySteps (fun B => [.ref (B + 99), .int v1, .int v2]) X I L (some (.long z)) X I L :=
  Con.of (by decide) rfl (fun h => by cases h) (fun B => Nat.le_of_ble_eq_true rfl) (fun G => kb_X11_bySteps hO  hf (fun _ he => by cases he; rfl))
theorem fl_X11_37 : FLD RX11 37 11 10 true := ⟨RX11, TX11, 51, rfl, inX11, by decide, lwg_at 944 (by decide +kernel) rfl, nmX11, tyX11_ok, rfl, rfl⟩
theorem fl_X11_40 : FLD RX11 40 11 11 true := ⟨RX11, TX11, 51, rfl, inX11, by decide, lwg_at 945 (by decide +kernel) rfl, nmX11, tyX11_ok, rfl, rfl⟩
theorem fl_X11_43 : FLD RX11 43 11 12 true := ⟨RX11, TX11, 51, rfl, inX11, by decide, lwg_at 946 (by decide +kernel) rfl, nmX11, tyX11_ok, rfl, rfl⟩
-- X11_keep ('RookWordsModel', 'keep', '(III)V')
def rmX11_keep : RM := ((0, 0, 0, 0), false, none)
def f_X11_keep_b12 (N : Nat) (v1 : Int32) (v2 : Int32) (v3 : Int32) (v4 : Int32) (I : MI) : Option ((Int32 × MI) ⊕ (MI)) := (if v4 < 10 then if inb v4 10 then if inb (v4 - 1) 10 then letv (upI I 108 (Int32.toNatClampNeg (v4 - 1)) (I 108 (Int32.toNatClampNeg v4))) fun I5 => if inb v4 10 then if inb (v4 - 1) 10 then letv (upI I5 109 (Int32.toNatClampNeg (v4 - 1)) (I5 109 (Int32.toNatClampNeg v4))) fun I8 => if inb v4 10 then if inb (v4 - 1) 10 then letv (upI I8 110 (Int32.toNatClampNeg (v4 - 1)) (I8 110 (Int32.toNatClampNeg v4))) fun I11 => some (.inl (v4 + 1, I11)) else none else none else none else none else none else none else some (.inr I))
set_option maxRecDepth 100000 in
set_option maxHeartbeats 4000000 in
theorem k_X11_keep_b12 {G : GX} {Q : State → Prop} {X : MX} (hO : shX11 X) {v1 : Int32} {v2 : Int32} {v3 : Int32}  {v4 : Int32} {N : Nat} {I : MI} {L : ML} {out : (Int32 × MI) ⊕ (MI)} (hf : f_X11_keep_b12 N v1 v2 v3 v4 I = some out) (hC : ∀ (v4' : Int32) (I' : MI), out = .inl (v4', I') → Ex G mX11_keep rmX11_keep Q (0, 0) X I' L 12 [(0, .ref (gB G + 99)), (1, .int v1), (2, .int v2), (3, .int v3), (4, .int v4')] []) (hX : ∀ (I' : MI), out = .inr I' → Ex G mX11_keep rmX11_keep Q (0, 0) X I' L 73 [(0, .ref (gB G + 99)), (1, .int v1), (2, .int v2), (3, .int v3)] []) : Ex G mX11_keep rmX11_keep Q (0, 0) X I L 12 [(0, .ref (gB G + 99)), (1, .int v1), (2, .int v2), (3, .int v3), (4, .int v4)] [] := by
  unfold f_X11_keep_b12 at hf
  refine ex_iload 4 (pc' := 14) dX11_keep_12 rfl rfl ?_
  refine ex_bipush (v := 10) (pc' := 16) dX11_keep_14 bp_10 rfl ?_
  refine ex_icmpge (tgt := 73) (pc' := 19) dX11_keep_16 (by decide) rfl (fun hc2 => ?_) (fun hc2 => ?_)
  · replace hf := if_t hc2 hf
    refine ex_aload_n 0 (pc' := 20) dX11_keep_19 rfl rfl rfl ?_
    refine ex_getR (pc' := 23) dX11_keep_20 fl_X11_37 rfl (sh11_k hO) (sh11_F10 hO) rfl ?_
    refine ex_iload 4 (pc' := 25) dX11_keep_23 rfl rfl ?_
    refine ex_iconst (v := 1) (pc' := 26) dX11_keep_25 ic_1 rfl ?_
    refine ex_isub (pc' := 27) dX11_keep_26 rfl ?_
    refine ex_aload_n 0 (pc' := 28) dX11_keep_27 rfl rfl rfl ?_
    refine ex_getR (pc' := 31) dX11_keep_28 fl_X11_37 rfl (sh11_k hO) (sh11_F10 hO) rfl ?_
    refine ex_iload 4 (pc' := 33) dX11_keep_31 rfl rfl ?_
    obtain ⟨hg3, hf⟩ := of_guard hf
    refine ex_iald (pc' := 34) dX11_keep_33 (sh11_T10 hO) (inb_in hg3) rfl ?_
    obtain ⟨hg4, hf⟩ := of_guard hf
    refine ex_iast (pc' := 35) dX11_keep_34 (sh11_T10 hO) (inb_in hg4) rfl ?_
    obtain ⟨I5, hI5, hf⟩ := of_let hf
    rw [← hI5]
    refine ex_aload_n 0 (pc' := 36) dX11_keep_35 rfl rfl rfl ?_
    refine ex_getR (pc' := 39) dX11_keep_36 fl_X11_40 rfl (sh11_k hO) (sh11_F11 hO) rfl ?_
    refine ex_iload 4 (pc' := 41) dX11_keep_39 rfl rfl ?_
    refine ex_iconst (v := 1) (pc' := 42) dX11_keep_41 ic_1 rfl ?_
    refine ex_isub (pc' := 43) dX11_keep_42 rfl ?_
    refine ex_aload_n 0 (pc' := 44) dX11_keep_43 rfl rfl rfl ?_
    refine ex_getR (pc' := 47) dX11_keep_44 fl_X11_40 rfl (sh11_k hO) (sh11_F11 hO) rfl ?_
    refine ex_iload 4 (pc' := 49) dX11_keep_47 rfl rfl ?_
    obtain ⟨hg6, hf⟩ := of_guard hf
    refine ex_iald (pc' := 50) dX11_keep_49 (sh11_T11 hO) (inb_in hg6) rfl ?_
    obtain ⟨hg7, hf⟩ := of_guard hf
    refine ex_iast (pc' := 51) dX11_keep_50 (sh11_T11 hO) (inb_in hg7) rfl ?_
    obtain ⟨I8, hI8, hf⟩ := of_let hf
    rw [← hI8]
    refine ex_aload_n 0 (pc' := 52) dX11_keep_51 rfl rfl rfl ?_
    refine ex_getR (pc' := 55) dX11_keep_52 fl_X11_43 rfl (sh11_k hO) (sh11_F12 hO) rfl ?_
    refine ex_iload 4 (pc' := 57) dX11_keep_55 rfl rfl ?_
    refine ex_iconst (v := 1) (pc' := 58) dX11_keep_57 ic_1 rfl ?_
    refine ex_isub (pc' := 59) dX11_keep_58 rfl ?_
    refine ex_aload_n 0 (pc' := 60) dX11_keep_59 rfl rfl rfl ?_
    refine ex_getR (pc' := 63) dX11_keep_60 fl_X11_43 rfl (sh11_k hO) (sh11_F12 hO) rfl ?_
    refine ex_iload 4 (pc' := 65) dX11_keep_63 rfl rfl ?_
    obtain ⟨hg9, hf⟩ := of_guard hf
    refine ex_iald (pc' := 66) dX11_keep_65 (sh11_T12 hO) (inb_in hg9) rfl ?_
    obtain ⟨hg10, hf⟩ := of_guard hf
    refine ex_iast (pc' := 67) dX11_keep_66 (sh11_T12 hO) (inb_in hg10) rfl ?_
    obtain ⟨I11, hI11, hf⟩ := of_let hf
    rw [← hI11]
    refine ex_iincc (lv' := [(4, .int (v4 + 1)), (0, .ref (gB G + 99)), (1, .int v1), (2, .int v2), (3, .int v3)]) 4 (pc' := 70) dX11_keep_67 rfl ic_1 (Nat.le_of_ble_eq_true rfl) rfl rfl ?_
    refine ex_goto (tgt := 12) dX11_keep_70 (by decide) ?_
    exact ex_sub [1, 2, 3, 4, 0] rfl (hC _ _ (Option.some.inj hf).symm)
  · replace hf := if_f hc2 hf
    exact ex_sub [0, 1, 2, 3] rfl (hX _ (Option.some.inj hf).symm)
def f_X11_keep_l12 (N : Nat) (v1 : Int32) (v2 : Int32) (v3 : Int32) (v4 : Int32) (I : MI) : Option (MI) := loopN (fun s => f_X11_keep_b12 N v1 v2 v3 s.1 s.2) N (v4, I)
set_option maxRecDepth 100000 in
set_option maxHeartbeats 4000000 in
theorem k_X11_keep_l12 {G : GX} {Q : State → Prop} {X : MX} (hO : shX11 X) {v1 : Int32} {v2 : Int32} {v3 : Int32}  {N0 : Nat} {L : ML} {out : (MI)} (hX : ∀ (I' : MI), out = I' → Ex G mX11_keep rmX11_keep Q (0, 0) X I' L 73 [(0, .ref (gB G + 99)), (1, .int v1), (2, .int v2), (3, .int v3)] []) : ∀ (N : Nat) (v4 : Int32) (I : MI), loopN (fun s => f_X11_keep_b12 N0 v1 v2 v3 s.1 s.2) N (v4, I) = some out → Ex G mX11_keep rmX11_keep Q (0, 0) X I L 12 [(0, .ref (gB G + 99)), (1, .int v1), (2, .int v2), (3, .int v3), (4, .int v4)] [] := by
  intro N
  induction N with
  | zero => intro v4 I hf; exact absurd (loopN_zero hf) id
  | succ n ih =>
    intro v4 I hf
    rcases loopN_succ hf with ⟨s, hb, hl⟩ | hb
    · obtain ⟨v4', I'⟩ := s
      refine k_X11_keep_b12 hO  hb (fun _ _ he => ?_) (fun _ he => by cases he)
      cases he
      exact ih v4' I' hl
    · exact k_X11_keep_b12 hO  hb (fun _ _ he => by cases he) (fun x0 he => hX x0 (Sum.inr.inj he))
def f_X11_keep_j79 (N : Nat) (v1 : Int32) (v2 : Int32) (v3 : Int32) (I : MI) : Option (MI) := if inb (I 99 9) 10 then letv (upI I 108 (Int32.toNatClampNeg (I 99 9)) v1) fun I16 => if inb (I16 99 9) 10 then letv (upI I16 109 (Int32.toNatClampNeg (I16 99 9)) v2) fun I18 => if inb (I18 99 9) 10 then letv (upI I18 110 (Int32.toNatClampNeg (I18 99 9)) v3) fun I20 => letv (upI I20 99 9 ((I20 99 9) + 1)) fun I21 => some I21 else none else none else none
set_option maxRecDepth 100000 in
set_option maxHeartbeats 4000000 in
theorem k_X11_keep_j79 {G : GX} {Q : State → Prop} {X : MX} (hO : shX11 X) {v1 : Int32} {v2 : Int32} {v3 : Int32}  {N : Nat} {I : MI} {L : ML} {out : MI} (hf : f_X11_keep_j79 N v1 v2 v3 I = some out) (hR : ∀ (I' : MI), out = I' → Q = RetQ G none X I' L (0, 0)) : Ex G mX11_keep rmX11_keep Q (0, 0) X I L 79 [(0, .ref (gB G + 99)), (1, .int v1), (2, .int v2), (3, .int v3)] [] := by
  unfold f_X11_keep_j79 at hf
  refine ex_aload_n 0 (pc' := 80) dX11_keep_79 rfl rfl rfl ?_
  refine ex_getR (pc' := 83) dX11_keep_80 fl_X11_37 rfl (sh11_k hO) (sh11_F10 hO) rfl ?_
  refine ex_aload_n 0 (pc' := 84) dX11_keep_83 rfl rfl rfl ?_
  refine ex_getI (pc' := 87) dX11_keep_84 fl_X11_175 rfl (sh11_k hO) rfl ?_
  refine ex_iload_n 1 (pc' := 88) dX11_keep_87 rfl rfl rfl ?_
  obtain ⟨hg15, hf⟩ := of_guard hf
  refine ex_iast (pc' := 89) dX11_keep_88 (sh11_T10 hO) (inb_in hg15) rfl ?_
  obtain ⟨I16, hI16, hf⟩ := of_let hf
  rw [← hI16]
  refine ex_aload_n 0 (pc' := 90) dX11_keep_89 rfl rfl rfl ?_
  refine ex_getR (pc' := 93) dX11_keep_90 fl_X11_40 rfl (sh11_k hO) (sh11_F11 hO) rfl ?_
  refine ex_aload_n 0 (pc' := 94) dX11_keep_93 rfl rfl rfl ?_
  refine ex_getI (pc' := 97) dX11_keep_94 fl_X11_175 rfl (sh11_k hO) rfl ?_
  refine ex_iload_n 2 (pc' := 98) dX11_keep_97 rfl rfl rfl ?_
  obtain ⟨hg17, hf⟩ := of_guard hf
  refine ex_iast (pc' := 99) dX11_keep_98 (sh11_T11 hO) (inb_in hg17) rfl ?_
  obtain ⟨I18, hI18, hf⟩ := of_let hf
  rw [← hI18]
  refine ex_aload_n 0 (pc' := 100) dX11_keep_99 rfl rfl rfl ?_
  refine ex_getR (pc' := 103) dX11_keep_100 fl_X11_43 rfl (sh11_k hO) (sh11_F12 hO) rfl ?_
  refine ex_aload_n 0 (pc' := 104) dX11_keep_103 rfl rfl rfl ?_
  refine ex_getI (pc' := 107) dX11_keep_104 fl_X11_175 rfl (sh11_k hO) rfl ?_
  refine ex_iload_n 3 (pc' := 108) dX11_keep_107 rfl rfl rfl ?_
  obtain ⟨hg19, hf⟩ := of_guard hf
  refine ex_iast (pc' := 109) dX11_keep_108 (sh11_T12 hO) (inb_in hg19) rfl ?_
  obtain ⟨I20, hI20, hf⟩ := of_let hf
  rw [← hI20]
  refine ex_aload_n 0 (pc' := 110) dX11_keep_109 rfl rfl rfl ?_
  refine ex_dup (pc' := 111) dX11_keep_110 rfl rfl ?_
  refine ex_getI (pc' := 114) dX11_keep_111 fl_X11_175 rfl (sh11_k hO) rfl ?_
  refine ex_iconst (v := 1) (pc' := 115) dX11_keep_114 ic_1 rfl ?_
  refine ex_iadd (pc' := 116) dX11_keep_115 rfl ?_
  refine ex_putI (pc' := 119) dX11_keep_116 fl_X11_175 rfl (sh11_k hO) rfl ?_
  obtain ⟨I21, hI21, hf⟩ := of_let hf
  rw [← hI21]
  exact ex_vret dX11_keep_119 rfl (hR _ (Option.some.inj hf).symm)
def f_X11_keep (N : Nat) (v1 : Int32) (v2 : Int32) (v3 : Int32) (I : MI) : Option (MI) := (if (I 99 9) = 10 then bnd1 (f_X11_keep_l12 N v1 v2 v3 1 I) fun I12 => letv (upI I12 99 9 9) fun I14 => f_X11_keep_j79 N v1 v2 v3 I14 else f_X11_keep_j79 N v1 v2 v3 I)
set_option maxRecDepth 100000 in
set_option maxHeartbeats 4000000 in
theorem kb_X11_keep {G : GX} {Q : State → Prop} {X : MX} (hO : shX11 X) {v1 : Int32} {v2 : Int32} {v3 : Int32}  {N : Nat} {I : MI} {L : ML} {out : MI} (hf : f_X11_keep N v1 v2 v3 I = some out) (hR : ∀ (I' : MI), out = I' → Q = RetQ G none X I' L (0, 0)) : Ex G mX11_keep rmX11_keep Q (0, 0) X I L 0 [(0, .ref (gB G + 99)), (1, .int v1), (2, .int v2), (3, .int v3)] [] := by
  unfold f_X11_keep at hf
  refine ex_aload_n 0 (pc' := 1) dX11_keep_0 rfl rfl rfl ?_
  refine ex_getI (pc' := 4) dX11_keep_1 fl_X11_175 rfl (sh11_k hO) rfl ?_
  refine ex_bipush (v := 10) (pc' := 6) dX11_keep_4 bp_10 rfl ?_
  refine ex_icmpne (tgt := 79) (pc' := 9) dX11_keep_6 (by decide) rfl (fun hc1 => ?_) (fun hc1 => ?_)
  · replace hf := if_t hc1 hf
    refine ex_iconst (v := 1) (pc' := 10) dX11_keep_9 ic_1 rfl ?_
    refine ex_istore (lv' := [(4, .int 1), (0, .ref (gB G + 99)), (1, .int v1), (2, .int v2), (3, .int v3)]) (pc' := 12) dX11_keep_10 (Nat.le_of_ble_eq_true rfl) rfl rfl ?_
    refine ex_sub (lv' := [(0, .ref (gB G + 99)), (1, .int v1), (2, .int v2), (3, .int v3), (4, .int 1)]) [1, 2, 3, 4, 0] rfl ?_
    obtain ⟨I12, hq13, hf⟩ := of_bnd1 hf
    refine k_X11_keep_l12 hO (fun I12' he => ?_) _ _ _ hq13
    cases he
    refine ex_aload_n 0 (pc' := 74) dX11_keep_73 rfl rfl rfl ?_
    refine ex_bipush (v := 9) (pc' := 76) dX11_keep_74 bp_9 rfl ?_
    refine ex_putI (pc' := 79) dX11_keep_76 fl_X11_175 rfl (sh11_k hO) rfl ?_
    obtain ⟨I14, hI14, hf⟩ := of_let hf
    rw [← hI14]
    refine ex_sub [0, 1, 2, 3] rfl (k_X11_keep_j79 hO  hf hR)
  · replace hf := if_f hc1 hf
    refine ex_sub [0, 1, 2, 3] rfl (k_X11_keep_j79 hO  hf hR)
set_option maxRecDepth 100000 in
set_option maxHeartbeats 4000000 in
theorem k_X11_keep (G : GX) {X : MX} (hO : shX11 X) {v1 : Int32} {v2 : Int32} {v3 : Int32}  {N : Nat} {I : MI} {L : ML} {I' : MI} (hf : f_X11_keep N v1 v2 v3 I = some I') : Con G mX11_keep yX11_keep rmX11_keep (fun B => [.ref (B + 99), .int v1, .int v2, .int v3]) X I L none X I' L :=
  Con.of (by decide) rfl (fun h => by cases h) (fun B => Nat.le_of_ble_eq_true rfl) (fun G => kb_X11_keep hO  hf (fun _ he => by cases he; rfl))
