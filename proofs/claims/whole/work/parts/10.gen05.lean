theorem cl_X11_183 : CLV RX11 183 yX11_keep mX11_keep none 3 := ⟨⟨lwg_at 1183 (by decide +kernel) rfl, lwg_at 1185 (by decide +kernel) rfl, lwg_at 25 (by decide +kernel) rfl, lwg_at 61 (by decide +kernel) rfl⟩, lwg_at 1186 (by decide +kernel) rfl, ⟨by decide +kernel, by decide +kernel, by decide +kernel⟩⟩
-- X11_cell ('RookWordsModel', 'cell', '(III)I')
def rmX11_cell : RM := ((2, 45, 0, 0), false, (some FieldType.int))
def f_X11_cell (N : Nat) (v1 : Int32) (v2 : Int32) (v3 : Int32) (I : MI) : Option (Int32 × MI) := bnd1 (f_X11_isSix v1) fun r1 => (if r1 = 0 then some ((-1), I) else if inb v1 6 then bnd1 (f_X11_in (Int32.toInt64 v2) 0 (Int32.toInt64 ((I 103 (Int32.toNatClampNeg v1)) - 1))) fun r5 => (if r5 = 0 then some ((-1), I) else if inb v1 6 then bnd1 (f_X11_in (Int32.toInt64 v3) 0 (Int32.toInt64 ((I 103 (Int32.toNatClampNeg v1)) - 1))) fun r9 => (if r9 = 0 then some ((-1), I) else if inb ((6 * v1) + v2) 36 then bnd1 (f_X11_keep N v1 v2 (I 104 (Int32.toNatClampNeg ((6 * v1) + v2))) I) fun I13 => if inb ((6 * v1) + v2) 36 then if inb ((6 * v1) + v2) 36 then letv (upI I13 104 (Int32.toNatClampNeg ((6 * v1) + v2)) ((I13 104 (Int32.toNatClampNeg ((6 * v1) + v2))) ^^^ (jshl 1 v3))) fun I17 => bnd1 (f_X11_cells N v1 I17) fun r18 => some (r18, I17) else none else none else none) else none) else none)
set_option maxRecDepth 100000 in
set_option maxHeartbeats 4000000 in
theorem kb_X11_cell {G : GX} {Q : State → Prop} {X : MX} (hO : shX11 X) {v1 : Int32} {v2 : Int32} {v3 : Int32}  {N : Nat} {I : MI} {L : ML} {out : Int32 × MI} (hf : f_X11_cell N v1 v2 v3 I = some out) (hR : ∀ (z : Int32) (I' : MI), out = (z, I') → Q = RetQ G (some (.int z)) X I' L (0, 0)) : Ex G mX11_cell rmX11_cell Q (0, 0) X I L 0 [(0, .ref (gB G + 99)), (1, .int v1), (2, .int v2), (3, .int v3)] [] := by
  unfold f_X11_cell at hf
  refine ex_iload_n 1 (pc' := 1) dX11_cell_0 rfl rfl rfl ?_
  obtain ⟨r1, hq2, hf⟩ := of_bnd1 hf
  refine ex_callS_i (rm' := rmX11_isSix) (st := []) (pc' := 4) [.int v1] dX11_cell_1 cl_X11_133 (k_X11_isSix G hq2) rfl rfl rfl (ROOM_of rfl) (Nat.le_of_ble_eq_true rfl) rfl rfl ?_
  refine ex_ifeq (tgt := 43) (pc' := 7) dX11_cell_4 (by decide) rfl (fun hc3 => ?_) (fun hc3 => ?_)
  · replace hf := if_t hc3 hf
    refine ex_iconst (v := (-1)) (pc' := 44) dX11_cell_43 ic_m1 rfl ?_
    exact ex_iret dX11_cell_44 rfl (hR _ _ (Option.some.inj hf).symm)
  · replace hf := if_f hc3 hf
    refine ex_iload_n 2 (pc' := 8) dX11_cell_7 rfl rfl rfl ?_
    refine ex_i2l (pc' := 9) dX11_cell_8 rfl ?_
    refine ex_lconst (v := 0) (pc' := 10) dX11_cell_9 lc_0 rfl ?_
    refine ex_aload_n 0 (pc' := 11) dX11_cell_10 rfl rfl rfl ?_
    refine ex_getR (pc' := 14) dX11_cell_11 fl_X11_22 rfl (sh11_k hO) (sh11_F3 hO) rfl ?_
    refine ex_iload_n 1 (pc' := 15) dX11_cell_14 rfl rfl rfl ?_
    obtain ⟨hg4, hf⟩ := of_guard hf
    refine ex_iald (pc' := 16) dX11_cell_15 (sh11_T3 hO) (inb_in hg4) rfl ?_
    refine ex_iconst (v := 1) (pc' := 17) dX11_cell_16 ic_1 rfl ?_
    refine ex_isub (pc' := 18) dX11_cell_17 rfl ?_
    refine ex_i2l (pc' := 19) dX11_cell_18 rfl ?_
    obtain ⟨r5, hq6, hf⟩ := of_bnd1 hf
    refine ex_callS_i (rm' := rmX11_in) (st := []) (pc' := 22) [.long (Int32.toInt64 v2), .long 0, .long (Int32.toInt64 ((I 103 (Int32.toNatClampNeg v1)) - 1))] dX11_cell_19 cl_X11_129 (k_X11_in G hq6) rfl rfl rfl (ROOM_of rfl) (Nat.le_of_ble_eq_true rfl) rfl rfl ?_
    refine ex_ifeq (tgt := 43) (pc' := 25) dX11_cell_22 (by decide) rfl (fun hc7 => ?_) (fun hc7 => ?_)
    · replace hf := if_t hc7 hf
      refine ex_iconst (v := (-1)) (pc' := 44) dX11_cell_43 ic_m1 rfl ?_
      exact ex_iret dX11_cell_44 rfl (hR _ _ (Option.some.inj hf).symm)
    · replace hf := if_f hc7 hf
      refine ex_iload_n 3 (pc' := 26) dX11_cell_25 rfl rfl rfl ?_
      refine ex_i2l (pc' := 27) dX11_cell_26 rfl ?_
      refine ex_lconst (v := 0) (pc' := 28) dX11_cell_27 lc_0 rfl ?_
      refine ex_aload_n 0 (pc' := 29) dX11_cell_28 rfl rfl rfl ?_
      refine ex_getR (pc' := 32) dX11_cell_29 fl_X11_22 rfl (sh11_k hO) (sh11_F3 hO) rfl ?_
      refine ex_iload_n 1 (pc' := 33) dX11_cell_32 rfl rfl rfl ?_
      obtain ⟨hg8, hf⟩ := of_guard hf
      refine ex_iald (pc' := 34) dX11_cell_33 (sh11_T3 hO) (inb_in hg8) rfl ?_
      refine ex_iconst (v := 1) (pc' := 35) dX11_cell_34 ic_1 rfl ?_
      refine ex_isub (pc' := 36) dX11_cell_35 rfl ?_
      refine ex_i2l (pc' := 37) dX11_cell_36 rfl ?_
      obtain ⟨r9, hq10, hf⟩ := of_bnd1 hf
      refine ex_callS_i (rm' := rmX11_in) (st := []) (pc' := 40) [.long (Int32.toInt64 v3), .long 0, .long (Int32.toInt64 ((I 103 (Int32.toNatClampNeg v1)) - 1))] dX11_cell_37 cl_X11_129 (k_X11_in G hq10) rfl rfl rfl (ROOM_of rfl) (Nat.le_of_ble_eq_true rfl) rfl rfl ?_
      refine ex_ifne (tgt := 45) (pc' := 43) dX11_cell_40 (by decide) rfl (fun hc11 => ?_) (fun hc11 => ?_)
      · replace hf := if_t hc11 hf
        refine ex_iconst (v := (-1)) (pc' := 44) dX11_cell_43 ic_m1 rfl ?_
        exact ex_iret dX11_cell_44 rfl (hR _ _ (Option.some.inj hf).symm)
      · replace hf := if_f hc11 hf
        refine ex_aload_n 0 (pc' := 46) dX11_cell_45 rfl rfl rfl ?_
        refine ex_iload_n 1 (pc' := 47) dX11_cell_46 rfl rfl rfl ?_
        refine ex_iload_n 2 (pc' := 48) dX11_cell_47 rfl rfl rfl ?_
        refine ex_aload_n 0 (pc' := 49) dX11_cell_48 rfl rfl rfl ?_
        refine ex_getR (pc' := 52) dX11_cell_49 fl_X11_25 rfl (sh11_k hO) (sh11_F4 hO) rfl ?_
        refine ex_bipush (v := 6) (pc' := 54) dX11_cell_52 bp_6 rfl ?_
        refine ex_iload_n 1 (pc' := 55) dX11_cell_54 rfl rfl rfl ?_
        refine ex_imul (pc' := 56) dX11_cell_55 rfl ?_
        refine ex_iload_n 2 (pc' := 57) dX11_cell_56 rfl rfl rfl ?_
        refine ex_iadd (pc' := 58) dX11_cell_57 rfl ?_
        obtain ⟨hg12, hf⟩ := of_guard hf
        refine ex_iald (pc' := 59) dX11_cell_58 (sh11_T4 hO) (inb_in hg12) rfl ?_
        obtain ⟨I13, hq14, hf⟩ := of_bnd1 hf
        refine ex_callV_v (rm' := rmX11_keep) (st := []) (pc' := 62) [.int v1, .int v2, .int (I 104 (Int32.toNatClampNeg ((6 * v1) + v2)))] dX11_cell_59 cl_X11_183 (k_X11_keep G hO hq14) rfl (sh11_k hO) ⟨_, _, rfl⟩ rfl rfl (ROOM_of rfl) (Nat.le_of_ble_eq_true rfl) rfl rfl ?_
        refine ex_aload_n 0 (pc' := 63) dX11_cell_62 rfl rfl rfl ?_
        refine ex_getR (pc' := 66) dX11_cell_63 fl_X11_25 rfl (sh11_k hO) (sh11_F4 hO) rfl ?_
        refine ex_bipush (v := 6) (pc' := 68) dX11_cell_66 bp_6 rfl ?_
        refine ex_iload_n 1 (pc' := 69) dX11_cell_68 rfl rfl rfl ?_
        refine ex_imul (pc' := 70) dX11_cell_69 rfl ?_
        refine ex_iload_n 2 (pc' := 71) dX11_cell_70 rfl rfl rfl ?_
        refine ex_iadd (pc' := 72) dX11_cell_71 rfl ?_
        refine ex_dup2 (pc' := 73) dX11_cell_72 rfl rfl rfl ?_
        obtain ⟨hg15, hf⟩ := of_guard hf
        refine ex_iald (pc' := 74) dX11_cell_73 (sh11_T4 hO) (inb_in hg15) rfl ?_
        refine ex_iconst (v := 1) (pc' := 75) dX11_cell_74 ic_1 rfl ?_
        refine ex_iload_n 3 (pc' := 76) dX11_cell_75 rfl rfl rfl ?_
        refine ex_ishl (pc' := 77) dX11_cell_76 rfl ?_
        refine ex_ixor (pc' := 78) dX11_cell_77 rfl ?_
        obtain ⟨hg16, hf⟩ := of_guard hf
        refine ex_iast (pc' := 79) dX11_cell_78 (sh11_T4 hO) (inb_in hg16) rfl ?_
        obtain ⟨I17, hI17, hf⟩ := of_let hf
        rw [← hI17]
        refine ex_aload_n 0 (pc' := 80) dX11_cell_79 rfl rfl rfl ?_
        refine ex_iload_n 1 (pc' := 81) dX11_cell_80 rfl rfl rfl ?_
        obtain ⟨r18, hq19, hf⟩ := of_bnd1 hf
        refine ex_callV_i (rm' := rmX11_cells) (st := []) (pc' := 84) [.int v1] dX11_cell_81 cl_X11_186 (k_X11_cells G hO hq19) rfl (sh11_k hO) ⟨_, _, rfl⟩ rfl rfl (ROOM_of rfl) (Nat.le_of_ble_eq_true rfl) rfl rfl ?_
        exact ex_iret dX11_cell_84 rfl (hR _ _ (Option.some.inj hf).symm)
set_option maxRecDepth 100000 in
set_option maxHeartbeats 4000000 in
theorem k_X11_cell (G : GX) {X : MX} (hO : shX11 X) {v1 : Int32} {v2 : Int32} {v3 : Int32}  {N : Nat} {I : MI} {L : ML} {z : Int32} {I' : MI} (hf : f_X11_cell N v1 v2 v3 I = some (z, I')) : Con G mX11_cell yX11_cell rmX11_cell (fun B => [.ref (B + 99), .int v1, .int v2, .int v3]) X I L (some (.int z)) X I' L :=
  Con.of (by decide) rfl (fun h => by cases h) (fun B => Nat.le_of_ble_eq_true rfl) (fun G => kb_X11_cell hO  hf (fun _ _ he => by cases he; rfl))
theorem fl_X11_28 : FLD RX11 28 11 5 true := ⟨RX11, TX11, 51, rfl, inX11, by decide, lwg_at 939 (by decide +kernel) rfl, nmX11, tyX11_ok, rfl, rfl⟩
-- X11_lift ('RookWordsModel', 'lift', '(I)V')
def rmX11_lift : RM := ((0, 0, 0, 0), false, none)
def f_X11_lift (v1 : Int32) (I : MI) : Option (MI) := if inb (I 99 46) 6 then letv (I 134 (Int32.toNatClampNeg (I 99 46))) fun x2 => (if x2 < 0 then some I else (if x2 < v1 then letv (upI I 99 43 ((I 99 43) - 1)) fun I5 => letv (upI I5 99 44 ((I5 99 44) &&& ((jshl 1 x2) ^^^ (-1)))) fun I6 => if inb ((6 * (I6 99 46)) + x2) 36 then letv (upI I6 99 45 ((I6 99 45) - (I6 105 (Int32.toNatClampNeg ((6 * (I6 99 46)) + x2))))) fun I8 => some I8 else none else some I)) else none
set_option maxRecDepth 100000 in
set_option maxHeartbeats 4000000 in
theorem kb_X11_lift {G : GX} {Q : State → Prop} {X : MX} (hO : shX11 X) {v1 : Int32}  {I : MI} {L : ML} {out : MI} (hf : f_X11_lift v1 I = some out) (hR : ∀ (I' : MI), out = I' → Q = RetQ G none X I' L (0, 0)) : Ex G mX11_lift rmX11_lift Q (0, 0) X I L 0 [(0, .ref (gB G + 99)), (1, .int v1)] [] := by
  unfold f_X11_lift at hf
  refine ex_aload_n 0 (pc' := 1) dX11_lift_0 rfl rfl rfl ?_
  refine ex_getR (pc' := 4) dX11_lift_1 fl_X11_115 rfl (sh11_k hO) (sh11_F42 hO) rfl ?_
  refine ex_aload_n 0 (pc' := 5) dX11_lift_4 rfl rfl rfl ?_
  refine ex_getI (pc' := 8) dX11_lift_5 fl_X11_250 rfl (sh11_k hO) rfl ?_
  obtain ⟨hg1, hf⟩ := of_guard hf
  refine ex_iald (pc' := 9) dX11_lift_8 (sh11_T42 hO) (inb_in hg1) rfl ?_
  obtain ⟨x2, hx2, hf⟩ := of_let hf
  rw [← hx2]
  refine ex_istore_n (lv' := [(2, .int x2), (0, .ref (gB G + 99)), (1, .int v1)]) (pc' := 10) dX11_lift_9 rfl (Nat.le_of_ble_eq_true rfl) rfl rfl ?_
  refine ex_iload_n 0 (pc' := 11) dX11_lift_10 rfl rfl rfl ?_
  refine ex_iflt (tgt := 66) (pc' := 14) dX11_lift_11 (by decide) rfl (fun hc3 => ?_) (fun hc3 => ?_)
  · replace hf := if_t hc3 hf
    exact ex_vret dX11_lift_66 rfl (hR _ (Option.some.inj hf).symm)
  · replace hf := if_f hc3 hf
    refine ex_iload_n 0 (pc' := 15) dX11_lift_14 rfl rfl rfl ?_
    refine ex_iload_n 2 (pc' := 16) dX11_lift_15 rfl rfl rfl ?_
    refine ex_icmpge (tgt := 66) (pc' := 19) dX11_lift_16 (by decide) rfl (fun hc4 => ?_) (fun hc4 => ?_)
    · replace hf := if_t hc4 hf
      refine ex_aload_n 1 (pc' := 20) dX11_lift_19 rfl rfl rfl ?_
      refine ex_dup (pc' := 21) dX11_lift_20 rfl rfl ?_
      refine ex_getI (pc' := 24) dX11_lift_21 fl_X11_241 rfl (sh11_k hO) rfl ?_
      refine ex_iconst (v := 1) (pc' := 25) dX11_lift_24 ic_1 rfl ?_
      refine ex_isub (pc' := 26) dX11_lift_25 rfl ?_
      refine ex_putI (pc' := 29) dX11_lift_26 fl_X11_241 rfl (sh11_k hO) rfl ?_
      obtain ⟨I5, hI5, hf⟩ := of_let hf
      rw [← hI5]
      refine ex_aload_n 1 (pc' := 30) dX11_lift_29 rfl rfl rfl ?_
      refine ex_dup (pc' := 31) dX11_lift_30 rfl rfl ?_
      refine ex_getI (pc' := 34) dX11_lift_31 fl_X11_244 rfl (sh11_k hO) rfl ?_
      refine ex_iconst (v := 1) (pc' := 35) dX11_lift_34 ic_1 rfl ?_
      refine ex_iload_n 0 (pc' := 36) dX11_lift_35 rfl rfl rfl ?_
      refine ex_ishl (pc' := 37) dX11_lift_36 rfl ?_
      refine ex_iconst (v := (-1)) (pc' := 38) dX11_lift_37 ic_m1 rfl ?_
      refine ex_ixor (pc' := 39) dX11_lift_38 rfl ?_
      refine ex_iand (pc' := 40) dX11_lift_39 rfl ?_
      refine ex_putI (pc' := 43) dX11_lift_40 fl_X11_244 rfl (sh11_k hO) rfl ?_
      obtain ⟨I6, hI6, hf⟩ := of_let hf
      rw [← hI6]
      refine ex_aload_n 1 (pc' := 44) dX11_lift_43 rfl rfl rfl ?_
      refine ex_dup (pc' := 45) dX11_lift_44 rfl rfl ?_
      refine ex_getI (pc' := 48) dX11_lift_45 fl_X11_247 rfl (sh11_k hO) rfl ?_
      refine ex_aload_n 1 (pc' := 49) dX11_lift_48 rfl rfl rfl ?_
      refine ex_getR (pc' := 52) dX11_lift_49 fl_X11_28 rfl (sh11_k hO) (sh11_F5 hO) rfl ?_
      refine ex_bipush (v := 6) (pc' := 54) dX11_lift_52 bp_6 rfl ?_
      refine ex_aload_n 1 (pc' := 55) dX11_lift_54 rfl rfl rfl ?_
      refine ex_getI (pc' := 58) dX11_lift_55 fl_X11_250 rfl (sh11_k hO) rfl ?_
      refine ex_imul (pc' := 59) dX11_lift_58 rfl ?_
      refine ex_iload_n 0 (pc' := 60) dX11_lift_59 rfl rfl rfl ?_
      refine ex_iadd (pc' := 61) dX11_lift_60 rfl ?_
      obtain ⟨hg7, hf⟩ := of_guard hf
      refine ex_iald (pc' := 62) dX11_lift_61 (sh11_T5 hO) (inb_in hg7) rfl ?_
      refine ex_isub (pc' := 63) dX11_lift_62 rfl ?_
      refine ex_putI (pc' := 66) dX11_lift_63 fl_X11_247 rfl (sh11_k hO) rfl ?_
      obtain ⟨I8, hI8, hf⟩ := of_let hf
      rw [← hI8]
      exact ex_vret dX11_lift_66 rfl (hR _ (Option.some.inj hf).symm)
    · replace hf := if_f hc4 hf
      exact ex_vret dX11_lift_66 rfl (hR _ (Option.some.inj hf).symm)
set_option maxRecDepth 100000 in
set_option maxHeartbeats 4000000 in
theorem k_X11_lift (G : GX) {X : MX} (hO : shX11 X) {v1 : Int32}  {I : MI} {L : ML} {I' : MI} (hf : f_X11_lift v1 I = some I') : Con G mX11_lift yX11_lift rmX11_lift (fun B => [.ref (B + 99), .int v1]) X I L none X I' L :=
  Con.of (by decide) rfl (fun h => by cases h) (fun B => Nat.le_of_ble_eq_true rfl) (fun G => kb_X11_lift hO  hf (fun _ he => by cases he; rfl))
-- X11_has ('RookWordsModel', 'has', '(III)Z')
def rmX11_has : RM := ((0, 0, 0, 0), false, (some FieldType.boolean))
def f_X11_has (v1 : Int32) (v2 : Int32) (v3 : Int32) (I : MI) : Option (Int32) := if inb ((6 * v1) + v2) 36 then (if ((jshr (I 104 (Int32.toNatClampNeg ((6 * v1) + v2))) v3) &&& 1) = 1 then some 1 else some 0) else none
set_option maxRecDepth 100000 in
set_option maxHeartbeats 4000000 in
theorem kb_X11_has {G : GX} {Q : State → Prop} {X : MX} (hO : shX11 X) {v1 : Int32} {v2 : Int32} {v3 : Int32}  {I : MI} {L : ML} {out : Int32} (hf : f_X11_has v1 v2 v3 I = some out) (hR : ∀ (z : Int32), out = z → Q = RetQ G (some (.int z)) X I L (0, 0)) : Ex G mX11_has rmX11_has Q (0, 0) X I L 0 [(0, .ref (gB G + 99)), (1, .int v1), (2, .int v2), (3, .int v3)] [] := by
  unfold f_X11_has at hf
  refine ex_aload_n 0 (pc' := 1) dX11_has_0 rfl rfl rfl ?_
  refine ex_getR (pc' := 4) dX11_has_1 fl_X11_25 rfl (sh11_k hO) (sh11_F4 hO) rfl ?_
  refine ex_bipush (v := 6) (pc' := 6) dX11_has_4 bp_6 rfl ?_
  refine ex_iload_n 1 (pc' := 7) dX11_has_6 rfl rfl rfl ?_
  refine ex_imul (pc' := 8) dX11_has_7 rfl ?_
  refine ex_iload_n 2 (pc' := 9) dX11_has_8 rfl rfl rfl ?_
  refine ex_iadd (pc' := 10) dX11_has_9 rfl ?_
  obtain ⟨hg1, hf⟩ := of_guard hf
  refine ex_iald (pc' := 11) dX11_has_10 (sh11_T4 hO) (inb_in hg1) rfl ?_
  refine ex_iload_n 3 (pc' := 12) dX11_has_11 rfl rfl rfl ?_
  refine ex_ishr (pc' := 13) dX11_has_12 rfl ?_
  refine ex_iconst (v := 1) (pc' := 14) dX11_has_13 ic_1 rfl ?_
  refine ex_iand (pc' := 15) dX11_has_14 rfl ?_
  refine ex_iconst (v := 1) (pc' := 16) dX11_has_15 ic_1 rfl ?_
  refine ex_icmpne (tgt := 23) (pc' := 19) dX11_has_16 (by decide) rfl (fun hc2 => ?_) (fun hc2 => ?_)
  · replace hf := if_t hc2 hf
    refine ex_iconst (v := 1) (pc' := 20) dX11_has_19 ic_1 rfl ?_
    refine ex_goto (tgt := 24) dX11_has_20 (by decide) ?_
    exact ex_zret dX11_has_24 rfl (Or.inr rfl) (hR _ (Option.some.inj hf).symm)
  · replace hf := if_f hc2 hf
    refine ex_iconst (v := 0) (pc' := 24) dX11_has_23 ic_0 rfl ?_
    exact ex_zret dX11_has_24 rfl (Or.inl rfl) (hR _ (Option.some.inj hf).symm)
set_option maxRecDepth 100000 in
set_option maxHeartbeats 4000000 in
theorem k_X11_has (G : GX) {X : MX} (hO : shX11 X) {v1 : Int32} {v2 : Int32} {v3 : Int32}  {I : MI} {L : ML} {z : Int32} (hf : f_X11_has v1 v2 v3 I = some z) : Con G mX11_has yX11_has rmX11_has (fun B => [.ref (B + 99), .int v1, .int v2, .int v3]) X I L (some (.int z)) X I L :=
  Con.of (by decide) rfl (fun h => by cases h) (fun B => Nat.le_of_ble_eq_true rfl) (fun G => kb_X11_has hO  hf (fun _ he => by cases he; rfl))
theorem cl_X11_189 : CLV RX11 189 yX11_has mX11_has (some FieldType.boolean) 3 := ⟨⟨lwg_at 1210 (by decide +kernel) rfl, lwg_at 1212 (by decide +kernel) rfl, lwg_at 27 (by decide +kernel) rfl, lwg_at 61 (by decide +kernel) rfl⟩, lwg_at 1213 (by decide +kernel) rfl, ⟨by decide +kernel, by decide +kernel, by decide +kernel⟩⟩
-- X11_mayStand ('RookWordsModel', 'mayStand', '(III)Z')
def rmX11_mayStand : RM := ((1, 23, 0, 0), false, (some FieldType.boolean))
def f_X11_mayStand (v1 : Int32) (v2 : Int32) (v3 : Int32) (I : MI) : Option (Int32) := if inb v1 6 then (if v3 = (I 103 (Int32.toNatClampNeg v1)) then (if ((((I 99 43) + (I 103 (Int32.toNatClampNeg v1))) - 1) - (I 99 46)) < v2 then some 0 else some 1) else (if (I 99 43) < v2 then bnd1 (f_X11_has v1 (I 99 46) v3 I) fun r5 => (if r5 = 0 then some 0 else (if ((jshr (I 99 44) v3) &&& 1) = 0 then some 1 else some 0)) else some 0)) else none
set_option maxRecDepth 100000 in
set_option maxHeartbeats 4000000 in
theorem kb_X11_mayStand {G : GX} {Q : State → Prop} {X : MX} (hO : shX11 X) {v1 : Int32} {v2 : Int32} {v3 : Int32}  {I : MI} {L : ML} {out : Int32} (hf : f_X11_mayStand v1 v2 v3 I = some out) (hR : ∀ (z : Int32), out = z → Q = RetQ G (some (.int z)) X I L (0, 0)) : Ex G mX11_mayStand rmX11_mayStand Q (0, 0) X I L 0 [(0, .ref (gB G + 99)), (1, .int v1), (2, .int v2), (3, .int v3)] [] := by
  unfold f_X11_mayStand at hf
  refine ex_aload_n 0 (pc' := 1) dX11_mayStand_0 rfl rfl rfl ?_
  refine ex_getR (pc' := 4) dX11_mayStand_1 fl_X11_22 rfl (sh11_k hO) (sh11_F3 hO) rfl ?_
  refine ex_iload_n 1 (pc' := 5) dX11_mayStand_4 rfl rfl rfl ?_
  obtain ⟨hg1, hf⟩ := of_guard hf
  refine ex_iald (pc' := 6) dX11_mayStand_5 (sh11_T3 hO) (inb_in hg1) rfl ?_
  refine ex_istore (lv' := [(4, .int (I 103 (Int32.toNatClampNeg v1))), (0, .ref (gB G + 99)), (1, .int v1), (2, .int v2), (3, .int v3)]) (pc' := 8) dX11_mayStand_6 (Nat.le_of_ble_eq_true rfl) rfl rfl ?_
  refine ex_iload_n 4 (pc' := 9) dX11_mayStand_8 rfl rfl rfl ?_
  refine ex_iload 0 (pc' := 11) dX11_mayStand_9 rfl rfl ?_
  refine ex_icmpne (tgt := 38) (pc' := 14) dX11_mayStand_11 (by decide) rfl (fun hc2 => ?_) (fun hc2 => ?_)
  · replace hf := if_t hc2 hf
    refine ex_aload_n 1 (pc' := 15) dX11_mayStand_14 rfl rfl rfl ?_
    refine ex_getI (pc' := 18) dX11_mayStand_15 fl_X11_241 rfl (sh11_k hO) rfl ?_
    refine ex_iload 0 (pc' := 20) dX11_mayStand_18 rfl rfl ?_
    refine ex_iadd (pc' := 21) dX11_mayStand_20 rfl ?_
    refine ex_iconst (v := 1) (pc' := 22) dX11_mayStand_21 ic_1 rfl ?_
    refine ex_isub (pc' := 23) dX11_mayStand_22 rfl ?_
    refine ex_aload_n 1 (pc' := 24) dX11_mayStand_23 rfl rfl rfl ?_
    refine ex_getI (pc' := 27) dX11_mayStand_24 fl_X11_250 rfl (sh11_k hO) rfl ?_
    refine ex_isub (pc' := 28) dX11_mayStand_27 rfl ?_
    refine ex_iload_n 3 (pc' := 29) dX11_mayStand_28 rfl rfl rfl ?_
    refine ex_icmplt (tgt := 36) (pc' := 32) dX11_mayStand_29 (by decide) rfl (fun hc3 => ?_) (fun hc3 => ?_)
    · replace hf := if_t hc3 hf
      refine ex_iconst (v := 0) (pc' := 37) dX11_mayStand_36 ic_0 rfl ?_
      exact ex_zret dX11_mayStand_37 rfl (Or.inl rfl) (hR _ (Option.some.inj hf).symm)
    · replace hf := if_f hc3 hf
      refine ex_iconst (v := 1) (pc' := 33) dX11_mayStand_32 ic_1 rfl ?_
      refine ex_goto (tgt := 37) dX11_mayStand_33 (by decide) ?_
      exact ex_zret dX11_mayStand_37 rfl (Or.inr rfl) (hR _ (Option.some.inj hf).symm)
  · replace hf := if_f hc2 hf
    refine ex_aload_n 1 (pc' := 39) dX11_mayStand_38 rfl rfl rfl ?_
    refine ex_getI (pc' := 42) dX11_mayStand_39 fl_X11_241 rfl (sh11_k hO) rfl ?_
    refine ex_iload_n 3 (pc' := 43) dX11_mayStand_42 rfl rfl rfl ?_
    refine ex_icmpge (tgt := 74) (pc' := 46) dX11_mayStand_43 (by decide) rfl (fun hc4 => ?_) (fun hc4 => ?_)
    · replace hf := if_t hc4 hf
      refine ex_aload_n 1 (pc' := 47) dX11_mayStand_46 rfl rfl rfl ?_
      refine ex_iload_n 2 (pc' := 48) dX11_mayStand_47 rfl rfl rfl ?_
      refine ex_aload_n 1 (pc' := 49) dX11_mayStand_48 rfl rfl rfl ?_
      refine ex_getI (pc' := 52) dX11_mayStand_49 fl_X11_250 rfl (sh11_k hO) rfl ?_
      refine ex_iload_n 4 (pc' := 53) dX11_mayStand_52 rfl rfl rfl ?_
      obtain ⟨r5, hq6, hf⟩ := of_bnd1 hf
      refine ex_callV_i (rm' := rmX11_has) (st := []) (pc' := 56) [.int v1, .int (I 99 46), .int v3] dX11_mayStand_53 cl_X11_189 (k_X11_has G hO hq6) rfl (sh11_k hO) ⟨_, _, rfl⟩ rfl rfl (ROOM_of rfl) (Nat.le_of_ble_eq_true rfl) rfl rfl ?_
      refine ex_ifeq (tgt := 74) (pc' := 59) dX11_mayStand_56 (by decide) rfl (fun hc7 => ?_) (fun hc7 => ?_)
      · replace hf := if_t hc7 hf
        refine ex_iconst (v := 0) (pc' := 75) dX11_mayStand_74 ic_0 rfl ?_
        exact ex_zret dX11_mayStand_75 rfl (Or.inl rfl) (hR _ (Option.some.inj hf).symm)
      · replace hf := if_f hc7 hf
        refine ex_aload_n 1 (pc' := 60) dX11_mayStand_59 rfl rfl rfl ?_
        refine ex_getI (pc' := 63) dX11_mayStand_60 fl_X11_244 rfl (sh11_k hO) rfl ?_
        refine ex_iload_n 4 (pc' := 64) dX11_mayStand_63 rfl rfl rfl ?_
        refine ex_ishr (pc' := 65) dX11_mayStand_64 rfl ?_
        refine ex_iconst (v := 1) (pc' := 66) dX11_mayStand_65 ic_1 rfl ?_
        refine ex_iand (pc' := 67) dX11_mayStand_66 rfl ?_
        refine ex_ifne (tgt := 74) (pc' := 70) dX11_mayStand_67 (by decide) rfl (fun hc8 => ?_) (fun hc8 => ?_)
        · replace hf := if_t hc8 hf
          refine ex_iconst (v := 1) (pc' := 71) dX11_mayStand_70 ic_1 rfl ?_
          refine ex_goto (tgt := 75) dX11_mayStand_71 (by decide) ?_
          exact ex_zret dX11_mayStand_75 rfl (Or.inr rfl) (hR _ (Option.some.inj hf).symm)
        · replace hf := if_f hc8 hf
          refine ex_iconst (v := 0) (pc' := 75) dX11_mayStand_74 ic_0 rfl ?_
          exact ex_zret dX11_mayStand_75 rfl (Or.inl rfl) (hR _ (Option.some.inj hf).symm)
    · replace hf := if_f hc4 hf
      refine ex_iconst (v := 0) (pc' := 75) dX11_mayStand_74 ic_0 rfl ?_
      exact ex_zret dX11_mayStand_75 rfl (Or.inl rfl) (hR _ (Option.some.inj hf).symm)
set_option maxRecDepth 100000 in
set_option maxHeartbeats 4000000 in
theorem k_X11_mayStand (G : GX) {X : MX} (hO : shX11 X) {v1 : Int32} {v2 : Int32} {v3 : Int32}  {I : MI} {L : ML} {z : Int32} (hf : f_X11_mayStand v1 v2 v3 I = some z) : Con G mX11_mayStand yX11_mayStand rmX11_mayStand (fun B => [.ref (B + 99), .int v1, .int v2, .int v3]) X I L (some (.int z)) X I L :=
  Con.of (by decide) rfl (fun h => by cases h) (fun B => Nat.le_of_ble_eq_true rfl) (fun G => kb_X11_mayStand hO  hf (fun _ he => by cases he; rfl))
theorem cl_X11_253 : CLV RX11 253 yX11_lift mX11_lift none 1 := ⟨⟨lwg_at 1322 (by decide +kernel) rfl, lwg_at 1324 (by decide +kernel) rfl, lwg_at 40 (by decide +kernel) rfl, lwg_at 61 (by decide +kernel) rfl⟩, lwg_at 1325 (by decide +kernel) rfl, ⟨by decide +kernel, by decide +kernel, by decide +kernel⟩⟩
theorem cl_X11_256 : CLV RX11 256 yX11_mayStand mX11_mayStand (some FieldType.boolean) 3 := ⟨⟨lwg_at 1326 (by decide +kernel) rfl, lwg_at 1328 (by decide +kernel) rfl, lwg_at 41 (by decide +kernel) rfl, lwg_at 61 (by decide +kernel) rfl⟩, lwg_at 1329 (by decide +kernel) rfl, ⟨by decide +kernel, by decide +kernel, by decide +kernel⟩⟩
-- X11_goesOn ('RookWordsModel', 'goesOn', '(II)Z')
def rmX11_goesOn : RM := ((2, 47, 0, 0), false, (some FieldType.boolean))
def f_X11_goesOn_b32 (N : Nat) (v1 : Int32) (v2 : Int32) (v3 : Int32) (v4 : Int32) (I : MI) : Option ((Int32) ⊕ (Int32)) := (if v3 < v4 then some (.inr v4) else bnd1 (f_X11_mayStand v1 v2 v4 I) fun r8 => (if r8 = 0 then some (.inl (v4 + 1)) else some (.inr v4)))
set_option maxRecDepth 100000 in
set_option maxHeartbeats 4000000 in
theorem k_X11_goesOn_b32 {G : GX} {Q : State → Prop} {X : MX} (hO : shX11 X) {v1 : Int32} {v2 : Int32} {v3 : Int32}  {v4 : Int32} {N : Nat} {I : MI} {L : ML} {out : (Int32) ⊕ (Int32)} (hf : f_X11_goesOn_b32 N v1 v2 v3 v4 I = some out) (hC : ∀ (v4' : Int32), out = .inl v4' → Ex G mX11_goesOn rmX11_goesOn Q (0, 0) X I L 32 [(0, .ref (gB G + 99)), (1, .int v1), (2, .int v2), (3, .int v3), (4, .int v4')] []) (hX : ∀ (w4 : Int32), out = .inr w4 → Ex G mX11_goesOn rmX11_goesOn Q (0, 0) X I L 55 [(0, .ref (gB G + 99)), (1, .int v1), (2, .int v2), (3, .int v3), (4, .int w4)] []) : Ex G mX11_goesOn rmX11_goesOn Q (0, 0) X I L 32 [(0, .ref (gB G + 99)), (1, .int v1), (2, .int v2), (3, .int v3), (4, .int v4)] [] := by
  unfold f_X11_goesOn_b32 at hf
  refine ex_iload 4 (pc' := 34) dX11_goesOn_32 rfl rfl ?_
  refine ex_iload_n 3 (pc' := 35) dX11_goesOn_34 rfl rfl rfl ?_
  refine ex_icmpgt (tgt := 55) (pc' := 38) dX11_goesOn_35 (by decide) rfl (fun hc7 => ?_) (fun hc7 => ?_)
  · replace hf := if_t hc7 hf
    exact ex_sub [0, 1, 2, 3, 4] rfl (hX _ (Option.some.inj hf).symm)
  · replace hf := if_f hc7 hf
    refine ex_aload_n 0 (pc' := 39) dX11_goesOn_38 rfl rfl rfl ?_
    refine ex_iload_n 1 (pc' := 40) dX11_goesOn_39 rfl rfl rfl ?_
    refine ex_iload_n 2 (pc' := 41) dX11_goesOn_40 rfl rfl rfl ?_
    refine ex_iload 4 (pc' := 43) dX11_goesOn_41 rfl rfl ?_
    obtain ⟨r8, hq9, hf⟩ := of_bnd1 hf
    refine ex_callV_i (rm' := rmX11_mayStand) (st := []) (pc' := 46) [.int v1, .int v2, .int v4] dX11_goesOn_43 cl_X11_256 (k_X11_mayStand G hO hq9) rfl (sh11_k hO) ⟨_, _, rfl⟩ rfl rfl (ROOM_of rfl) (Nat.le_of_ble_eq_true rfl) rfl rfl ?_
    refine ex_ifne (tgt := 55) (pc' := 49) dX11_goesOn_46 (by decide) rfl (fun hc10 => ?_) (fun hc10 => ?_)
    · replace hf := if_t hc10 hf
      refine ex_iincc (lv' := [(4, .int (v4 + 1)), (0, .ref (gB G + 99)), (1, .int v1), (2, .int v2), (3, .int v3)]) 4 (pc' := 52) dX11_goesOn_49 rfl ic_1 (Nat.le_of_ble_eq_true rfl) rfl rfl ?_
      refine ex_goto (tgt := 32) dX11_goesOn_52 (by decide) ?_
      exact ex_sub [1, 2, 3, 4, 0] rfl (hC _ (Option.some.inj hf).symm)
    · replace hf := if_f hc10 hf
      exact ex_sub [0, 1, 2, 3, 4] rfl (hX _ (Option.some.inj hf).symm)
def f_X11_goesOn_l32 (N : Nat) (v1 : Int32) (v2 : Int32) (v3 : Int32) (v4 : Int32) (I : MI) : Option (Int32) := loopN (fun s => f_X11_goesOn_b32 N v1 v2 v3 s I) N v4
set_option maxRecDepth 100000 in
set_option maxHeartbeats 4000000 in
theorem k_X11_goesOn_l32 {G : GX} {Q : State → Prop} {X : MX} (hO : shX11 X) {v1 : Int32} {v2 : Int32} {v3 : Int32}  {N0 : Nat} {I : MI} {L : ML} {out : (Int32)} (hX : ∀ (w4 : Int32), out = w4 → Ex G mX11_goesOn rmX11_goesOn Q (0, 0) X I L 55 [(0, .ref (gB G + 99)), (1, .int v1), (2, .int v2), (3, .int v3), (4, .int w4)] []) : ∀ (N : Nat) (v4 : Int32), loopN (fun s => f_X11_goesOn_b32 N0 v1 v2 v3 s I) N v4 = some out → Ex G mX11_goesOn rmX11_goesOn Q (0, 0) X I L 32 [(0, .ref (gB G + 99)), (1, .int v1), (2, .int v2), (3, .int v3), (4, .int v4)] [] := by
  intro N
  induction N with
  | zero => intro v4 hf; exact absurd (loopN_zero hf) id
  | succ n ih =>
    intro v4 hf
    rcases loopN_succ hf with ⟨s, hb, hl⟩ | hb
    · skip
      refine k_X11_goesOn_b32 hO  hb (fun _ he => ?_) (fun _ he => by cases he)
      cases he
      exact ih s hl
    · exact k_X11_goesOn_b32 hO  hb (fun _ he => by cases he) (fun x0 he => hX x0 (Sum.inr.inj he))
def f_X11_goesOn_b7_j138 (N : Nat) (v1 : Int32) (v2 : Int32) (v3 : Int32) (I : MI) : Option ((MI) ⊕ ((MI) ⊕ (Int32 × MI))) := (if (I 99 46) = (v3 - 1) then (if (I 99 43) = v2 then some (.inr (.inr (1, I))) else some (.inl I)) else letv (upI I 99 46 ((I 99 46) + 1)) fun I24 => if inb (I24 99 46) 6 then letv (upI I24 134 (Int32.toNatClampNeg (I24 99 46)) (-1)) fun I26 => some (.inl I26) else none)
set_option maxRecDepth 100000 in
set_option maxHeartbeats 4000000 in
theorem k_X11_goesOn_b7_j138 {G : GX} {Q : State → Prop} {X : MX} (hO : shX11 X) {v1 : Int32} {v2 : Int32} {v3 : Int32}   {N : Nat} {I : MI} {L : ML} {out : (MI) ⊕ ((MI) ⊕ (Int32 × MI))} (hf : f_X11_goesOn_b7_j138 N v1 v2 v3 I = some out) (hC : ∀ (I' : MI), out = .inl I' → Ex G mX11_goesOn rmX11_goesOn Q (0, 0) X I' L 7 [(0, .ref (gB G + 99)), (1, .int v1), (2, .int v2), (3, .int v3)] []) (hX : ∀ (I' : MI), out = .inr (.inl I') → Ex G mX11_goesOn rmX11_goesOn Q (0, 0) X I' L 181 [] []) (hR : ∀ (z : Int32) (I' : MI), out = .inr (.inr (z, I')) → Q = RetQ G (some (.int z)) X I' L (0, 0)) : Ex G mX11_goesOn rmX11_goesOn Q (0, 0) X I L 138 [(0, .ref (gB G + 99)), (1, .int v1), (2, .int v2), (3, .int v3)] [] := by
  unfold f_X11_goesOn_b7_j138 at hf
  refine ex_aload_n 0 (pc' := 139) dX11_goesOn_138 rfl rfl rfl ?_
  refine ex_getI (pc' := 142) dX11_goesOn_139 fl_X11_250 rfl (sh11_k hO) rfl ?_
  refine ex_iload_n 3 (pc' := 143) dX11_goesOn_142 rfl rfl rfl ?_
  refine ex_iconst (v := 1) (pc' := 144) dX11_goesOn_143 ic_1 rfl ?_
  refine ex_isub (pc' := 145) dX11_goesOn_144 rfl ?_
  refine ex_icmpne (tgt := 158) (pc' := 148) dX11_goesOn_145 (by decide) rfl (fun hc22 => ?_) (fun hc22 => ?_)
  · replace hf := if_t hc22 hf
    refine ex_aload_n 0 (pc' := 149) dX11_goesOn_148 rfl rfl rfl ?_
    refine ex_getI (pc' := 152) dX11_goesOn_149 fl_X11_241 rfl (sh11_k hO) rfl ?_
    refine ex_iload_n 2 (pc' := 153) dX11_goesOn_152 rfl rfl rfl ?_
    refine ex_icmpne (tgt := 178) (pc' := 156) dX11_goesOn_153 (by decide) rfl (fun hc23 => ?_) (fun hc23 => ?_)
    · replace hf := if_t hc23 hf
      refine ex_iconst (v := 1) (pc' := 157) dX11_goesOn_156 ic_1 rfl ?_
      exact ex_zret dX11_goesOn_157 rfl (Or.inr rfl) (hR _ _ (Option.some.inj hf).symm)
    · replace hf := if_f hc23 hf
      refine ex_goto (tgt := 7) dX11_goesOn_178 (by decide) ?_
      exact ex_sub [0, 1, 2, 3] rfl (hC _ (Option.some.inj hf).symm)
  · replace hf := if_f hc22 hf
    refine ex_aload_n 0 (pc' := 159) dX11_goesOn_158 rfl rfl rfl ?_
    refine ex_dup (pc' := 160) dX11_goesOn_159 rfl rfl ?_
    refine ex_getI (pc' := 163) dX11_goesOn_160 fl_X11_250 rfl (sh11_k hO) rfl ?_
    refine ex_iconst (v := 1) (pc' := 164) dX11_goesOn_163 ic_1 rfl ?_
    refine ex_iadd (pc' := 165) dX11_goesOn_164 rfl ?_
    refine ex_putI (pc' := 168) dX11_goesOn_165 fl_X11_250 rfl (sh11_k hO) rfl ?_
    obtain ⟨I24, hI24, hf⟩ := of_let hf
    rw [← hI24]
    refine ex_aload_n 0 (pc' := 169) dX11_goesOn_168 rfl rfl rfl ?_
    refine ex_getR (pc' := 172) dX11_goesOn_169 fl_X11_115 rfl (sh11_k hO) (sh11_F42 hO) rfl ?_
    refine ex_aload_n 0 (pc' := 173) dX11_goesOn_172 rfl rfl rfl ?_
    refine ex_getI (pc' := 176) dX11_goesOn_173 fl_X11_250 rfl (sh11_k hO) rfl ?_
    refine ex_iconst (v := (-1)) (pc' := 177) dX11_goesOn_176 ic_m1 rfl ?_
    obtain ⟨hg25, hf⟩ := of_guard hf
    refine ex_iast (pc' := 178) dX11_goesOn_177 (sh11_T42 hO) (inb_in hg25) rfl ?_
    obtain ⟨I26, hI26, hf⟩ := of_let hf
    rw [← hI26]
    refine ex_goto (tgt := 7) dX11_goesOn_178 (by decide) ?_
    exact ex_sub [0, 1, 2, 3] rfl (hC _ (Option.some.inj hf).symm)
def f_X11_goesOn_b7_j55 (N : Nat) (v1 : Int32) (v2 : Int32) (v3 : Int32) (v4 : Int32) (I : MI) : Option ((MI) ⊕ ((MI) ⊕ (Int32 × MI))) := (if v3 < v4 then letv (upI I 99 46 ((I 99 46) - 1)) fun I14 => some (.inl I14) else if inb (I 99 46) 6 then letv (upI I 134 (Int32.toNatClampNeg (I 99 46)) v4) fun I16 => (if v4 < v3 then letv (upI I16 99 43 ((I16 99 43) + 1)) fun I18 => letv (upI I18 99 44 ((I18 99 44) ||| (jshl 1 v4))) fun I19 => if inb ((6 * (I19 99 46)) + v4) 36 then letv (upI I19 99 45 ((I19 99 45) + (I19 105 (Int32.toNatClampNeg ((6 * (I19 99 46)) + v4))))) fun I21 => f_X11_goesOn_b7_j138 N v1 v2 v3 I21 else none else f_X11_goesOn_b7_j138 N v1 v2 v3 I16) else none)
set_option maxRecDepth 100000 in
set_option maxHeartbeats 4000000 in
theorem k_X11_goesOn_b7_j55 {G : GX} {Q : State → Prop} {X : MX} (hO : shX11 X) {v1 : Int32} {v2 : Int32} {v3 : Int32} {v4 : Int32}   {N : Nat} {I : MI} {L : ML} {out : (MI) ⊕ ((MI) ⊕ (Int32 × MI))} (hf : f_X11_goesOn_b7_j55 N v1 v2 v3 v4 I = some out) (hC : ∀ (I' : MI), out = .inl I' → Ex G mX11_goesOn rmX11_goesOn Q (0, 0) X I' L 7 [(0, .ref (gB G + 99)), (1, .int v1), (2, .int v2), (3, .int v3)] []) (hX : ∀ (I' : MI), out = .inr (.inl I') → Ex G mX11_goesOn rmX11_goesOn Q (0, 0) X I' L 181 [] []) (hR : ∀ (z : Int32) (I' : MI), out = .inr (.inr (z, I')) → Q = RetQ G (some (.int z)) X I' L (0, 0)) : Ex G mX11_goesOn rmX11_goesOn Q (0, 0) X I L 55 [(0, .ref (gB G + 99)), (1, .int v1), (2, .int v2), (3, .int v3), (4, .int v4)] [] := by
  unfold f_X11_goesOn_b7_j55 at hf
  refine ex_iload 4 (pc' := 57) dX11_goesOn_55 rfl rfl ?_
  refine ex_iload_n 3 (pc' := 58) dX11_goesOn_57 rfl rfl rfl ?_
  refine ex_icmple (tgt := 74) (pc' := 61) dX11_goesOn_58 (by decide) rfl (fun hc13 => ?_) (fun hc13 => ?_)
  · replace hf := if_t hc13 hf
    refine ex_aload_n 0 (pc' := 62) dX11_goesOn_61 rfl rfl rfl ?_
    refine ex_dup (pc' := 63) dX11_goesOn_62 rfl rfl ?_
    refine ex_getI (pc' := 66) dX11_goesOn_63 fl_X11_250 rfl (sh11_k hO) rfl ?_
    refine ex_iconst (v := 1) (pc' := 67) dX11_goesOn_66 ic_1 rfl ?_
    refine ex_isub (pc' := 68) dX11_goesOn_67 rfl ?_
    refine ex_putI (pc' := 71) dX11_goesOn_68 fl_X11_250 rfl (sh11_k hO) rfl ?_
    obtain ⟨I14, hI14, hf⟩ := of_let hf
    rw [← hI14]
    refine ex_goto (tgt := 178) dX11_goesOn_71 (by decide) ?_
    refine ex_goto (tgt := 7) dX11_goesOn_178 (by decide) ?_
    exact ex_sub [0, 1, 2, 3] rfl (hC _ (Option.some.inj hf).symm)
  · replace hf := if_f hc13 hf
    refine ex_aload_n 0 (pc' := 75) dX11_goesOn_74 rfl rfl rfl ?_
    refine ex_getR (pc' := 78) dX11_goesOn_75 fl_X11_115 rfl (sh11_k hO) (sh11_F42 hO) rfl ?_
    refine ex_aload_n 0 (pc' := 79) dX11_goesOn_78 rfl rfl rfl ?_
    refine ex_getI (pc' := 82) dX11_goesOn_79 fl_X11_250 rfl (sh11_k hO) rfl ?_
    refine ex_iload 4 (pc' := 84) dX11_goesOn_82 rfl rfl ?_
    obtain ⟨hg15, hf⟩ := of_guard hf
    refine ex_iast (pc' := 85) dX11_goesOn_84 (sh11_T42 hO) (inb_in hg15) rfl ?_
    obtain ⟨I16, hI16, hf⟩ := of_let hf
    rw [← hI16]
    refine ex_iload 4 (pc' := 87) dX11_goesOn_85 rfl rfl ?_
    refine ex_iload_n 3 (pc' := 88) dX11_goesOn_87 rfl rfl rfl ?_
    refine ex_icmpge (tgt := 138) (pc' := 91) dX11_goesOn_88 (by decide) rfl (fun hc17 => ?_) (fun hc17 => ?_)
    · replace hf := if_t hc17 hf
      refine ex_aload_n 0 (pc' := 92) dX11_goesOn_91 rfl rfl rfl ?_
      refine ex_dup (pc' := 93) dX11_goesOn_92 rfl rfl ?_
      refine ex_getI (pc' := 96) dX11_goesOn_93 fl_X11_241 rfl (sh11_k hO) rfl ?_
      refine ex_iconst (v := 1) (pc' := 97) dX11_goesOn_96 ic_1 rfl ?_
      refine ex_iadd (pc' := 98) dX11_goesOn_97 rfl ?_
      refine ex_putI (pc' := 101) dX11_goesOn_98 fl_X11_241 rfl (sh11_k hO) rfl ?_
      obtain ⟨I18, hI18, hf⟩ := of_let hf
      rw [← hI18]
      refine ex_aload_n 0 (pc' := 102) dX11_goesOn_101 rfl rfl rfl ?_
      refine ex_dup (pc' := 103) dX11_goesOn_102 rfl rfl ?_
      refine ex_getI (pc' := 106) dX11_goesOn_103 fl_X11_244 rfl (sh11_k hO) rfl ?_
      refine ex_iconst (v := 1) (pc' := 107) dX11_goesOn_106 ic_1 rfl ?_
      refine ex_iload 4 (pc' := 109) dX11_goesOn_107 rfl rfl ?_
      refine ex_ishl (pc' := 110) dX11_goesOn_109 rfl ?_
      refine ex_ior (pc' := 111) dX11_goesOn_110 rfl ?_
      refine ex_putI (pc' := 114) dX11_goesOn_111 fl_X11_244 rfl (sh11_k hO) rfl ?_
      obtain ⟨I19, hI19, hf⟩ := of_let hf
      rw [← hI19]
      refine ex_aload_n 0 (pc' := 115) dX11_goesOn_114 rfl rfl rfl ?_
      refine ex_dup (pc' := 116) dX11_goesOn_115 rfl rfl ?_
      refine ex_getI (pc' := 119) dX11_goesOn_116 fl_X11_247 rfl (sh11_k hO) rfl ?_
      refine ex_aload_n 0 (pc' := 120) dX11_goesOn_119 rfl rfl rfl ?_
      refine ex_getR (pc' := 123) dX11_goesOn_120 fl_X11_28 rfl (sh11_k hO) (sh11_F5 hO) rfl ?_
      refine ex_bipush (v := 6) (pc' := 125) dX11_goesOn_123 bp_6 rfl ?_
      refine ex_aload_n 0 (pc' := 126) dX11_goesOn_125 rfl rfl rfl ?_
      refine ex_getI (pc' := 129) dX11_goesOn_126 fl_X11_250 rfl (sh11_k hO) rfl ?_
      refine ex_imul (pc' := 130) dX11_goesOn_129 rfl ?_
      refine ex_iload 4 (pc' := 132) dX11_goesOn_130 rfl rfl ?_
      refine ex_iadd (pc' := 133) dX11_goesOn_132 rfl ?_
      obtain ⟨hg20, hf⟩ := of_guard hf
      refine ex_iald (pc' := 134) dX11_goesOn_133 (sh11_T5 hO) (inb_in hg20) rfl ?_
      refine ex_iadd (pc' := 135) dX11_goesOn_134 rfl ?_
      refine ex_putI (pc' := 138) dX11_goesOn_135 fl_X11_247 rfl (sh11_k hO) rfl ?_
      obtain ⟨I21, hI21, hf⟩ := of_let hf
      rw [← hI21]
      refine ex_sub [0, 1, 2, 3] rfl (k_X11_goesOn_b7_j138 hO  hf hC hX hR)
    · replace hf := if_f hc17 hf
      refine ex_sub [0, 1, 2, 3] rfl (k_X11_goesOn_b7_j138 hO  hf hC hX hR)
def f_X11_goesOn_b7 (N : Nat) (v1 : Int32) (v2 : Int32) (v3 : Int32)  (I : MI) : Option ((MI) ⊕ ((MI) ⊕ (Int32 × MI))) := (if (I 99 46) < 0 then some (.inr (.inl I)) else bnd1 (f_X11_lift v3 I) fun I3 => if inb (I3 99 46) 6 then letv ((I3 134 (Int32.toNatClampNeg (I3 99 46))) + 1) fun x6 => bnd1 (f_X11_goesOn_l32 N v1 v2 v3 x6 I3) fun x11 => f_X11_goesOn_b7_j55 N v1 v2 v3 x11 I3 else none)
set_option maxRecDepth 100000 in
set_option maxHeartbeats 4000000 in
theorem k_X11_goesOn_b7 {G : GX} {Q : State → Prop} {X : MX} (hO : shX11 X) {v1 : Int32} {v2 : Int32} {v3 : Int32}  {N : Nat} {I : MI} {L : ML} {out : (MI) ⊕ ((MI) ⊕ (Int32 × MI))} (hf : f_X11_goesOn_b7 N v1 v2 v3 I = some out) (hC : ∀ (I' : MI), out = .inl I' → Ex G mX11_goesOn rmX11_goesOn Q (0, 0) X I' L 7 [(0, .ref (gB G + 99)), (1, .int v1), (2, .int v2), (3, .int v3)] []) (hX : ∀ (I' : MI), out = .inr (.inl I') → Ex G mX11_goesOn rmX11_goesOn Q (0, 0) X I' L 181 [] []) (hR : ∀ (z : Int32) (I' : MI), out = .inr (.inr (z, I')) → Q = RetQ G (some (.int z)) X I' L (0, 0)) : Ex G mX11_goesOn rmX11_goesOn Q (0, 0) X I L 7 [(0, .ref (gB G + 99)), (1, .int v1), (2, .int v2), (3, .int v3)] [] := by
  unfold f_X11_goesOn_b7 at hf
  refine ex_aload_n 0 (pc' := 8) dX11_goesOn_7 rfl rfl rfl ?_
  refine ex_getI (pc' := 11) dX11_goesOn_8 fl_X11_250 rfl (sh11_k hO) rfl ?_
  refine ex_iflt (tgt := 181) (pc' := 14) dX11_goesOn_11 (by decide) rfl (fun hc2 => ?_) (fun hc2 => ?_)
  · replace hf := if_t hc2 hf
    exact ex_sub [] rfl (hX _ (Option.some.inj hf).symm)
  · replace hf := if_f hc2 hf
    refine ex_aload_n 0 (pc' := 15) dX11_goesOn_14 rfl rfl rfl ?_
    refine ex_iload_n 3 (pc' := 16) dX11_goesOn_15 rfl rfl rfl ?_
    obtain ⟨I3, hq4, hf⟩ := of_bnd1 hf
    refine ex_callV_v (rm' := rmX11_lift) (st := []) (pc' := 19) [.int v3] dX11_goesOn_16 cl_X11_253 (k_X11_lift G hO hq4) rfl (sh11_k hO) ⟨_, _, rfl⟩ rfl rfl (ROOM_of rfl) (Nat.le_of_ble_eq_true rfl) rfl rfl ?_
    refine ex_aload_n 0 (pc' := 20) dX11_goesOn_19 rfl rfl rfl ?_
    refine ex_getR (pc' := 23) dX11_goesOn_20 fl_X11_115 rfl (sh11_k hO) (sh11_F42 hO) rfl ?_
    refine ex_aload_n 0 (pc' := 24) dX11_goesOn_23 rfl rfl rfl ?_
    refine ex_getI (pc' := 27) dX11_goesOn_24 fl_X11_250 rfl (sh11_k hO) rfl ?_
    obtain ⟨hg5, hf⟩ := of_guard hf
    refine ex_iald (pc' := 28) dX11_goesOn_27 (sh11_T42 hO) (inb_in hg5) rfl ?_
    refine ex_iconst (v := 1) (pc' := 29) dX11_goesOn_28 ic_1 rfl ?_
    refine ex_iadd (pc' := 30) dX11_goesOn_29 rfl ?_
    obtain ⟨x6, hx6, hf⟩ := of_let hf
    rw [← hx6]
    refine ex_istore (lv' := [(4, .int x6), (0, .ref (gB G + 99)), (1, .int v1), (2, .int v2), (3, .int v3)]) (pc' := 32) dX11_goesOn_30 (Nat.le_of_ble_eq_true rfl) rfl rfl ?_
    refine ex_sub (lv' := [(0, .ref (gB G + 99)), (1, .int v1), (2, .int v2), (3, .int v3), (4, .int x6)]) [1, 2, 3, 4, 0] rfl ?_
    obtain ⟨x11, hq12, hf⟩ := of_bnd1 hf
    refine k_X11_goesOn_l32 hO (fun x11' he => ?_) _ _ hq12
    cases he
    refine ex_sub [0, 1, 2, 3, 4] rfl (k_X11_goesOn_b7_j55 hO  hf hC hX hR)
def f_X11_goesOn_l7 (N : Nat) (v1 : Int32) (v2 : Int32) (v3 : Int32)  (I : MI) : Option ((MI) ⊕ (Int32 × MI)) := loopN (fun s => f_X11_goesOn_b7 N v1 v2 v3 s) N I
set_option maxRecDepth 100000 in
set_option maxHeartbeats 4000000 in
theorem k_X11_goesOn_l7 {G : GX} {Q : State → Prop} {X : MX} (hO : shX11 X) {v1 : Int32} {v2 : Int32} {v3 : Int32}  {N0 : Nat} {L : ML} {out : ((MI) ⊕ (Int32 × MI))} (hX : ∀ (I' : MI), out = .inl I' → Ex G mX11_goesOn rmX11_goesOn Q (0, 0) X I' L 181 [] []) (hR : ∀ (z : Int32) (I' : MI), out = .inr (z, I') → Q = RetQ G (some (.int z)) X I' L (0, 0)) : ∀ (N : Nat)  (I : MI), loopN (fun s => f_X11_goesOn_b7 N0 v1 v2 v3 s) N I = some out → Ex G mX11_goesOn rmX11_goesOn Q (0, 0) X I L 7 [(0, .ref (gB G + 99)), (1, .int v1), (2, .int v2), (3, .int v3)] [] := by
  intro N
  induction N with
  | zero => intro I hf; exact absurd (loopN_zero hf) id
  | succ n ih =>
    intro I hf
    rcases loopN_succ hf with ⟨s, hb, hl⟩ | hb
    · skip
      refine k_X11_goesOn_b7 hO  hb (fun _ he => ?_) (fun _ he => by cases he) (fun _ _ he => by cases he)
      cases he
      exact ih s hl
    · exact k_X11_goesOn_b7 hO  hb (fun _ he => by cases he) (fun x0 he => hX x0 (Sum.inr.inj he)) (fun z0 z1 he => hR z0 z1 (Sum.inr.inj he))
def f_X11_goesOn (N : Nat) (v1 : Int32) (v2 : Int32) (I : MI) : Option (Int32 × MI) := if inb v1 6 then bns1 (f_X11_goesOn_l7 N v1 v2 (I 103 (Int32.toNatClampNeg v1)) I) (fun I27 => some (0, I27)) (fun q29 => some q29) else none
set_option maxRecDepth 100000 in
set_option maxHeartbeats 4000000 in
theorem kb_X11_goesOn {G : GX} {Q : State → Prop} {X : MX} (hO : shX11 X) {v1 : Int32} {v2 : Int32}  {N : Nat} {I : MI} {L : ML} {out : Int32 × MI} (hf : f_X11_goesOn N v1 v2 I = some out) (hR : ∀ (z : Int32) (I' : MI), out = (z, I') → Q = RetQ G (some (.int z)) X I' L (0, 0)) : Ex G mX11_goesOn rmX11_goesOn Q (0, 0) X I L 0 [(0, .ref (gB G + 99)), (1, .int v1), (2, .int v2)] [] := by
  unfold f_X11_goesOn at hf
  refine ex_aload_n 0 (pc' := 1) dX11_goesOn_0 rfl rfl rfl ?_
  refine ex_getR (pc' := 4) dX11_goesOn_1 fl_X11_22 rfl (sh11_k hO) (sh11_F3 hO) rfl ?_
  refine ex_iload_n 1 (pc' := 5) dX11_goesOn_4 rfl rfl rfl ?_
  obtain ⟨hg1, hf⟩ := of_guard hf
  refine ex_iald (pc' := 6) dX11_goesOn_5 (sh11_T3 hO) (inb_in hg1) rfl ?_
  refine ex_istore_n (lv' := [(3, .int (I 103 (Int32.toNatClampNeg v1))), (0, .ref (gB G + 99)), (1, .int v1), (2, .int v2)]) (pc' := 7) dX11_goesOn_6 rfl (Nat.le_of_ble_eq_true rfl) rfl rfl ?_
  refine ex_sub (lv' := [(0, .ref (gB G + 99)), (1, .int v1), (2, .int v2), (3, .int (I 103 (Int32.toNatClampNeg v1)))]) [1, 2, 3, 0] rfl ?_
  rcases of_bns1 hf with ⟨I27, hq28, hf⟩ | ⟨q29, hq28, hf⟩
  · refine k_X11_goesOn_l7 hO (fun I27' he => ?_) (fun _ _ he => by cases he) _ _ hq28
    cases he
    refine ex_iconst (v := 0) (pc' := 182) dX11_goesOn_181 ic_0 rfl ?_
    exact ex_zret dX11_goesOn_182 rfl (Or.inl rfl) (hR _ _ (Option.some.inj hf).symm)
  · refine k_X11_goesOn_l7 hO (fun _ he => by cases he) (fun z0 z1 he => ?_) _ _ hq28
    refine hR _ _ ?_
    rw [← Option.some.inj hf]
    cases he
    rfl
set_option maxRecDepth 100000 in
set_option maxHeartbeats 4000000 in
theorem k_X11_goesOn (G : GX) {X : MX} (hO : shX11 X) {v1 : Int32} {v2 : Int32}  {N : Nat} {I : MI} {L : ML} {z : Int32} {I' : MI} (hf : f_X11_goesOn N v1 v2 I = some (z, I')) : Con G mX11_goesOn yX11_goesOn rmX11_goesOn (fun B => [.ref (B + 99), .int v1, .int v2]) X I L (some (.int z)) X I' L :=
  Con.of (by decide) rfl (fun h => by cases h) (fun B => Nat.le_of_ble_eq_true rfl) (fun G => kb_X11_goesOn hO  hf (fun _ _ he => by cases he; rfl))
theorem fl_X11_97 : FLD RX11 97 11 34 true := ⟨RX11, TX11, 51, rfl, inX11, by decide, lwg_at 968 (by decide +kernel) rfl, nmX11, tyX11_ok, rfl, rfl⟩
-- X11_layMade ('RookWordsModel', 'layMade', '(I)V')
def rmX11_layMade : RM := ((0, 0, 0, 0), false, none)
def f_X11_layMade_b2 (N : Nat) (v1 : Int32) (v2 : Int32) (I : MI) : Option ((Int32 × MI) ⊕ (MI)) := (if v2 < v1 then if inb v2 6 then if inb v2 12 then letv (upI I 128 (Int32.toNatClampNeg v2) (I 134 (Int32.toNatClampNeg v2))) fun I4 => some (.inl (v2 + 1, I4)) else none else none else some (.inr I))
set_option maxRecDepth 100000 in
set_option maxHeartbeats 4000000 in
theorem k_X11_layMade_b2 {G : GX} {Q : State → Prop} {X : MX} (hO : shX11 X) {v1 : Int32}  {v2 : Int32} {N : Nat} {I : MI} {L : ML} {out : (Int32 × MI) ⊕ (MI)} (hf : f_X11_layMade_b2 N v1 v2 I = some out) (hC : ∀ (v2' : Int32) (I' : MI), out = .inl (v2', I') → Ex G mX11_layMade rmX11_layMade Q (0, 0) X I' L 2 [(0, .ref (gB G + 99)), (1, .int v1), (2, .int v2')] []) (hX : ∀ (I' : MI), out = .inr I' → Ex G mX11_layMade rmX11_layMade Q (0, 0) X I' L 25 [] []) : Ex G mX11_layMade rmX11_layMade Q (0, 0) X I L 2 [(0, .ref (gB G + 99)), (1, .int v1), (2, .int v2)] [] := by
  unfold f_X11_layMade_b2 at hf
  refine ex_iload_n 2 (pc' := 3) dX11_layMade_2 rfl rfl rfl ?_
  refine ex_iload_n 1 (pc' := 4) dX11_layMade_3 rfl rfl rfl ?_
  refine ex_icmpge (tgt := 25) (pc' := 7) dX11_layMade_4 (by decide) rfl (fun hc1 => ?_) (fun hc1 => ?_)
  · replace hf := if_t hc1 hf
    refine ex_aload_n 0 (pc' := 8) dX11_layMade_7 rfl rfl rfl ?_
    refine ex_getR (pc' := 11) dX11_layMade_8 fl_X11_97 rfl (sh11_k hO) (sh11_F34 hO) rfl ?_
    refine ex_iload_n 2 (pc' := 12) dX11_layMade_11 rfl rfl rfl ?_
    refine ex_aload_n 0 (pc' := 13) dX11_layMade_12 rfl rfl rfl ?_
    refine ex_getR (pc' := 16) dX11_layMade_13 fl_X11_115 rfl (sh11_k hO) (sh11_F42 hO) rfl ?_
    refine ex_iload_n 2 (pc' := 17) dX11_layMade_16 rfl rfl rfl ?_
    obtain ⟨hg2, hf⟩ := of_guard hf
    refine ex_iald (pc' := 18) dX11_layMade_17 (sh11_T42 hO) (inb_in hg2) rfl ?_
    obtain ⟨hg3, hf⟩ := of_guard hf
    refine ex_iast (pc' := 19) dX11_layMade_18 (sh11_T34 hO) (inb_in hg3) rfl ?_
    obtain ⟨I4, hI4, hf⟩ := of_let hf
    rw [← hI4]
    refine ex_iincc (lv' := [(2, .int (v2 + 1)), (0, .ref (gB G + 99)), (1, .int v1)]) 2 (pc' := 22) dX11_layMade_19 rfl ic_1 (Nat.le_of_ble_eq_true rfl) rfl rfl ?_
    refine ex_goto (tgt := 2) dX11_layMade_22 (by decide) ?_
    exact ex_sub [1, 2, 0] rfl (hC _ _ (Option.some.inj hf).symm)
  · replace hf := if_f hc1 hf
    exact ex_sub [] rfl (hX _ (Option.some.inj hf).symm)
def f_X11_layMade_l2 (N : Nat) (v1 : Int32) (v2 : Int32) (I : MI) : Option (MI) := loopN (fun s => f_X11_layMade_b2 N v1 s.1 s.2) N (v2, I)
set_option maxRecDepth 100000 in
set_option maxHeartbeats 4000000 in
theorem k_X11_layMade_l2 {G : GX} {Q : State → Prop} {X : MX} (hO : shX11 X) {v1 : Int32}  {N0 : Nat} {L : ML} {out : (MI)} (hX : ∀ (I' : MI), out = I' → Ex G mX11_layMade rmX11_layMade Q (0, 0) X I' L 25 [] []) : ∀ (N : Nat) (v2 : Int32) (I : MI), loopN (fun s => f_X11_layMade_b2 N0 v1 s.1 s.2) N (v2, I) = some out → Ex G mX11_layMade rmX11_layMade Q (0, 0) X I L 2 [(0, .ref (gB G + 99)), (1, .int v1), (2, .int v2)] [] := by
  intro N
  induction N with
  | zero => intro v2 I hf; exact absurd (loopN_zero hf) id
  | succ n ih =>
    intro v2 I hf
    rcases loopN_succ hf with ⟨s, hb, hl⟩ | hb
    · obtain ⟨v2', I'⟩ := s
      refine k_X11_layMade_b2 hO  hb (fun _ _ he => ?_) (fun _ he => by cases he)
      cases he
      exact ih v2' I' hl
    · exact k_X11_layMade_b2 hO  hb (fun _ _ he => by cases he) (fun x0 he => hX x0 (Sum.inr.inj he))
def f_X11_layMade (N : Nat) (v1 : Int32) (I : MI) : Option (MI) := bnd1 (f_X11_layMade_l2 N v1 0 I) fun I5 => some I5
set_option maxRecDepth 100000 in
set_option maxHeartbeats 4000000 in
theorem kb_X11_layMade {G : GX} {Q : State → Prop} {X : MX} (hO : shX11 X) {v1 : Int32}  {N : Nat} {I : MI} {L : ML} {out : MI} (hf : f_X11_layMade N v1 I = some out) (hR : ∀ (I' : MI), out = I' → Q = RetQ G none X I' L (0, 0)) : Ex G mX11_layMade rmX11_layMade Q (0, 0) X I L 0 [(0, .ref (gB G + 99)), (1, .int v1)] [] := by
  unfold f_X11_layMade at hf
  refine ex_iconst (v := 0) (pc' := 1) dX11_layMade_0 ic_0 rfl ?_
  refine ex_istore_n (lv' := [(2, .int 0), (0, .ref (gB G + 99)), (1, .int v1)]) (pc' := 2) dX11_layMade_1 rfl (Nat.le_of_ble_eq_true rfl) rfl rfl ?_
  refine ex_sub (lv' := [(0, .ref (gB G + 99)), (1, .int v1), (2, .int 0)]) [1, 2, 0] rfl ?_
  obtain ⟨I5, hq6, hf⟩ := of_bnd1 hf
  refine k_X11_layMade_l2 hO (fun I5' he => ?_) _ _ _ hq6
  cases he
  exact ex_vret dX11_layMade_25 rfl (hR _ (Option.some.inj hf).symm)
set_option maxRecDepth 100000 in
set_option maxHeartbeats 4000000 in
theorem k_X11_layMade (G : GX) {X : MX} (hO : shX11 X) {v1 : Int32}  {N : Nat} {I : MI} {L : ML} {I' : MI} (hf : f_X11_layMade N v1 I = some I') : Con G mX11_layMade yX11_layMade rmX11_layMade (fun B => [.ref (B + 99), .int v1]) X I L none X I' L :=
  Con.of (by decide) rfl (fun h => by cases h) (fun B => Nat.le_of_ble_eq_true rfl) (fun G => kb_X11_layMade hO  hf (fun _ he => by cases he; rfl))
-- X11_columnAt ('RookWordsModel', 'columnAt', '(II)I')
def rmX11_columnAt : RM := ((0, 0, 0, 0), false, (some FieldType.int))
def f_X11_columnAt (v1 : Int32) (v2 : Int32) (I : MI) : Option (Int32) := if inb v2 12 then (if (I 128 (Int32.toNatClampNeg v2)) = v1 then some (-1) else if inb v2 12 then some (I 128 (Int32.toNatClampNeg v2)) else none) else none
set_option maxRecDepth 100000 in
set_option maxHeartbeats 4000000 in
theorem kb_X11_columnAt {G : GX} {Q : State → Prop} {X : MX} (hO : shX11 X) {v1 : Int32} {v2 : Int32}  {I : MI} {L : ML} {out : Int32} (hf : f_X11_columnAt v1 v2 I = some out) (hR : ∀ (z : Int32), out = z → Q = RetQ G (some (.int z)) X I L (0, 0)) : Ex G mX11_columnAt rmX11_columnAt Q (0, 0) X I L 0 [(0, .ref (gB G + 99)), (1, .int v1), (2, .int v2)] [] := by
  unfold f_X11_columnAt at hf
  refine ex_aload_n 0 (pc' := 1) dX11_columnAt_0 rfl rfl rfl ?_
  refine ex_getR (pc' := 4) dX11_columnAt_1 fl_X11_97 rfl (sh11_k hO) (sh11_F34 hO) rfl ?_
  refine ex_iload_n 2 (pc' := 5) dX11_columnAt_4 rfl rfl rfl ?_
  obtain ⟨hg1, hf⟩ := of_guard hf
  refine ex_iald (pc' := 6) dX11_columnAt_5 (sh11_T34 hO) (inb_in hg1) rfl ?_
  refine ex_iload_n 1 (pc' := 7) dX11_columnAt_6 rfl rfl rfl ?_
  refine ex_icmpne (tgt := 14) (pc' := 10) dX11_columnAt_7 (by decide) rfl (fun hc2 => ?_) (fun hc2 => ?_)
  · replace hf := if_t hc2 hf
    refine ex_iconst (v := (-1)) (pc' := 11) dX11_columnAt_10 ic_m1 rfl ?_
    refine ex_goto (tgt := 20) dX11_columnAt_11 (by decide) ?_
    exact ex_iret dX11_columnAt_20 rfl (hR _ (Option.some.inj hf).symm)
  · replace hf := if_f hc2 hf
    refine ex_aload_n 0 (pc' := 15) dX11_columnAt_14 rfl rfl rfl ?_
    refine ex_getR (pc' := 18) dX11_columnAt_15 fl_X11_97 rfl (sh11_k hO) (sh11_F34 hO) rfl ?_
    refine ex_iload_n 2 (pc' := 19) dX11_columnAt_18 rfl rfl rfl ?_
    obtain ⟨hg3, hf⟩ := of_guard hf
    refine ex_iald (pc' := 20) dX11_columnAt_19 (sh11_T34 hO) (inb_in hg3) rfl ?_
    exact ex_iret dX11_columnAt_20 rfl (hR _ (Option.some.inj hf).symm)
set_option maxRecDepth 100000 in
set_option maxHeartbeats 4000000 in
theorem k_X11_columnAt (G : GX) {X : MX} (hO : shX11 X) {v1 : Int32} {v2 : Int32}  {I : MI} {L : ML} {z : Int32} (hf : f_X11_columnAt v1 v2 I = some z) : Con G mX11_columnAt yX11_columnAt rmX11_columnAt (fun B => [.ref (B + 99), .int v1, .int v2]) X I L (some (.int z)) X I L :=
  Con.of (by decide) rfl (fun h => by cases h) (fun B => Nat.le_of_ble_eq_true rfl) (fun G => kb_X11_columnAt hO  hf (fun _ he => by cases he; rfl))
theorem cl_X11_259 : CLV RX11 259 yX11_begin mX11_begin none 0 := ⟨⟨lwg_at 1314 (by decide +kernel) rfl, lwg_at 1316 (by decide +kernel) rfl, lwg_at 38 (by decide +kernel) rfl, lwg_at 61 (by decide +kernel) rfl⟩, lwg_at 1317 (by decide +kernel) rfl, ⟨by decide +kernel, by decide +kernel, by decide +kernel⟩⟩
theorem cl_X11_262 : CLV RX11 262 yX11_goesOn mX11_goesOn (some FieldType.boolean) 2 := ⟨⟨lwg_at 1318 (by decide +kernel) rfl, lwg_at 1320 (by decide +kernel) rfl, lwg_at 39 (by decide +kernel) rfl, lwg_at 61 (by decide +kernel) rfl⟩, lwg_at 1321 (by decide +kernel) rfl, ⟨by decide +kernel, by decide +kernel, by decide +kernel⟩⟩
theorem cl_X11_266 : CLV RX11 266 yX11_layMade mX11_layMade none 1 := ⟨⟨lwg_at 1330 (by decide +kernel) rfl, lwg_at 1332 (by decide +kernel) rfl, lwg_at 42 (by decide +kernel) rfl, lwg_at 61 (by decide +kernel) rfl⟩, lwg_at 1333 (by decide +kernel) rfl, ⟨by decide +kernel, by decide +kernel, by decide +kernel⟩⟩
theorem cl_X11_269 : CLV RX11 269 yX11_columnAt mX11_columnAt (some FieldType.int) 2 := ⟨⟨lwg_at 1334 (by decide +kernel) rfl, lwg_at 1336 (by decide +kernel) rfl, lwg_at 43 (by decide +kernel) rfl, lwg_at 61 (by decide +kernel) rfl⟩, lwg_at 1337 (by decide +kernel) rfl, ⟨by decide +kernel, by decide +kernel, by decide +kernel⟩⟩
-- X11_cheapest ('RookWordsModel', 'cheapest', '(III)I')
def rmX11_cheapest : RM := ((3, 71, 0, 0), false, (some FieldType.int))
def f_X11_cheapest_b51 (N : Nat) (v1 : Int32) (v2 : Int32) (v3 : Int32) (v4 : Int32) (v5 : Int32) (I : MI) : Option ((Int32 × MI) ⊕ (Int32 × MI)) := (if v4 < v2 then some (.inr (v5, I)) else bnd2 (f_X11_goesOn N v1 v2 I) fun r13 I14 => (if r13 = 0 then some (.inr (v5, I14)) else (if v5 < 0 then bnd1 (f_X11_layMade N v4 I14) fun I18 => some (.inl (I14 99 45, I18)) else (if (I14 99 45) < v5 then bnd1 (f_X11_layMade N v4 I14) fun I21 => some (.inl (I14 99 45, I21)) else some (.inl (v5, I14))))))
set_option maxRecDepth 100000 in
set_option maxHeartbeats 4000000 in
theorem k_X11_cheapest_b51 {G : GX} {Q : State → Prop} {X : MX} (hO : shX11 X) {v1 : Int32} {v2 : Int32} {v3 : Int32} {v4 : Int32}  {v5 : Int32} {N : Nat} {I : MI} {L : ML} {out : (Int32 × MI) ⊕ (Int32 × MI)} (hf : f_X11_cheapest_b51 N v1 v2 v3 v4 v5 I = some out) (hC : ∀ (v5' : Int32) (I' : MI), out = .inl (v5', I') → Ex G mX11_cheapest rmX11_cheapest Q (0, 0) X I' L 51 [(0, .ref (gB G + 99)), (1, .int v1), (2, .int v2), (3, .int v3), (4, .int v4), (5, .int v5')] []) (hX : ∀ (w5 : Int32) (I' : MI), out = .inr (w5, I') → Ex G mX11_cheapest rmX11_cheapest Q (0, 0) X I' L 95 [(0, .ref (gB G + 99)), (3, .int v3), (4, .int v4), (5, .int w5)] []) : Ex G mX11_cheapest rmX11_cheapest Q (0, 0) X I L 51 [(0, .ref (gB G + 99)), (1, .int v1), (2, .int v2), (3, .int v3), (4, .int v4), (5, .int v5)] [] := by
  unfold f_X11_cheapest_b51 at hf
  refine ex_iload_n 2 (pc' := 52) dX11_cheapest_51 rfl rfl rfl ?_
  refine ex_iload 4 (pc' := 54) dX11_cheapest_52 rfl rfl ?_
  refine ex_icmpgt (tgt := 95) (pc' := 57) dX11_cheapest_54 (by decide) rfl (fun hc12 => ?_) (fun hc12 => ?_)
  · replace hf := if_t hc12 hf
    exact ex_sub [0, 3, 4, 5] rfl (hX _ _ (Option.some.inj hf).symm)
  · replace hf := if_f hc12 hf
    refine ex_aload_n 0 (pc' := 58) dX11_cheapest_57 rfl rfl rfl ?_
    refine ex_iload_n 1 (pc' := 59) dX11_cheapest_58 rfl rfl rfl ?_
    refine ex_iload_n 2 (pc' := 60) dX11_cheapest_59 rfl rfl rfl ?_
    obtain ⟨r13, I14, hq15, hf⟩ := of_bnd2 hf
    refine ex_callV_i (rm' := rmX11_goesOn) (st := []) (pc' := 63) [.int v1, .int v2] dX11_cheapest_60 cl_X11_262 (k_X11_goesOn G hO hq15) rfl (sh11_k hO) ⟨_, _, rfl⟩ rfl rfl (ROOM_of rfl) (Nat.le_of_ble_eq_true rfl) rfl rfl ?_
    refine ex_ifeq (tgt := 95) (pc' := 66) dX11_cheapest_63 (by decide) rfl (fun hc16 => ?_) (fun hc16 => ?_)
    · replace hf := if_t hc16 hf
      exact ex_sub [0, 3, 4, 5] rfl (hX _ _ (Option.some.inj hf).symm)
    · replace hf := if_f hc16 hf
      refine ex_iload 5 (pc' := 68) dX11_cheapest_66 rfl rfl ?_
      refine ex_iflt (tgt := 80) (pc' := 71) dX11_cheapest_68 (by decide) rfl (fun hc17 => ?_) (fun hc17 => ?_)
      · replace hf := if_t hc17 hf
        refine ex_aload_n 0 (pc' := 81) dX11_cheapest_80 rfl rfl rfl ?_
        refine ex_getI (pc' := 84) dX11_cheapest_81 fl_X11_247 rfl (sh11_k hO) rfl ?_
        refine ex_istore (lv' := [(5, .int (I14 99 45)), (0, .ref (gB G + 99)), (1, .int v1), (2, .int v2), (3, .int v3), (4, .int v4)]) (pc' := 86) dX11_cheapest_84 (Nat.le_of_ble_eq_true rfl) rfl rfl ?_
        refine ex_aload_n 1 (pc' := 87) dX11_cheapest_86 rfl rfl rfl ?_
        refine ex_iload 5 (pc' := 89) dX11_cheapest_87 rfl rfl ?_
        obtain ⟨I18, hq19, hf⟩ := of_bnd1 hf
        refine ex_callV_v (rm' := rmX11_layMade) (st := []) (pc' := 92) [.int v4] dX11_cheapest_89 cl_X11_266 (k_X11_layMade G hO hq19) rfl (sh11_k hO) ⟨_, _, rfl⟩ rfl rfl (ROOM_of rfl) (Nat.le_of_ble_eq_true rfl) rfl rfl ?_
        refine ex_goto (tgt := 51) dX11_cheapest_92 (by decide) ?_
        exact ex_sub [1, 2, 3, 4, 5, 0] rfl (hC _ _ (Option.some.inj hf).symm)
      · replace hf := if_f hc17 hf
        refine ex_aload_n 0 (pc' := 72) dX11_cheapest_71 rfl rfl rfl ?_
        refine ex_getI (pc' := 75) dX11_cheapest_72 fl_X11_247 rfl (sh11_k hO) rfl ?_
        refine ex_iload 5 (pc' := 77) dX11_cheapest_75 rfl rfl ?_
        refine ex_icmpge (tgt := 51) (pc' := 80) dX11_cheapest_77 (by decide) rfl (fun hc20 => ?_) (fun hc20 => ?_)
        · replace hf := if_t hc20 hf
          refine ex_aload_n 0 (pc' := 81) dX11_cheapest_80 rfl rfl rfl ?_
          refine ex_getI (pc' := 84) dX11_cheapest_81 fl_X11_247 rfl (sh11_k hO) rfl ?_
          refine ex_istore (lv' := [(5, .int (I14 99 45)), (0, .ref (gB G + 99)), (1, .int v1), (2, .int v2), (3, .int v3), (4, .int v4)]) (pc' := 86) dX11_cheapest_84 (Nat.le_of_ble_eq_true rfl) rfl rfl ?_
          refine ex_aload_n 1 (pc' := 87) dX11_cheapest_86 rfl rfl rfl ?_
          refine ex_iload 5 (pc' := 89) dX11_cheapest_87 rfl rfl ?_
          obtain ⟨I21, hq22, hf⟩ := of_bnd1 hf
          refine ex_callV_v (rm' := rmX11_layMade) (st := []) (pc' := 92) [.int v4] dX11_cheapest_89 cl_X11_266 (k_X11_layMade G hO hq22) rfl (sh11_k hO) ⟨_, _, rfl⟩ rfl rfl (ROOM_of rfl) (Nat.le_of_ble_eq_true rfl) rfl rfl ?_
          refine ex_goto (tgt := 51) dX11_cheapest_92 (by decide) ?_
          exact ex_sub [1, 2, 3, 4, 5, 0] rfl (hC _ _ (Option.some.inj hf).symm)
        · replace hf := if_f hc20 hf
          exact ex_sub [0, 1, 2, 3, 4, 5] rfl (hC _ _ (Option.some.inj hf).symm)
def f_X11_cheapest_l51 (N : Nat) (v1 : Int32) (v2 : Int32) (v3 : Int32) (v4 : Int32) (v5 : Int32) (I : MI) : Option (Int32 × MI) := loopN (fun s => f_X11_cheapest_b51 N v1 v2 v3 v4 s.1 s.2) N (v5, I)
set_option maxRecDepth 100000 in
set_option maxHeartbeats 4000000 in
theorem k_X11_cheapest_l51 {G : GX} {Q : State → Prop} {X : MX} (hO : shX11 X) {v1 : Int32} {v2 : Int32} {v3 : Int32} {v4 : Int32}  {N0 : Nat} {L : ML} {out : (Int32 × MI)} (hX : ∀ (w5 : Int32) (I' : MI), out = (w5, I') → Ex G mX11_cheapest rmX11_cheapest Q (0, 0) X I' L 95 [(0, .ref (gB G + 99)), (3, .int v3), (4, .int v4), (5, .int w5)] []) : ∀ (N : Nat) (v5 : Int32) (I : MI), loopN (fun s => f_X11_cheapest_b51 N0 v1 v2 v3 v4 s.1 s.2) N (v5, I) = some out → Ex G mX11_cheapest rmX11_cheapest Q (0, 0) X I L 51 [(0, .ref (gB G + 99)), (1, .int v1), (2, .int v2), (3, .int v3), (4, .int v4), (5, .int v5)] [] := by
  intro N
  induction N with
  | zero => intro v5 I hf; exact absurd (loopN_zero hf) id
  | succ n ih =>
    intro v5 I hf
    rcases loopN_succ hf with ⟨s, hb, hl⟩ | hb
    · obtain ⟨v5', I'⟩ := s
      refine k_X11_cheapest_b51 hO  hb (fun _ _ he => ?_) (fun _ _ he => by cases he)
      cases he
      exact ih v5' I' hl
    · exact k_X11_cheapest_b51 hO  hb (fun _ _ he => by cases he) (fun x0 x1 he => hX x0 x1 (Sum.inr.inj he))
def f_X11_cheapest_j95 (N : Nat) (v3 : Int32) (v4 : Int32) (v5 : Int32) (I : MI) : Option (Int32 × MI) := (if v5 < 0 then some ((-5), I) else (if v3 = (-1) then some (v5, I) else bnd1 (f_X11_columnAt v4 v3 I) fun r28 => some (r28, I)))
set_option maxRecDepth 100000 in
set_option maxHeartbeats 4000000 in
theorem k_X11_cheapest_j95 {G : GX} {Q : State → Prop} {X : MX} (hO : shX11 X) {v3 : Int32} {v4 : Int32} {v5 : Int32}  {N : Nat} {I : MI} {L : ML} {out : Int32 × MI} (hf : f_X11_cheapest_j95 N v3 v4 v5 I = some out) (hR : ∀ (z : Int32) (I' : MI), out = (z, I') → Q = RetQ G (some (.int z)) X I' L (0, 0)) : Ex G mX11_cheapest rmX11_cheapest Q (0, 0) X I L 95 [(0, .ref (gB G + 99)), (3, .int v3), (4, .int v4), (5, .int v5)] [] := by
  unfold f_X11_cheapest_j95 at hf
  refine ex_iload 3 (pc' := 97) dX11_cheapest_95 rfl rfl ?_
  refine ex_ifge (tgt := 105) (pc' := 100) dX11_cheapest_97 (by decide) rfl (fun hc26 => ?_) (fun hc26 => ?_)
  · replace hf := if_t hc26 hf
    refine ex_bipush (v := (-5)) (pc' := 102) dX11_cheapest_100 bp_m5 rfl ?_
    refine ex_goto (tgt := 122) dX11_cheapest_102 (by decide) ?_
    exact ex_iret dX11_cheapest_122 rfl (hR _ _ (Option.some.inj hf).symm)
  · replace hf := if_f hc26 hf
    refine ex_iload_n 1 (pc' := 106) dX11_cheapest_105 rfl rfl rfl ?_
    refine ex_iconst (v := (-1)) (pc' := 107) dX11_cheapest_106 ic_m1 rfl ?_
    refine ex_icmpne (tgt := 115) (pc' := 110) dX11_cheapest_107 (by decide) rfl (fun hc27 => ?_) (fun hc27 => ?_)
    · replace hf := if_t hc27 hf
      refine ex_iload 3 (pc' := 112) dX11_cheapest_110 rfl rfl ?_
      refine ex_goto (tgt := 122) dX11_cheapest_112 (by decide) ?_
      exact ex_iret dX11_cheapest_122 rfl (hR _ _ (Option.some.inj hf).symm)
    · replace hf := if_f hc27 hf
      refine ex_aload_n 0 (pc' := 116) dX11_cheapest_115 rfl rfl rfl ?_
      refine ex_iload 2 (pc' := 118) dX11_cheapest_116 rfl rfl ?_
      refine ex_iload_n 1 (pc' := 119) dX11_cheapest_118 rfl rfl rfl ?_
      obtain ⟨r28, hq29, hf⟩ := of_bnd1 hf
      refine ex_callV_i (rm' := rmX11_columnAt) (st := []) (pc' := 122) [.int v4, .int v3] dX11_cheapest_119 cl_X11_269 (k_X11_columnAt G hO hq29) rfl (sh11_k hO) ⟨_, _, rfl⟩ rfl rfl (ROOM_of rfl) (Nat.le_of_ble_eq_true rfl) rfl rfl ?_
      exact ex_iret dX11_cheapest_122 rfl (hR _ _ (Option.some.inj hf).symm)
def f_X11_cheapest (N : Nat) (v1 : Int32) (v2 : Int32) (v3 : Int32) (I : MI) : Option (Int32 × MI) := bnd1 (f_X11_isSix v1) fun r1 => (if r1 = 0 then some ((-1), I) else if inb v1 6 then bnd1 (f_X11_in (Int32.toInt64 v3) (-1) (Int32.toInt64 ((I 103 (Int32.toNatClampNeg v1)) - 1))) fun r5 => (if r5 = 0 then some ((-1), I) else (if v2 < 0 then some ((-2), I) else if inb v1 6 then bnd1 (f_X11_begin I) fun I10 => bnd2 (f_X11_cheapest_l51 N v1 v2 v3 (I 103 (Int32.toNatClampNeg v1)) (-1) I10) fun x23 I24 => f_X11_cheapest_j95 N v3 (I 103 (Int32.toNatClampNeg v1)) x23 I24 else none)) else none)
set_option maxRecDepth 100000 in
set_option maxHeartbeats 4000000 in
theorem kb_X11_cheapest {G : GX} {Q : State → Prop} {X : MX} (hO : shX11 X) {v1 : Int32} {v2 : Int32} {v3 : Int32}  {N : Nat} {I : MI} {L : ML} {out : Int32 × MI} (hf : f_X11_cheapest N v1 v2 v3 I = some out) (hR : ∀ (z : Int32) (I' : MI), out = (z, I') → Q = RetQ G (some (.int z)) X I' L (0, 0)) : Ex G mX11_cheapest rmX11_cheapest Q (0, 0) X I L 0 [(0, .ref (gB G + 99)), (1, .int v1), (2, .int v2), (3, .int v3)] [] := by
  unfold f_X11_cheapest at hf
  refine ex_iload_n 1 (pc' := 1) dX11_cheapest_0 rfl rfl rfl ?_
  obtain ⟨r1, hq2, hf⟩ := of_bnd1 hf
  refine ex_callS_i (rm' := rmX11_isSix) (st := []) (pc' := 4) [.int v1] dX11_cheapest_1 cl_X11_133 (k_X11_isSix G hq2) rfl rfl rfl (ROOM_of rfl) (Nat.le_of_ble_eq_true rfl) rfl rfl ?_
  refine ex_ifeq (tgt := 27) (pc' := 7) dX11_cheapest_4 (by decide) rfl (fun hc3 => ?_) (fun hc3 => ?_)
  · replace hf := if_t hc3 hf
    refine ex_iconst (v := (-1)) (pc' := 28) dX11_cheapest_27 ic_m1 rfl ?_
    exact ex_iret dX11_cheapest_28 rfl (hR _ _ (Option.some.inj hf).symm)
  · replace hf := if_f hc3 hf
    refine ex_iload_n 3 (pc' := 8) dX11_cheapest_7 rfl rfl rfl ?_
    refine ex_i2l (pc' := 9) dX11_cheapest_8 rfl ?_
    refine ex_ldc2 (v := (-1)) (pc' := 12) dX11_cheapest_9 co_X11_223 rfl ?_
    refine ex_aload_n 0 (pc' := 13) dX11_cheapest_12 rfl rfl rfl ?_
    refine ex_getR (pc' := 16) dX11_cheapest_13 fl_X11_22 rfl (sh11_k hO) (sh11_F3 hO) rfl ?_
    refine ex_iload_n 1 (pc' := 17) dX11_cheapest_16 rfl rfl rfl ?_
    obtain ⟨hg4, hf⟩ := of_guard hf
    refine ex_iald (pc' := 18) dX11_cheapest_17 (sh11_T3 hO) (inb_in hg4) rfl ?_
    refine ex_iconst (v := 1) (pc' := 19) dX11_cheapest_18 ic_1 rfl ?_
    refine ex_isub (pc' := 20) dX11_cheapest_19 rfl ?_
    refine ex_i2l (pc' := 21) dX11_cheapest_20 rfl ?_
    obtain ⟨r5, hq6, hf⟩ := of_bnd1 hf
    refine ex_callS_i (rm' := rmX11_in) (st := []) (pc' := 24) [.long (Int32.toInt64 v3), .long (-1), .long (Int32.toInt64 ((I 103 (Int32.toNatClampNeg v1)) - 1))] dX11_cheapest_21 cl_X11_129 (k_X11_in G hq6) rfl rfl rfl (ROOM_of rfl) (Nat.le_of_ble_eq_true rfl) rfl rfl ?_
    refine ex_ifne (tgt := 29) (pc' := 27) dX11_cheapest_24 (by decide) rfl (fun hc7 => ?_) (fun hc7 => ?_)
    · replace hf := if_t hc7 hf
      refine ex_iconst (v := (-1)) (pc' := 28) dX11_cheapest_27 ic_m1 rfl ?_
      exact ex_iret dX11_cheapest_28 rfl (hR _ _ (Option.some.inj hf).symm)
    · replace hf := if_f hc7 hf
      refine ex_iload_n 2 (pc' := 30) dX11_cheapest_29 rfl rfl rfl ?_
      refine ex_ifge (tgt := 36) (pc' := 33) dX11_cheapest_30 (by decide) rfl (fun hc8 => ?_) (fun hc8 => ?_)
      · replace hf := if_t hc8 hf
        refine ex_bipush (v := (-2)) (pc' := 35) dX11_cheapest_33 bp_m2 rfl ?_
        exact ex_iret dX11_cheapest_35 rfl (hR _ _ (Option.some.inj hf).symm)
      · replace hf := if_f hc8 hf
        refine ex_aload_n 0 (pc' := 37) dX11_cheapest_36 rfl rfl rfl ?_
        refine ex_getR (pc' := 40) dX11_cheapest_37 fl_X11_22 rfl (sh11_k hO) (sh11_F3 hO) rfl ?_
        refine ex_iload_n 1 (pc' := 41) dX11_cheapest_40 rfl rfl rfl ?_
        obtain ⟨hg9, hf⟩ := of_guard hf
        refine ex_iald (pc' := 42) dX11_cheapest_41 (sh11_T3 hO) (inb_in hg9) rfl ?_
        refine ex_istore (lv' := [(4, .int (I 103 (Int32.toNatClampNeg v1))), (0, .ref (gB G + 99)), (1, .int v1), (2, .int v2), (3, .int v3)]) (pc' := 44) dX11_cheapest_42 (Nat.le_of_ble_eq_true rfl) rfl rfl ?_
        refine ex_iconst (v := (-1)) (pc' := 45) dX11_cheapest_44 ic_m1 rfl ?_
        refine ex_istore (lv' := [(5, .int (-1)), (4, .int (I 103 (Int32.toNatClampNeg v1))), (0, .ref (gB G + 99)), (1, .int v1), (2, .int v2), (3, .int v3)]) (pc' := 47) dX11_cheapest_45 (Nat.le_of_ble_eq_true rfl) rfl rfl ?_
        refine ex_aload_n 2 (pc' := 48) dX11_cheapest_47 rfl rfl rfl ?_
        obtain ⟨I10, hq11, hf⟩ := of_bnd1 hf
        refine ex_callV_v (rm' := rmX11_begin) (st := []) (pc' := 51) [] dX11_cheapest_48 cl_X11_259 (k_X11_begin G hO hq11) rfl (sh11_k hO) ⟨_, _, rfl⟩ rfl rfl (ROOM_of rfl) (Nat.le_of_ble_eq_true rfl) rfl rfl ?_
        refine ex_sub (lv' := [(0, .ref (gB G + 99)), (1, .int v1), (2, .int v2), (3, .int v3), (4, .int (I 103 (Int32.toNatClampNeg v1))), (5, .int (-1))]) [2, 3, 4, 5, 1, 0] rfl ?_
        obtain ⟨x23, I24, hq25, hf⟩ := of_bnd2 hf
        refine k_X11_cheapest_l51 hO (fun x23' I24' he => ?_) _ _ _ hq25
        cases he
        refine ex_sub [0, 1, 2, 3] rfl (k_X11_cheapest_j95 hO  hf hR)
set_option maxRecDepth 100000 in
set_option maxHeartbeats 4000000 in
theorem k_X11_cheapest (G : GX) {X : MX} (hO : shX11 X) {v1 : Int32} {v2 : Int32} {v3 : Int32}  {N : Nat} {I : MI} {L : ML} {z : Int32} {I' : MI} (hf : f_X11_cheapest N v1 v2 v3 I = some (z, I')) : Con G mX11_cheapest yX11_cheapest rmX11_cheapest (fun B => [.ref (B + 99), .int v1, .int v2, .int v3]) X I L (some (.int z)) X I' L :=
  Con.of (by decide) rfl (fun h => by cases h) (fun B => Nat.le_of_ble_eq_true rfl) (fun G => kb_X11_cheapest hO  hf (fun _ _ he => by cases he; rfl))
-- X11_compared ('RookWordsModel', 'compared', '(II)I')
def rmX11_compared : RM := ((0, 0, 0, 0), false, (some FieldType.int))
def f_X11_compared_b2 (N : Nat) (v1 : Int32) (v2 : Int32) (v3 : Int32) (I : MI) : Option ((Int32) ⊕ ((Unit) ⊕ (Int32))) := (if v3 < 7 then if inb ((7 * v1) + v3) 6468 then if inb ((7 * v2) + v3) 6468 then letv ((I 133 (Int32.toNatClampNeg ((7 * v1) + v3))) - (I 133 (Int32.toNatClampNeg ((7 * v2) + v3)))) fun x4 => (if x4 = 0 then some (.inl (v3 + 1)) else some (.inr (.inr x4))) else none else none else some (.inr (.inl ())))
set_option maxRecDepth 100000 in
set_option maxHeartbeats 4000000 in
theorem k_X11_compared_b2 {G : GX} {Q : State → Prop} {X : MX} (hO : shX11 X) {v1 : Int32} {v2 : Int32}  {v3 : Int32} {N : Nat} {I : MI} {L : ML} {out : (Int32) ⊕ ((Unit) ⊕ (Int32))} (hf : f_X11_compared_b2 N v1 v2 v3 I = some out) (hC : ∀ (v3' : Int32), out = .inl v3' → Ex G mX11_compared rmX11_compared Q (0, 0) X I L 2 [(0, .ref (gB G + 99)), (1, .int v1), (2, .int v2), (3, .int v3')] []) (hX : ∀ (u : Unit), out = .inr (.inl u) → Ex G mX11_compared rmX11_compared Q (0, 0) X I L 47 [] []) (hR : ∀ (z : Int32), out = .inr (.inr z) → Q = RetQ G (some (.int z)) X I L (0, 0)) : Ex G mX11_compared rmX11_compared Q (0, 0) X I L 2 [(0, .ref (gB G + 99)), (1, .int v1), (2, .int v2), (3, .int v3)] [] := by
  unfold f_X11_compared_b2 at hf
  refine ex_iload_n 3 (pc' := 3) dX11_compared_2 rfl rfl rfl ?_
  refine ex_bipush (v := 7) (pc' := 5) dX11_compared_3 bp_7 rfl ?_
  refine ex_icmpge (tgt := 47) (pc' := 8) dX11_compared_5 (by decide) rfl (fun hc1 => ?_) (fun hc1 => ?_)
  · replace hf := if_t hc1 hf
    refine ex_aload_n 0 (pc' := 9) dX11_compared_8 rfl rfl rfl ?_
    refine ex_getR (pc' := 12) dX11_compared_9 fl_X11_112 rfl (sh11_k hO) (sh11_F41 hO) rfl ?_
    refine ex_bipush (v := 7) (pc' := 14) dX11_compared_12 bp_7 rfl ?_
    refine ex_iload_n 1 (pc' := 15) dX11_compared_14 rfl rfl rfl ?_
    refine ex_imul (pc' := 16) dX11_compared_15 rfl ?_
    refine ex_iload_n 3 (pc' := 17) dX11_compared_16 rfl rfl rfl ?_
    refine ex_iadd (pc' := 18) dX11_compared_17 rfl ?_
    obtain ⟨hg2, hf⟩ := of_guard hf
    refine ex_iald (pc' := 19) dX11_compared_18 (sh11_T41 hO) (inb_in hg2) rfl ?_
    refine ex_aload_n 0 (pc' := 20) dX11_compared_19 rfl rfl rfl ?_
    refine ex_getR (pc' := 23) dX11_compared_20 fl_X11_112 rfl (sh11_k hO) (sh11_F41 hO) rfl ?_
    refine ex_bipush (v := 7) (pc' := 25) dX11_compared_23 bp_7 rfl ?_
    refine ex_iload_n 2 (pc' := 26) dX11_compared_25 rfl rfl rfl ?_
    refine ex_imul (pc' := 27) dX11_compared_26 rfl ?_
    refine ex_iload_n 3 (pc' := 28) dX11_compared_27 rfl rfl rfl ?_
    refine ex_iadd (pc' := 29) dX11_compared_28 rfl ?_
    obtain ⟨hg3, hf⟩ := of_guard hf
    refine ex_iald (pc' := 30) dX11_compared_29 (sh11_T41 hO) (inb_in hg3) rfl ?_
    refine ex_isub (pc' := 31) dX11_compared_30 rfl ?_
    obtain ⟨x4, hx4, hf⟩ := of_let hf
    rw [← hx4]
    refine ex_istore (lv' := [(4, .int x4), (0, .ref (gB G + 99)), (1, .int v1), (2, .int v2), (3, .int v3)]) (pc' := 33) dX11_compared_31 (Nat.le_of_ble_eq_true rfl) rfl rfl ?_
    refine ex_iload 0 (pc' := 35) dX11_compared_33 rfl rfl ?_
    refine ex_ifeq (tgt := 41) (pc' := 38) dX11_compared_35 (by decide) rfl (fun hc5 => ?_) (fun hc5 => ?_)
    · replace hf := if_t hc5 hf
      refine ex_iincc (lv' := [(3, .int (v3 + 1)), (4, .int x4), (0, .ref (gB G + 99)), (1, .int v1), (2, .int v2)]) 4 (pc' := 44) dX11_compared_41 rfl ic_1 (Nat.le_of_ble_eq_true rfl) rfl rfl ?_
      refine ex_goto (tgt := 2) dX11_compared_44 (by decide) ?_
      exact ex_sub [2, 3, 4, 0] rfl (hC _ (Option.some.inj hf).symm)
    · replace hf := if_f hc5 hf
      refine ex_iload 0 (pc' := 40) dX11_compared_38 rfl rfl ?_
      exact ex_iret dX11_compared_40 rfl (hR _ (Option.some.inj hf).symm)
  · replace hf := if_f hc1 hf
    exact ex_sub [] rfl (hX _ (Option.some.inj hf).symm)
def f_X11_compared_l2 (N : Nat) (v1 : Int32) (v2 : Int32) (v3 : Int32) (I : MI) : Option ((Unit) ⊕ (Int32)) := loopN (fun s => f_X11_compared_b2 N v1 v2 s I) N v3
set_option maxRecDepth 100000 in
set_option maxHeartbeats 4000000 in
theorem k_X11_compared_l2 {G : GX} {Q : State → Prop} {X : MX} (hO : shX11 X) {v1 : Int32} {v2 : Int32}  {N0 : Nat} {I : MI} {L : ML} {out : ((Unit) ⊕ (Int32))} (hX : ∀ (u : Unit), out = .inl u → Ex G mX11_compared rmX11_compared Q (0, 0) X I L 47 [] []) (hR : ∀ (z : Int32), out = .inr z → Q = RetQ G (some (.int z)) X I L (0, 0)) : ∀ (N : Nat) (v3 : Int32), loopN (fun s => f_X11_compared_b2 N0 v1 v2 s I) N v3 = some out → Ex G mX11_compared rmX11_compared Q (0, 0) X I L 2 [(0, .ref (gB G + 99)), (1, .int v1), (2, .int v2), (3, .int v3)] [] := by
  intro N
  induction N with
  | zero => intro v3 hf; exact absurd (loopN_zero hf) id
  | succ n ih =>
    intro v3 hf
    rcases loopN_succ hf with ⟨s, hb, hl⟩ | hb
    · skip
      refine k_X11_compared_b2 hO  hb (fun _ he => ?_) (fun _ he => by cases he) (fun _ he => by cases he)
      cases he
      exact ih s hl
    · exact k_X11_compared_b2 hO  hb (fun _ he => by cases he) (fun x0 he => hX x0 (Sum.inr.inj he)) (fun z0 he => hR z0 (Sum.inr.inj he))
def f_X11_compared (N : Nat) (v1 : Int32) (v2 : Int32) (I : MI) : Option (Int32) := bns1 (f_X11_compared_l2 N v1 v2 1 I) (fun u6 => some 0) (fun q8 => some q8)
set_option maxRecDepth 100000 in
set_option maxHeartbeats 4000000 in
theorem kb_X11_compared {G : GX} {Q : State → Prop} {X : MX} (hO : shX11 X) {v1 : Int32} {v2 : Int32}  {N : Nat} {I : MI} {L : ML} {out : Int32} (hf : f_X11_compared N v1 v2 I = some out) (hR : ∀ (z : Int32), out = z → Q = RetQ G (some (.int z)) X I L (0, 0)) : Ex G mX11_compared rmX11_compared Q (0, 0) X I L 0 [(0, .ref (gB G + 99)), (1, .int v1), (2, .int v2)] [] := by
  unfold f_X11_compared at hf
  refine ex_iconst (v := 1) (pc' := 1) dX11_compared_0 ic_1 rfl ?_
  refine ex_istore_n (lv' := [(3, .int 1), (0, .ref (gB G + 99)), (1, .int v1), (2, .int v2)]) (pc' := 2) dX11_compared_1 rfl (Nat.le_of_ble_eq_true rfl) rfl rfl ?_
  refine ex_sub (lv' := [(0, .ref (gB G + 99)), (1, .int v1), (2, .int v2), (3, .int 1)]) [1, 2, 3, 0] rfl ?_
  rcases of_bns1 hf with ⟨u6, hq7, hf⟩ | ⟨q8, hq7, hf⟩
  · refine k_X11_compared_l2 hO (fun u6' he => ?_) (fun _ he => by cases he) _ _ hq7
    cases he
    refine ex_iconst (v := 0) (pc' := 48) dX11_compared_47 ic_0 rfl ?_
    exact ex_iret dX11_compared_48 rfl (hR _ (Option.some.inj hf).symm)
  · refine k_X11_compared_l2 hO (fun _ he => by cases he) (fun z0 he => ?_) _ _ hq7
    refine hR _ ?_
    rw [← Option.some.inj hf]
    cases he
    rfl
set_option maxRecDepth 100000 in
set_option maxHeartbeats 4000000 in
theorem k_X11_compared (G : GX) {X : MX} (hO : shX11 X) {v1 : Int32} {v2 : Int32}  {N : Nat} {I : MI} {L : ML} {z : Int32} (hf : f_X11_compared N v1 v2 I = some z) : Con G mX11_compared yX11_compared rmX11_compared (fun B => [.ref (B + 99), .int v1, .int v2]) X I L (some (.int z)) X I L :=
  Con.of (by decide) rfl (fun h => by cases h) (fun B => Nat.le_of_ble_eq_true rfl) (fun G => kb_X11_compared hO  hf (fun _ he => by cases he; rfl))
theorem cl_X11_225 : CLV RX11 225 yX11_compared mX11_compared (some FieldType.int) 2 := ⟨⟨lwg_at 1288 (by decide +kernel) rfl, lwg_at 1290 (by decide +kernel) rfl, lwg_at 36 (by decide +kernel) rfl, lwg_at 61 (by decide +kernel) rfl⟩, lwg_at 1291 (by decide +kernel) rfl, ⟨by decide +kernel, by decide +kernel, by decide +kernel⟩⟩
-- X11_nextClass ('RookWordsModel', 'nextClass', '(I)I')
def rmX11_nextClass : RM := ((1, 24, 0, 0), false, (some FieldType.int))
def f_X11_nextClass_b4_j30 (N : Nat) (v1 : Int32) (v2 : Int32) (v3 : Int32) (s0 : Int32) (I : MI) : Option ((Int32 × Int32) ⊕ (Int32)) := (if s0 = 0 then some (.inl (v2, v3 + 1)) else (if v2 < 0 then some (.inl (v3, v3 + 1)) else bnd1 (f_X11_compared N v3 v2 I) fun r5 => (if r5 < 0 then some (.inl (v3, v3 + 1)) else some (.inl (v2, v3 + 1)))))
set_option maxRecDepth 100000 in
set_option maxHeartbeats 4000000 in
theorem k_X11_nextClass_b4_j30 {G : GX} {Q : State → Prop} {X : MX} (hO : shX11 X) {v1 : Int32} {v2 : Int32} {v3 : Int32} {s0 : Int32}   {N : Nat} {I : MI} {L : ML} {out : (Int32 × Int32) ⊕ (Int32)} (hf : f_X11_nextClass_b4_j30 N v1 v2 v3 s0 I = some out) (hC : ∀ (v2' : Int32) (v3' : Int32), out = .inl (v2', v3') → Ex G mX11_nextClass rmX11_nextClass Q (0, 0) X I L 4 [(0, .ref (gB G + 99)), (1, .int v1), (2, .int v2'), (3, .int v3')] []) (hX : ∀ (w2 : Int32), out = .inr w2 → Ex G mX11_nextClass rmX11_nextClass Q (0, 0) X I L 62 [(2, .int w2)] []) : Ex G mX11_nextClass rmX11_nextClass Q (0, 0) X I L 30 [(0, .ref (gB G + 99)), (1, .int v1), (2, .int v2), (3, .int v3)] [.int s0] := by
  unfold f_X11_nextClass_b4_j30 at hf
  refine ex_istore (lv' := [(4, .int s0), (0, .ref (gB G + 99)), (1, .int v1), (2, .int v2), (3, .int v3)]) (pc' := 32) dX11_nextClass_30 (Nat.le_of_ble_eq_true rfl) rfl rfl ?_
  refine ex_iload 0 (pc' := 34) dX11_nextClass_32 rfl rfl ?_
  refine ex_ifeq (tgt := 54) (pc' := 37) dX11_nextClass_34 (by decide) rfl (fun hc3 => ?_) (fun hc3 => ?_)
  · replace hf := if_t hc3 hf
    refine ex_iload_n 3 (pc' := 55) dX11_nextClass_54 rfl rfl rfl ?_
    refine ex_istore_n (lv' := [(2, .int v2), (4, .int s0), (0, .ref (gB G + 99)), (1, .int v1), (3, .int v3)]) (pc' := 56) dX11_nextClass_55 rfl (Nat.le_of_ble_eq_true rfl) rfl rfl ?_
    refine ex_iincc (lv' := [(3, .int (v3 + 1)), (2, .int v2), (4, .int s0), (0, .ref (gB G + 99)), (1, .int v1)]) 4 (pc' := 59) dX11_nextClass_56 rfl ic_1 (Nat.le_of_ble_eq_true rfl) rfl rfl ?_
    refine ex_goto (tgt := 4) dX11_nextClass_59 (by decide) ?_
    exact ex_sub [3, 4, 1, 0] rfl (hC _ _ (Option.some.inj hf).symm)
  · replace hf := if_f hc3 hf
    refine ex_iload_n 3 (pc' := 38) dX11_nextClass_37 rfl rfl rfl ?_
    refine ex_iflt (tgt := 50) (pc' := 41) dX11_nextClass_38 (by decide) rfl (fun hc4 => ?_) (fun hc4 => ?_)
    · replace hf := if_t hc4 hf
      refine ex_iload_n 4 (pc' := 51) dX11_nextClass_50 rfl rfl rfl ?_
      refine ex_goto (tgt := 55) dX11_nextClass_51 (by decide) ?_
      refine ex_istore_n (lv' := [(2, .int v3), (4, .int s0), (0, .ref (gB G + 99)), (1, .int v1), (3, .int v3)]) (pc' := 56) dX11_nextClass_55 rfl (Nat.le_of_ble_eq_true rfl) rfl rfl ?_
      refine ex_iincc (lv' := [(3, .int (v3 + 1)), (2, .int v3), (4, .int s0), (0, .ref (gB G + 99)), (1, .int v1)]) 4 (pc' := 59) dX11_nextClass_56 rfl ic_1 (Nat.le_of_ble_eq_true rfl) rfl rfl ?_
      refine ex_goto (tgt := 4) dX11_nextClass_59 (by decide) ?_
      exact ex_sub [3, 4, 1, 0] rfl (hC _ _ (Option.some.inj hf).symm)
    · replace hf := if_f hc4 hf
      refine ex_aload_n 1 (pc' := 42) dX11_nextClass_41 rfl rfl rfl ?_
      refine ex_iload_n 4 (pc' := 43) dX11_nextClass_42 rfl rfl rfl ?_
      refine ex_iload_n 3 (pc' := 44) dX11_nextClass_43 rfl rfl rfl ?_
      obtain ⟨r5, hq6, hf⟩ := of_bnd1 hf
      refine ex_callV_i (rm' := rmX11_compared) (st := []) (pc' := 47) [.int v3, .int v2] dX11_nextClass_44 cl_X11_225 (k_X11_compared G hO hq6) rfl (sh11_k hO) ⟨_, _, rfl⟩ rfl rfl (ROOM_of rfl) (Nat.le_of_ble_eq_true rfl) rfl rfl ?_
      refine ex_ifge (tgt := 54) (pc' := 50) dX11_nextClass_47 (by decide) rfl (fun hc7 => ?_) (fun hc7 => ?_)
      · replace hf := if_t hc7 hf
        refine ex_iload_n 4 (pc' := 51) dX11_nextClass_50 rfl rfl rfl ?_
        refine ex_goto (tgt := 55) dX11_nextClass_51 (by decide) ?_
        refine ex_istore_n (lv' := [(2, .int v3), (4, .int s0), (0, .ref (gB G + 99)), (1, .int v1), (3, .int v3)]) (pc' := 56) dX11_nextClass_55 rfl (Nat.le_of_ble_eq_true rfl) rfl rfl ?_
        refine ex_iincc (lv' := [(3, .int (v3 + 1)), (2, .int v3), (4, .int s0), (0, .ref (gB G + 99)), (1, .int v1)]) 4 (pc' := 59) dX11_nextClass_56 rfl ic_1 (Nat.le_of_ble_eq_true rfl) rfl rfl ?_
        refine ex_goto (tgt := 4) dX11_nextClass_59 (by decide) ?_
        exact ex_sub [3, 4, 1, 0] rfl (hC _ _ (Option.some.inj hf).symm)
      · replace hf := if_f hc7 hf
        refine ex_iload_n 3 (pc' := 55) dX11_nextClass_54 rfl rfl rfl ?_
        refine ex_istore_n (lv' := [(2, .int v2), (4, .int s0), (0, .ref (gB G + 99)), (1, .int v1), (3, .int v3)]) (pc' := 56) dX11_nextClass_55 rfl (Nat.le_of_ble_eq_true rfl) rfl rfl ?_
        refine ex_iincc (lv' := [(3, .int (v3 + 1)), (2, .int v2), (4, .int s0), (0, .ref (gB G + 99)), (1, .int v1)]) 4 (pc' := 59) dX11_nextClass_56 rfl ic_1 (Nat.le_of_ble_eq_true rfl) rfl rfl ?_
        refine ex_goto (tgt := 4) dX11_nextClass_59 (by decide) ?_
        exact ex_sub [3, 4, 1, 0] rfl (hC _ _ (Option.some.inj hf).symm)
def f_X11_nextClass_b4_j25 (N : Nat) (v1 : Int32) (v2 : Int32) (v3 : Int32) (I : MI) : Option ((Int32 × Int32) ⊕ (Int32)) := f_X11_nextClass_b4_j30 N v1 v2 v3 1 I
set_option maxRecDepth 100000 in
set_option maxHeartbeats 4000000 in
theorem k_X11_nextClass_b4_j25 {G : GX} {Q : State → Prop} {X : MX} (hO : shX11 X) {v1 : Int32} {v2 : Int32} {v3 : Int32}   {N : Nat} {I : MI} {L : ML} {out : (Int32 × Int32) ⊕ (Int32)} (hf : f_X11_nextClass_b4_j25 N v1 v2 v3 I = some out) (hC : ∀ (v2' : Int32) (v3' : Int32), out = .inl (v2', v3') → Ex G mX11_nextClass rmX11_nextClass Q (0, 0) X I L 4 [(0, .ref (gB G + 99)), (1, .int v1), (2, .int v2'), (3, .int v3')] []) (hX : ∀ (w2 : Int32), out = .inr w2 → Ex G mX11_nextClass rmX11_nextClass Q (0, 0) X I L 62 [(2, .int w2)] []) : Ex G mX11_nextClass rmX11_nextClass Q (0, 0) X I L 25 [(0, .ref (gB G + 99)), (1, .int v1), (2, .int v2), (3, .int v3)] [] := by
  unfold f_X11_nextClass_b4_j25 at hf
  refine ex_iconst (v := 1) (pc' := 26) dX11_nextClass_25 ic_1 rfl ?_
  refine ex_goto (tgt := 30) dX11_nextClass_26 (by decide) ?_
  refine ex_sub [0, 1, 2, 3] rfl (k_X11_nextClass_b4_j30 hO  hf hC hX)
def f_X11_nextClass_b4 (N : Nat) (v1 : Int32) (v2 : Int32) (v3 : Int32) (I : MI) : Option ((Int32 × Int32) ⊕ (Int32)) := (if v3 < (I 99 38) then (if v1 < 0 then f_X11_nextClass_b4_j25 N v1 v2 v3 I else bnd1 (f_X11_compared N v3 v1 I) fun r8 => (if 0 < r8 then f_X11_nextClass_b4_j25 N v1 v2 v3 I else f_X11_nextClass_b4_j30 N v1 v2 v3 0 I)) else some (.inr v2))
set_option maxRecDepth 100000 in
set_option maxHeartbeats 4000000 in
theorem k_X11_nextClass_b4 {G : GX} {Q : State → Prop} {X : MX} (hO : shX11 X) {v1 : Int32}  {v2 : Int32} {v3 : Int32} {N : Nat} {I : MI} {L : ML} {out : (Int32 × Int32) ⊕ (Int32)} (hf : f_X11_nextClass_b4 N v1 v2 v3 I = some out) (hC : ∀ (v2' : Int32) (v3' : Int32), out = .inl (v2', v3') → Ex G mX11_nextClass rmX11_nextClass Q (0, 0) X I L 4 [(0, .ref (gB G + 99)), (1, .int v1), (2, .int v2'), (3, .int v3')] []) (hX : ∀ (w2 : Int32), out = .inr w2 → Ex G mX11_nextClass rmX11_nextClass Q (0, 0) X I L 62 [(2, .int w2)] []) : Ex G mX11_nextClass rmX11_nextClass Q (0, 0) X I L 4 [(0, .ref (gB G + 99)), (1, .int v1), (2, .int v2), (3, .int v3)] [] := by
  unfold f_X11_nextClass_b4 at hf
  refine ex_iload_n 3 (pc' := 5) dX11_nextClass_4 rfl rfl rfl ?_
  refine ex_aload_n 0 (pc' := 6) dX11_nextClass_5 rfl rfl rfl ?_
  refine ex_getI (pc' := 9) dX11_nextClass_6 fl_X11_209 rfl (sh11_k hO) rfl ?_
  refine ex_icmpge (tgt := 62) (pc' := 12) dX11_nextClass_9 (by decide) rfl (fun hc1 => ?_) (fun hc1 => ?_)
  · replace hf := if_t hc1 hf
    refine ex_iload_n 1 (pc' := 13) dX11_nextClass_12 rfl rfl rfl ?_
    refine ex_iflt (tgt := 25) (pc' := 16) dX11_nextClass_13 (by decide) rfl (fun hc2 => ?_) (fun hc2 => ?_)
    · replace hf := if_t hc2 hf
      refine ex_sub [0, 1, 2, 3] rfl (k_X11_nextClass_b4_j25 hO  hf hC hX)
    · replace hf := if_f hc2 hf
      refine ex_aload_n 0 (pc' := 17) dX11_nextClass_16 rfl rfl rfl ?_
      refine ex_iload_n 3 (pc' := 18) dX11_nextClass_17 rfl rfl rfl ?_
      refine ex_iload_n 1 (pc' := 19) dX11_nextClass_18 rfl rfl rfl ?_
      obtain ⟨r8, hq9, hf⟩ := of_bnd1 hf
      refine ex_callV_i (rm' := rmX11_compared) (st := []) (pc' := 22) [.int v3, .int v1] dX11_nextClass_19 cl_X11_225 (k_X11_compared G hO hq9) rfl (sh11_k hO) ⟨_, _, rfl⟩ rfl rfl (ROOM_of rfl) (Nat.le_of_ble_eq_true rfl) rfl rfl ?_
      refine ex_ifle (tgt := 29) (pc' := 25) dX11_nextClass_22 (by decide) rfl (fun hc10 => ?_) (fun hc10 => ?_)
      · replace hf := if_t hc10 hf
        refine ex_sub [0, 1, 2, 3] rfl (k_X11_nextClass_b4_j25 hO  hf hC hX)
      · replace hf := if_f hc10 hf
        refine ex_iconst (v := 0) (pc' := 30) dX11_nextClass_29 ic_0 rfl ?_
        refine ex_sub [0, 1, 2, 3] rfl (k_X11_nextClass_b4_j30 hO  hf hC hX)
  · replace hf := if_f hc1 hf
    exact ex_sub [2] rfl (hX _ (Option.some.inj hf).symm)
def f_X11_nextClass_l4 (N : Nat) (v1 : Int32) (v2 : Int32) (v3 : Int32) (I : MI) : Option (Int32) := loopN (fun s => f_X11_nextClass_b4 N v1 s.1 s.2 I) N (v2, v3)
set_option maxRecDepth 100000 in
set_option maxHeartbeats 4000000 in
theorem k_X11_nextClass_l4 {G : GX} {Q : State → Prop} {X : MX} (hO : shX11 X) {v1 : Int32}  {N0 : Nat} {I : MI} {L : ML} {out : (Int32)} (hX : ∀ (w2 : Int32), out = w2 → Ex G mX11_nextClass rmX11_nextClass Q (0, 0) X I L 62 [(2, .int w2)] []) : ∀ (N : Nat) (v2 : Int32) (v3 : Int32), loopN (fun s => f_X11_nextClass_b4 N0 v1 s.1 s.2 I) N (v2, v3) = some out → Ex G mX11_nextClass rmX11_nextClass Q (0, 0) X I L 4 [(0, .ref (gB G + 99)), (1, .int v1), (2, .int v2), (3, .int v3)] [] := by
  intro N
  induction N with
  | zero => intro v2 v3 hf; exact absurd (loopN_zero hf) id
  | succ n ih =>
    intro v2 v3 hf
    rcases loopN_succ hf with ⟨s, hb, hl⟩ | hb
    · obtain ⟨v2', v3'⟩ := s
      refine k_X11_nextClass_b4 hO  hb (fun _ _ he => ?_) (fun _ he => by cases he)
      cases he
      exact ih v2' v3' hl
    · exact k_X11_nextClass_b4 hO  hb (fun _ _ he => by cases he) (fun x0 he => hX x0 (Sum.inr.inj he))
def f_X11_nextClass (N : Nat) (v1 : Int32) (I : MI) : Option (Int32) := bnd1 (f_X11_nextClass_l4 N v1 (-1) 0 I) fun x11 => some x11
set_option maxRecDepth 100000 in
set_option maxHeartbeats 4000000 in
theorem kb_X11_nextClass {G : GX} {Q : State → Prop} {X : MX} (hO : shX11 X) {v1 : Int32}  {N : Nat} {I : MI} {L : ML} {out : Int32} (hf : f_X11_nextClass N v1 I = some out) (hR : ∀ (z : Int32), out = z → Q = RetQ G (some (.int z)) X I L (0, 0)) : Ex G mX11_nextClass rmX11_nextClass Q (0, 0) X I L 0 [(0, .ref (gB G + 99)), (1, .int v1)] [] := by
  unfold f_X11_nextClass at hf
  refine ex_iconst (v := (-1)) (pc' := 1) dX11_nextClass_0 ic_m1 rfl ?_
  refine ex_istore_n (lv' := [(2, .int (-1)), (0, .ref (gB G + 99)), (1, .int v1)]) (pc' := 2) dX11_nextClass_1 rfl (Nat.le_of_ble_eq_true rfl) rfl rfl ?_
  refine ex_iconst (v := 0) (pc' := 3) dX11_nextClass_2 ic_0 rfl ?_
  refine ex_istore_n (lv' := [(3, .int 0), (2, .int (-1)), (0, .ref (gB G + 99)), (1, .int v1)]) (pc' := 4) dX11_nextClass_3 rfl (Nat.le_of_ble_eq_true rfl) rfl rfl ?_
  refine ex_sub (lv' := [(0, .ref (gB G + 99)), (1, .int v1), (2, .int (-1)), (3, .int 0)]) [2, 3, 1, 0] rfl ?_
  obtain ⟨x11, hq12, hf⟩ := of_bnd1 hf
  refine k_X11_nextClass_l4 hO (fun x11' he => ?_) _ _ _ hq12
  cases he
  refine ex_iload_n 0 (pc' := 63) dX11_nextClass_62 rfl rfl rfl ?_
  exact ex_iret dX11_nextClass_63 rfl (hR _ (Option.some.inj hf).symm)
set_option maxRecDepth 100000 in
set_option maxHeartbeats 4000000 in
theorem k_X11_nextClass (G : GX) {X : MX} (hO : shX11 X) {v1 : Int32}  {N : Nat} {I : MI} {L : ML} {z : Int32} (hf : f_X11_nextClass N v1 I = some z) : Con G mX11_nextClass yX11_nextClass rmX11_nextClass (fun B => [.ref (B + 99), .int v1]) X I L (some (.int z)) X I L :=
  Con.of (by decide) rfl (fun h => by cases h) (fun B => Nat.le_of_ble_eq_true rfl) (fun G => kb_X11_nextClass hO  hf (fun _ he => by cases he; rfl))
-- X11_partOf ('RookWordsModel', 'partOf', '(I)I')
def rmX11_partOf : RM := ((1, 24, 0, 0), false, (some FieldType.int))
def f_X11_partOf_b4 (N : Nat) (v1 : Int32) (v2 : Int32) (v3 : Int32) (I : MI) : Option ((Int32 × Int32) ⊕ (Int32)) := (if v3 < (I 99 38) then bnd1 (f_X11_compared N v1 v3 I) fun r2 => (if r2 = 0 then some (.inl (v2 + 1, v3 + 1)) else some (.inl (v2 + 0, v3 + 1))) else some (.inr v2))
set_option maxRecDepth 100000 in
set_option maxHeartbeats 4000000 in
theorem k_X11_partOf_b4 {G : GX} {Q : State → Prop} {X : MX} (hO : shX11 X) {v1 : Int32}  {v2 : Int32} {v3 : Int32} {N : Nat} {I : MI} {L : ML} {out : (Int32 × Int32) ⊕ (Int32)} (hf : f_X11_partOf_b4 N v1 v2 v3 I = some out) (hC : ∀ (v2' : Int32) (v3' : Int32), out = .inl (v2', v3') → Ex G mX11_partOf rmX11_partOf Q (0, 0) X I L 4 [(0, .ref (gB G + 99)), (1, .int v1), (2, .int v2'), (3, .int v3')] []) (hX : ∀ (w2 : Int32), out = .inr w2 → Ex G mX11_partOf rmX11_partOf Q (0, 0) X I L 35 [(2, .int w2)] []) : Ex G mX11_partOf rmX11_partOf Q (0, 0) X I L 4 [(0, .ref (gB G + 99)), (1, .int v1), (2, .int v2), (3, .int v3)] [] := by
  unfold f_X11_partOf_b4 at hf
  refine ex_iload_n 3 (pc' := 5) dX11_partOf_4 rfl rfl rfl ?_
  refine ex_aload_n 0 (pc' := 6) dX11_partOf_5 rfl rfl rfl ?_
  refine ex_getI (pc' := 9) dX11_partOf_6 fl_X11_209 rfl (sh11_k hO) rfl ?_
  refine ex_icmpge (tgt := 35) (pc' := 12) dX11_partOf_9 (by decide) rfl (fun hc1 => ?_) (fun hc1 => ?_)
  · replace hf := if_t hc1 hf
    refine ex_iload_n 2 (pc' := 13) dX11_partOf_12 rfl rfl rfl ?_
    refine ex_aload_n 0 (pc' := 14) dX11_partOf_13 rfl rfl rfl ?_
    refine ex_iload_n 1 (pc' := 15) dX11_partOf_14 rfl rfl rfl ?_
    refine ex_iload_n 3 (pc' := 16) dX11_partOf_15 rfl rfl rfl ?_
    obtain ⟨r2, hq3, hf⟩ := of_bnd1 hf
    refine ex_callV_i (rm' := rmX11_compared) (st := [.int v2]) (pc' := 19) [.int v1, .int v3] dX11_partOf_16 cl_X11_225 (k_X11_compared G hO hq3) rfl (sh11_k hO) ⟨_, _, rfl⟩ rfl rfl (ROOM_of rfl) (Nat.le_of_ble_eq_true rfl) rfl rfl ?_
    refine ex_ifne (tgt := 26) (pc' := 22) dX11_partOf_19 (by decide) rfl (fun hc4 => ?_) (fun hc4 => ?_)
    · replace hf := if_t hc4 hf
      refine ex_iconst (v := 1) (pc' := 23) dX11_partOf_22 ic_1 rfl ?_
      refine ex_goto (tgt := 27) dX11_partOf_23 (by decide) ?_
      refine ex_iadd (pc' := 28) dX11_partOf_27 rfl ?_
      refine ex_istore_n (lv' := [(2, .int (v2 + 1)), (0, .ref (gB G + 99)), (1, .int v1), (3, .int v3)]) (pc' := 29) dX11_partOf_28 rfl (Nat.le_of_ble_eq_true rfl) rfl rfl ?_
      refine ex_iincc (lv' := [(3, .int (v3 + 1)), (2, .int (v2 + 1)), (0, .ref (gB G + 99)), (1, .int v1)]) 3 (pc' := 32) dX11_partOf_29 rfl ic_1 (Nat.le_of_ble_eq_true rfl) rfl rfl ?_
      refine ex_goto (tgt := 4) dX11_partOf_32 (by decide) ?_
      exact ex_sub [2, 3, 1, 0] rfl (hC _ _ (Option.some.inj hf).symm)
    · replace hf := if_f hc4 hf
      refine ex_iconst (v := 0) (pc' := 27) dX11_partOf_26 ic_0 rfl ?_
      refine ex_iadd (pc' := 28) dX11_partOf_27 rfl ?_
      refine ex_istore_n (lv' := [(2, .int (v2 + 0)), (0, .ref (gB G + 99)), (1, .int v1), (3, .int v3)]) (pc' := 29) dX11_partOf_28 rfl (Nat.le_of_ble_eq_true rfl) rfl rfl ?_
      refine ex_iincc (lv' := [(3, .int (v3 + 1)), (2, .int (v2 + 0)), (0, .ref (gB G + 99)), (1, .int v1)]) 3 (pc' := 32) dX11_partOf_29 rfl ic_1 (Nat.le_of_ble_eq_true rfl) rfl rfl ?_
      refine ex_goto (tgt := 4) dX11_partOf_32 (by decide) ?_
      exact ex_sub [2, 3, 1, 0] rfl (hC _ _ (Option.some.inj hf).symm)
  · replace hf := if_f hc1 hf
    exact ex_sub [2] rfl (hX _ (Option.some.inj hf).symm)
def f_X11_partOf_l4 (N : Nat) (v1 : Int32) (v2 : Int32) (v3 : Int32) (I : MI) : Option (Int32) := loopN (fun s => f_X11_partOf_b4 N v1 s.1 s.2 I) N (v2, v3)
set_option maxRecDepth 100000 in
set_option maxHeartbeats 4000000 in
theorem k_X11_partOf_l4 {G : GX} {Q : State → Prop} {X : MX} (hO : shX11 X) {v1 : Int32}  {N0 : Nat} {I : MI} {L : ML} {out : (Int32)} (hX : ∀ (w2 : Int32), out = w2 → Ex G mX11_partOf rmX11_partOf Q (0, 0) X I L 35 [(2, .int w2)] []) : ∀ (N : Nat) (v2 : Int32) (v3 : Int32), loopN (fun s => f_X11_partOf_b4 N0 v1 s.1 s.2 I) N (v2, v3) = some out → Ex G mX11_partOf rmX11_partOf Q (0, 0) X I L 4 [(0, .ref (gB G + 99)), (1, .int v1), (2, .int v2), (3, .int v3)] [] := by
  intro N
  induction N with
  | zero => intro v2 v3 hf; exact absurd (loopN_zero hf) id
  | succ n ih =>
    intro v2 v3 hf
    rcases loopN_succ hf with ⟨s, hb, hl⟩ | hb
    · obtain ⟨v2', v3'⟩ := s
      refine k_X11_partOf_b4 hO  hb (fun _ _ he => ?_) (fun _ he => by cases he)
      cases he
      exact ih v2' v3' hl
    · exact k_X11_partOf_b4 hO  hb (fun _ _ he => by cases he) (fun x0 he => hX x0 (Sum.inr.inj he))
def f_X11_partOf (N : Nat) (v1 : Int32) (I : MI) : Option (Int32) := bnd1 (f_X11_partOf_l4 N v1 0 0 I) fun x5 => some x5
set_option maxRecDepth 100000 in
set_option maxHeartbeats 4000000 in
theorem kb_X11_partOf {G : GX} {Q : State → Prop} {X : MX} (hO : shX11 X) {v1 : Int32}  {N : Nat} {I : MI} {L : ML} {out : Int32} (hf : f_X11_partOf N v1 I = some out) (hR : ∀ (z : Int32), out = z → Q = RetQ G (some (.int z)) X I L (0, 0)) : Ex G mX11_partOf rmX11_partOf Q (0, 0) X I L 0 [(0, .ref (gB G + 99)), (1, .int v1)] [] := by
  unfold f_X11_partOf at hf
  refine ex_iconst (v := 0) (pc' := 1) dX11_partOf_0 ic_0 rfl ?_
  refine ex_istore_n (lv' := [(2, .int 0), (0, .ref (gB G + 99)), (1, .int v1)]) (pc' := 2) dX11_partOf_1 rfl (Nat.le_of_ble_eq_true rfl) rfl rfl ?_
  refine ex_iconst (v := 0) (pc' := 3) dX11_partOf_2 ic_0 rfl ?_
  refine ex_istore_n (lv' := [(3, .int 0), (2, .int 0), (0, .ref (gB G + 99)), (1, .int v1)]) (pc' := 4) dX11_partOf_3 rfl (Nat.le_of_ble_eq_true rfl) rfl rfl ?_
  refine ex_sub (lv' := [(0, .ref (gB G + 99)), (1, .int v1), (2, .int 0), (3, .int 0)]) [2, 3, 1, 0] rfl ?_
  obtain ⟨x5, hq6, hf⟩ := of_bnd1 hf
  refine k_X11_partOf_l4 hO (fun x5' he => ?_) _ _ _ hq6
  cases he
  refine ex_iload_n 0 (pc' := 36) dX11_partOf_35 rfl rfl rfl ?_
  exact ex_iret dX11_partOf_36 rfl (hR _ (Option.some.inj hf).symm)
set_option maxRecDepth 100000 in
set_option maxHeartbeats 4000000 in
theorem k_X11_partOf (G : GX) {X : MX} (hO : shX11 X) {v1 : Int32}  {N : Nat} {I : MI} {L : ML} {z : Int32} (hf : f_X11_partOf N v1 I = some z) : Con G mX11_partOf yX11_partOf rmX11_partOf (fun B => [.ref (B + 99), .int v1]) X I L (some (.int z)) X I L :=
  Con.of (by decide) rfl (fun h => by cases h) (fun B => Nat.le_of_ble_eq_true rfl) (fun G => kb_X11_partOf hO  hf (fun _ he => by cases he; rfl))
theorem cl_X11_228 : CLV RX11 228 yX11_nextClass mX11_nextClass (some FieldType.int) 1 := ⟨⟨lwg_at 1284 (by decide +kernel) rfl, lwg_at 1286 (by decide +kernel) rfl, lwg_at 35 (by decide +kernel) rfl, lwg_at 61 (by decide +kernel) rfl⟩, lwg_at 1287 (by decide +kernel) rfl, ⟨by decide +kernel, by decide +kernel, by decide +kernel⟩⟩
theorem cl_X11_231 : CLV RX11 231 yX11_partOf mX11_partOf (some FieldType.int) 1 := ⟨⟨lwg_at 1292 (by decide +kernel) rfl, lwg_at 1294 (by decide +kernel) rfl, lwg_at 37 (by decide +kernel) rfl, lwg_at 61 (by decide +kernel) rfl⟩, lwg_at 1295 (by decide +kernel) rfl, ⟨by decide +kernel, by decide +kernel, by decide +kernel⟩⟩
-- X11_classes ('RookWordsModel', 'classes', '(III)I')
def rmX11_classes : RM := ((2, 49, 0, 0), false, (some FieldType.int))
def f_X11_classes_b50_j95 (N : Nat) (v2 : Int32) (v3 : Int32) (v4 : Int32) (v5 : Int32) (v6 : Int32) (s0 : Int32) (I : MI) : Option ((Int32 × Int32 × Int32) ⊕ ((Int32 × Int32) ⊕ (Int32 × MI))) := (if v6 < s0 then bnd1 (f_X11_nextClass N v4 I) fun r21 => some (.inl (r21, v5, s0)) else bnd1 (f_X11_nextClass N v4 I) fun r23 => some (.inl (r23, v5, v6)))
set_option maxRecDepth 100000 in
set_option maxHeartbeats 4000000 in
theorem k_X11_classes_b50_j95 {G : GX} {Q : State → Prop} {X : MX} (hO : shX11 X) {v2 : Int32} {v3 : Int32} {v4 : Int32} {v5 : Int32} {v6 : Int32} {s0 : Int32}   {N : Nat} {I : MI} {L : ML} {out : (Int32 × Int32 × Int32) ⊕ ((Int32 × Int32) ⊕ (Int32 × MI))} (hf : f_X11_classes_b50_j95 N v2 v3 v4 v5 v6 s0 I = some out) (hC : ∀ (v4' : Int32) (v5' : Int32) (v6' : Int32), out = .inl (v4', v5', v6') → Ex G mX11_classes rmX11_classes Q (0, 0) X I L 50 [(0, .ref (gB G + 99)), (2, .int v2), (3, .int v3), (4, .int v4'), (5, .int v5'), (6, .int v6')] []) (hX : ∀ (w5 : Int32) (w6 : Int32), out = .inr (.inl (w5, w6)) → Ex G mX11_classes rmX11_classes Q (0, 0) X I L 124 [(2, .int v2), (3, .int v3), (5, .int w5), (6, .int w6)] []) (hR : ∀ (z : Int32) (I' : MI), out = .inr (.inr (z, I')) → Q = RetQ G (some (.int z)) X I' L (0, 0)) : Ex G mX11_classes rmX11_classes Q (0, 0) X I L 95 [(0, .ref (gB G + 99)), (2, .int v2), (3, .int v3), (4, .int v4), (5, .int v5), (6, .int v6)] [.int s0] := by
  unfold f_X11_classes_b50_j95 at hf
  refine ex_istore (lv' := [(7, .int s0), (0, .ref (gB G + 99)), (2, .int v2), (3, .int v3), (4, .int v4), (5, .int v5), (6, .int v6)]) (pc' := 97) dX11_classes_95 (Nat.le_of_ble_eq_true rfl) rfl rfl ?_
  refine ex_iload 0 (pc' := 99) dX11_classes_97 rfl rfl ?_
  refine ex_iload 6 (pc' := 101) dX11_classes_99 rfl rfl ?_
  refine ex_icmple (tgt := 109) (pc' := 104) dX11_classes_101 (by decide) rfl (fun hc20 => ?_) (fun hc20 => ?_)
  · replace hf := if_t hc20 hf
    refine ex_iload 0 (pc' := 106) dX11_classes_104 rfl rfl ?_
    refine ex_goto (tgt := 111) dX11_classes_106 (by decide) ?_
    refine ex_istore (lv' := [(6, .int s0), (7, .int s0), (0, .ref (gB G + 99)), (2, .int v2), (3, .int v3), (4, .int v4), (5, .int v5)]) (pc' := 113) dX11_classes_111 (Nat.le_of_ble_eq_true rfl) rfl rfl ?_
    refine ex_aload_n 2 (pc' := 114) dX11_classes_113 rfl rfl rfl ?_
    refine ex_iload 5 (pc' := 116) dX11_classes_114 rfl rfl ?_
    obtain ⟨r21, hq22, hf⟩ := of_bnd1 hf
    refine ex_callV_i (rm' := rmX11_nextClass) (st := []) (pc' := 119) [.int v4] dX11_classes_116 cl_X11_228 (k_X11_nextClass G hO hq22) rfl (sh11_k hO) ⟨_, _, rfl⟩ rfl rfl (ROOM_of rfl) (Nat.le_of_ble_eq_true rfl) rfl rfl ?_
    refine ex_istore (lv' := [(4, .int r21), (6, .int s0), (7, .int s0), (0, .ref (gB G + 99)), (2, .int v2), (3, .int v3), (5, .int v5)]) (pc' := 121) dX11_classes_119 (Nat.le_of_ble_eq_true rfl) rfl rfl ?_
    refine ex_goto (tgt := 50) dX11_classes_121 (by decide) ?_
    exact ex_sub [3, 4, 5, 0, 6, 1] rfl (hC _ _ _ (Option.some.inj hf).symm)
  · replace hf := if_f hc20 hf
    refine ex_iload 6 (pc' := 111) dX11_classes_109 rfl rfl ?_
    refine ex_istore (lv' := [(6, .int v6), (7, .int s0), (0, .ref (gB G + 99)), (2, .int v2), (3, .int v3), (4, .int v4), (5, .int v5)]) (pc' := 113) dX11_classes_111 (Nat.le_of_ble_eq_true rfl) rfl rfl ?_
    refine ex_aload_n 2 (pc' := 114) dX11_classes_113 rfl rfl rfl ?_
    refine ex_iload 5 (pc' := 116) dX11_classes_114 rfl rfl ?_
    obtain ⟨r23, hq24, hf⟩ := of_bnd1 hf
    refine ex_callV_i (rm' := rmX11_nextClass) (st := []) (pc' := 119) [.int v4] dX11_classes_116 cl_X11_228 (k_X11_nextClass G hO hq24) rfl (sh11_k hO) ⟨_, _, rfl⟩ rfl rfl (ROOM_of rfl) (Nat.le_of_ble_eq_true rfl) rfl rfl ?_
    refine ex_istore (lv' := [(4, .int r23), (6, .int v6), (7, .int s0), (0, .ref (gB G + 99)), (2, .int v2), (3, .int v3), (5, .int v5)]) (pc' := 121) dX11_classes_119 (Nat.le_of_ble_eq_true rfl) rfl rfl ?_
    refine ex_goto (tgt := 50) dX11_classes_121 (by decide) ?_
    exact ex_sub [3, 4, 5, 0, 6, 1] rfl (hC _ _ _ (Option.some.inj hf).symm)
def f_X11_classes_b50 (N : Nat) (v2 : Int32) (v3 : Int32) (v4 : Int32) (v5 : Int32) (v6 : Int32) (I : MI) : Option ((Int32 × Int32 × Int32) ⊕ ((Int32 × Int32) ⊕ (Int32 × MI))) := (if v4 < 0 then some (.inr (.inl (v5, v6))) else (if v5 = v2 then (if v3 = 0 then bnd1 (f_X11_partOf N v4 I) fun r15 => some (.inr (.inr (r15, I))) else some (.inr (.inr (v4, I)))) else (if v2 = (-1) then bnd1 (f_X11_partOf N v4 I) fun r18 => f_X11_classes_b50_j95 N v2 v3 v4 (v5 + 1) v6 r18 I else f_X11_classes_b50_j95 N v2 v3 v4 (v5 + 1) v6 0 I)))
set_option maxRecDepth 100000 in
set_option maxHeartbeats 4000000 in
theorem k_X11_classes_b50 {G : GX} {Q : State → Prop} {X : MX} (hO : shX11 X) {v2 : Int32} {v3 : Int32}  {v4 : Int32} {v5 : Int32} {v6 : Int32} {N : Nat} {I : MI} {L : ML} {out : (Int32 × Int32 × Int32) ⊕ ((Int32 × Int32) ⊕ (Int32 × MI))} (hf : f_X11_classes_b50 N v2 v3 v4 v5 v6 I = some out) (hC : ∀ (v4' : Int32) (v5' : Int32) (v6' : Int32), out = .inl (v4', v5', v6') → Ex G mX11_classes rmX11_classes Q (0, 0) X I L 50 [(0, .ref (gB G + 99)), (2, .int v2), (3, .int v3), (4, .int v4'), (5, .int v5'), (6, .int v6')] []) (hX : ∀ (w5 : Int32) (w6 : Int32), out = .inr (.inl (w5, w6)) → Ex G mX11_classes rmX11_classes Q (0, 0) X I L 124 [(2, .int v2), (3, .int v3), (5, .int w5), (6, .int w6)] []) (hR : ∀ (z : Int32) (I' : MI), out = .inr (.inr (z, I')) → Q = RetQ G (some (.int z)) X I' L (0, 0)) : Ex G mX11_classes rmX11_classes Q (0, 0) X I L 50 [(0, .ref (gB G + 99)), (2, .int v2), (3, .int v3), (4, .int v4), (5, .int v5), (6, .int v6)] [] := by
  unfold f_X11_classes_b50 at hf
  refine ex_iload 3 (pc' := 52) dX11_classes_50 rfl rfl ?_
  refine ex_iflt (tgt := 124) (pc' := 55) dX11_classes_52 (by decide) rfl (fun hc12 => ?_) (fun hc12 => ?_)
  · replace hf := if_t hc12 hf
    exact ex_sub [1, 2, 4, 5] rfl (hX _ _ (Option.some.inj hf).symm)
  · replace hf := if_f hc12 hf
    refine ex_iload 4 (pc' := 57) dX11_classes_55 rfl rfl ?_
    refine ex_iload_n 1 (pc' := 58) dX11_classes_57 rfl rfl rfl ?_
    refine ex_icmpne (tgt := 77) (pc' := 61) dX11_classes_58 (by decide) rfl (fun hc13 => ?_) (fun hc13 => ?_)
    · replace hf := if_t hc13 hf
      refine ex_iload_n 2 (pc' := 62) dX11_classes_61 rfl rfl rfl ?_
      refine ex_ifne (tgt := 74) (pc' := 65) dX11_classes_62 (by decide) rfl (fun hc14 => ?_) (fun hc14 => ?_)
      · replace hf := if_t hc14 hf
        refine ex_aload_n 0 (pc' := 66) dX11_classes_65 rfl rfl rfl ?_
        refine ex_iload 3 (pc' := 68) dX11_classes_66 rfl rfl ?_
        obtain ⟨r15, hq16, hf⟩ := of_bnd1 hf
        refine ex_callV_i (rm' := rmX11_partOf) (st := []) (pc' := 71) [.int v4] dX11_classes_68 cl_X11_231 (k_X11_partOf G hO hq16) rfl (sh11_k hO) ⟨_, _, rfl⟩ rfl rfl (ROOM_of rfl) (Nat.le_of_ble_eq_true rfl) rfl rfl ?_
        refine ex_goto (tgt := 76) dX11_classes_71 (by decide) ?_
        exact ex_iret dX11_classes_76 rfl (hR _ _ (Option.some.inj hf).symm)
      · replace hf := if_f hc14 hf
        refine ex_iload 3 (pc' := 76) dX11_classes_74 rfl rfl ?_
        exact ex_iret dX11_classes_76 rfl (hR _ _ (Option.some.inj hf).symm)
    · replace hf := if_f hc13 hf
      refine ex_iincc (lv' := [(5, .int (v5 + 1)), (0, .ref (gB G + 99)), (2, .int v2), (3, .int v3), (4, .int v4), (6, .int v6)]) 4 (pc' := 80) dX11_classes_77 rfl ic_1 (Nat.le_of_ble_eq_true rfl) rfl rfl ?_
      refine ex_iload_n 2 (pc' := 81) dX11_classes_80 rfl rfl rfl ?_
      refine ex_iconst (v := (-1)) (pc' := 82) dX11_classes_81 ic_m1 rfl ?_
      refine ex_icmpne (tgt := 94) (pc' := 85) dX11_classes_82 (by decide) rfl (fun hc17 => ?_) (fun hc17 => ?_)
      · replace hf := if_t hc17 hf
        refine ex_aload_n 1 (pc' := 86) dX11_classes_85 rfl rfl rfl ?_
        refine ex_iload 4 (pc' := 88) dX11_classes_86 rfl rfl ?_
        obtain ⟨r18, hq19, hf⟩ := of_bnd1 hf
        refine ex_callV_i (rm' := rmX11_partOf) (st := []) (pc' := 91) [.int v4] dX11_classes_88 cl_X11_231 (k_X11_partOf G hO hq19) rfl (sh11_k hO) ⟨_, _, rfl⟩ rfl rfl (ROOM_of rfl) (Nat.le_of_ble_eq_true rfl) rfl rfl ?_
        refine ex_goto (tgt := 95) dX11_classes_91 (by decide) ?_
        refine ex_sub [1, 2, 3, 4, 0, 5] rfl (k_X11_classes_b50_j95 hO  hf hC hX hR)
      · replace hf := if_f hc17 hf
        refine ex_iconst (v := 0) (pc' := 95) dX11_classes_94 ic_0 rfl ?_
        refine ex_sub [1, 2, 3, 4, 0, 5] rfl (k_X11_classes_b50_j95 hO  hf hC hX hR)
def f_X11_classes_l50 (N : Nat) (v2 : Int32) (v3 : Int32) (v4 : Int32) (v5 : Int32) (v6 : Int32) (I : MI) : Option ((Int32 × Int32) ⊕ (Int32 × MI)) := loopN (fun s => f_X11_classes_b50 N v2 v3 s.1 s.2.1 s.2.2 I) N (v4, v5, v6)
set_option maxRecDepth 100000 in
set_option maxHeartbeats 4000000 in
theorem k_X11_classes_l50 {G : GX} {Q : State → Prop} {X : MX} (hO : shX11 X) {v2 : Int32} {v3 : Int32}  {N0 : Nat} {I : MI} {L : ML} {out : ((Int32 × Int32) ⊕ (Int32 × MI))} (hX : ∀ (w5 : Int32) (w6 : Int32), out = .inl (w5, w6) → Ex G mX11_classes rmX11_classes Q (0, 0) X I L 124 [(2, .int v2), (3, .int v3), (5, .int w5), (6, .int w6)] []) (hR : ∀ (z : Int32) (I' : MI), out = .inr (z, I') → Q = RetQ G (some (.int z)) X I' L (0, 0)) : ∀ (N : Nat) (v4 : Int32) (v5 : Int32) (v6 : Int32), loopN (fun s => f_X11_classes_b50 N0 v2 v3 s.1 s.2.1 s.2.2 I) N (v4, v5, v6) = some out → Ex G mX11_classes rmX11_classes Q (0, 0) X I L 50 [(0, .ref (gB G + 99)), (2, .int v2), (3, .int v3), (4, .int v4), (5, .int v5), (6, .int v6)] [] := by
  intro N
  induction N with
  | zero => intro v4 v5 v6 hf; exact absurd (loopN_zero hf) id
  | succ n ih =>
    intro v4 v5 v6 hf
    rcases loopN_succ hf with ⟨s, hb, hl⟩ | hb
    · obtain ⟨v4', v5', v6'⟩ := s
      refine k_X11_classes_b50 hO  hb (fun _ _ _ he => ?_) (fun _ _ he => by cases he) (fun _ _ he => by cases he)
      cases he
      exact ih v4' v5' v6' hl
    · exact k_X11_classes_b50 hO  hb (fun _ _ _ he => by cases he) (fun x0 x1 he => hX x0 x1 (Sum.inr.inj he)) (fun z0 z1 he => hR z0 z1 (Sum.inr.inj he))
def f_X11_classes (N : Nat) (v1 : Int32) (v2 : Int32) (v3 : Int32) (I : MI) : Option (Int32 × MI) := bnd1 (f_X11_in (Int32.toInt64 v1) 1 6) fun r1 => (if r1 = 0 then some ((-2), I) else (if v2 < (-1) then some ((-1), I) else bnd1 (f_X11_in (Int32.toInt64 v3) 0 1) fun r5 => (if r5 = 0 then some ((-1), I) else bnd1 (f_X11_layAll N v1 I) fun I8 => bnd1 (f_X11_nextClass N (-1) I8) fun r10 => bns2 (f_X11_classes_l50 N v2 v3 r10 0 0 I8) (fun x25 x26 => (if v2 < 0 then (if v3 = 0 then some (x25, I8) else some (x26, I8)) else some ((-5), I8))) (fun q30 => some q30))))
set_option maxRecDepth 100000 in
set_option maxHeartbeats 4000000 in
theorem kb_X11_classes {G : GX} {Q : State → Prop} {X : MX} (hO : shX11 X) {v1 : Int32} {v2 : Int32} {v3 : Int32}  {N : Nat} {I : MI} {L : ML} {out : Int32 × MI} (hf : f_X11_classes N v1 v2 v3 I = some out) (hR : ∀ (z : Int32) (I' : MI), out = (z, I') → Q = RetQ G (some (.int z)) X I' L (0, 0)) : Ex G mX11_classes rmX11_classes Q (0, 0) X I L 0 [(0, .ref (gB G + 99)), (1, .int v1), (2, .int v2), (3, .int v3)] [] := by
  unfold f_X11_classes at hf
  refine ex_iload_n 1 (pc' := 1) dX11_classes_0 rfl rfl rfl ?_
  refine ex_i2l (pc' := 2) dX11_classes_1 rfl ?_
  refine ex_lconst (v := 1) (pc' := 3) dX11_classes_2 lc_1 rfl ?_
  refine ex_ldc2 (v := 6) (pc' := 6) dX11_classes_3 co_X11_137 rfl ?_
  obtain ⟨r1, hq2, hf⟩ := of_bnd1 hf
  refine ex_callS_i (rm' := rmX11_in) (st := []) (pc' := 9) [.long (Int32.toInt64 v1), .long 1, .long 6] dX11_classes_6 cl_X11_129 (k_X11_in G hq2) rfl rfl rfl (ROOM_of rfl) (Nat.le_of_ble_eq_true rfl) rfl rfl ?_
  refine ex_ifne (tgt := 15) (pc' := 12) dX11_classes_9 (by decide) rfl (fun hc3 => ?_) (fun hc3 => ?_)
  · replace hf := if_t hc3 hf
    refine ex_bipush (v := (-2)) (pc' := 14) dX11_classes_12 bp_m2 rfl ?_
    exact ex_iret dX11_classes_14 rfl (hR _ _ (Option.some.inj hf).symm)
  · replace hf := if_f hc3 hf
    refine ex_iload_n 2 (pc' := 16) dX11_classes_15 rfl rfl rfl ?_
    refine ex_iconst (v := (-1)) (pc' := 17) dX11_classes_16 ic_m1 rfl ?_
    refine ex_icmplt (tgt := 30) (pc' := 20) dX11_classes_17 (by decide) rfl (fun hc4 => ?_) (fun hc4 => ?_)
    · replace hf := if_t hc4 hf
      refine ex_iconst (v := (-1)) (pc' := 31) dX11_classes_30 ic_m1 rfl ?_
      exact ex_iret dX11_classes_31 rfl (hR _ _ (Option.some.inj hf).symm)
    · replace hf := if_f hc4 hf
      refine ex_iload_n 3 (pc' := 21) dX11_classes_20 rfl rfl rfl ?_
      refine ex_i2l (pc' := 22) dX11_classes_21 rfl ?_
      refine ex_lconst (v := 0) (pc' := 23) dX11_classes_22 lc_0 rfl ?_
      refine ex_lconst (v := 1) (pc' := 24) dX11_classes_23 lc_1 rfl ?_
      obtain ⟨r5, hq6, hf⟩ := of_bnd1 hf
      refine ex_callS_i (rm' := rmX11_in) (st := []) (pc' := 27) [.long (Int32.toInt64 v3), .long 0, .long 1] dX11_classes_24 cl_X11_129 (k_X11_in G hq6) rfl rfl rfl (ROOM_of rfl) (Nat.le_of_ble_eq_true rfl) rfl rfl ?_
      refine ex_ifne (tgt := 32) (pc' := 30) dX11_classes_27 (by decide) rfl (fun hc7 => ?_) (fun hc7 => ?_)
      · replace hf := if_t hc7 hf
        refine ex_iconst (v := (-1)) (pc' := 31) dX11_classes_30 ic_m1 rfl ?_
        exact ex_iret dX11_classes_31 rfl (hR _ _ (Option.some.inj hf).symm)
      · replace hf := if_f hc7 hf
        refine ex_aload_n 0 (pc' := 33) dX11_classes_32 rfl rfl rfl ?_
        refine ex_iload_n 1 (pc' := 34) dX11_classes_33 rfl rfl rfl ?_
        obtain ⟨I8, hq9, hf⟩ := of_bnd1 hf
        refine ex_callV_v (rm' := rmX11_layAll) (st := []) (pc' := 37) [.int v1] dX11_classes_34 cl_X11_215 (k_X11_layAll G hO hq9) rfl (sh11_k hO) ⟨_, _, rfl⟩ rfl rfl (ROOM_of rfl) (Nat.le_of_ble_eq_true rfl) rfl rfl ?_
        refine ex_aload_n 0 (pc' := 38) dX11_classes_37 rfl rfl rfl ?_
        refine ex_iconst (v := (-1)) (pc' := 39) dX11_classes_38 ic_m1 rfl ?_
        obtain ⟨r10, hq11, hf⟩ := of_bnd1 hf
        refine ex_callV_i (rm' := rmX11_nextClass) (st := []) (pc' := 42) [.int (-1)] dX11_classes_39 cl_X11_228 (k_X11_nextClass G hO hq11) rfl (sh11_k hO) ⟨_, _, rfl⟩ rfl rfl (ROOM_of rfl) (Nat.le_of_ble_eq_true rfl) rfl rfl ?_
        refine ex_istore (lv' := [(4, .int r10), (0, .ref (gB G + 99)), (1, .int v1), (2, .int v2), (3, .int v3)]) (pc' := 44) dX11_classes_42 (Nat.le_of_ble_eq_true rfl) rfl rfl ?_
        refine ex_iconst (v := 0) (pc' := 45) dX11_classes_44 ic_0 rfl ?_
        refine ex_istore (lv' := [(5, .int 0), (4, .int r10), (0, .ref (gB G + 99)), (1, .int v1), (2, .int v2), (3, .int v3)]) (pc' := 47) dX11_classes_45 (Nat.le_of_ble_eq_true rfl) rfl rfl ?_
        refine ex_iconst (v := 0) (pc' := 48) dX11_classes_47 ic_0 rfl ?_
        refine ex_istore (lv' := [(6, .int 0), (5, .int 0), (4, .int r10), (0, .ref (gB G + 99)), (1, .int v1), (2, .int v2), (3, .int v3)]) (pc' := 50) dX11_classes_48 (Nat.le_of_ble_eq_true rfl) rfl rfl ?_
        refine ex_sub (lv' := [(0, .ref (gB G + 99)), (2, .int v2), (3, .int v3), (4, .int r10), (5, .int 0), (6, .int 0)]) [3, 5, 6, 2, 1, 0] rfl ?_
        rcases of_bns2 hf with ⟨x25, x26, hq27, hf⟩ | ⟨q30, hq27, hf⟩
        · refine k_X11_classes_l50 hO (fun x25' x26' he => ?_) (fun _ _ he => by cases he) _ _ _ _ hq27
          cases he
          refine ex_iload_n 0 (pc' := 125) dX11_classes_124 rfl rfl rfl ?_
          refine ex_iflt (tgt := 133) (pc' := 128) dX11_classes_125 (by decide) rfl (fun hc28 => ?_) (fun hc28 => ?_)
          · replace hf := if_t hc28 hf
            refine ex_iload_n 1 (pc' := 134) dX11_classes_133 rfl rfl rfl ?_
            refine ex_ifne (tgt := 142) (pc' := 137) dX11_classes_134 (by decide) rfl (fun hc29 => ?_) (fun hc29 => ?_)
            · replace hf := if_t hc29 hf
              refine ex_iload 2 (pc' := 139) dX11_classes_137 rfl rfl ?_
              refine ex_goto (tgt := 144) dX11_classes_139 (by decide) ?_
              exact ex_iret dX11_classes_144 rfl (hR _ _ (Option.some.inj hf).symm)
            · replace hf := if_f hc29 hf
              refine ex_iload 3 (pc' := 144) dX11_classes_142 rfl rfl ?_
              exact ex_iret dX11_classes_144 rfl (hR _ _ (Option.some.inj hf).symm)
          · replace hf := if_f hc28 hf
            refine ex_bipush (v := (-5)) (pc' := 130) dX11_classes_128 bp_m5 rfl ?_
            refine ex_goto (tgt := 144) dX11_classes_130 (by decide) ?_
            exact ex_iret dX11_classes_144 rfl (hR _ _ (Option.some.inj hf).symm)
        · refine k_X11_classes_l50 hO (fun _ _ he => by cases he) (fun z0 z1 he => ?_) _ _ _ _ hq27
          refine hR _ _ ?_
          rw [← Option.some.inj hf]
          cases he
          rfl
set_option maxRecDepth 100000 in
set_option maxHeartbeats 4000000 in
theorem k_X11_classes (G : GX) {X : MX} (hO : shX11 X) {v1 : Int32} {v2 : Int32} {v3 : Int32}  {N : Nat} {I : MI} {L : ML} {z : Int32} {I' : MI} (hf : f_X11_classes N v1 v2 v3 I = some (z, I')) : Con G mX11_classes yX11_classes rmX11_classes (fun B => [.ref (B + 99), .int v1, .int v2, .int v3]) X I L (some (.int z)) X I' L :=
  Con.of (by decide) rfl (fun h => by cases h) (fun B => Nat.le_of_ble_eq_true rfl) (fun G => kb_X11_classes hO  hf (fun _ _ he => by cases he; rfl))
-- X11_clear ('RookWordsModel', 'clear', '()I')
def rmX11_clear : RM := ((1, 22, 0, 0), false, (some FieldType.int))
def f_X11_clear_b7 (N : Nat) (v1 : Int32) (v2 : Int32) (L : ML) : Option ((Int32 × ML) ⊕ (ML)) := (if v2 < 169 then if inb v2 169 then letv (upL L 102 (Int32.toNatClampNeg v2) 0) fun L5 => some (.inl (v2 + 1, L5)) else none else some (.inr L))
set_option maxRecDepth 100000 in
set_option maxHeartbeats 4000000 in
theorem k_X11_clear_b7 {G : GX} {Q : State → Prop} {X : MX} (hO : shX11 X) {v1 : Int32}  {v2 : Int32} {N : Nat} {I : MI} {L : ML} {out : (Int32 × ML) ⊕ (ML)} (hf : f_X11_clear_b7 N v1 v2 L = some out) (hC : ∀ (v2' : Int32) (L' : ML), out = .inl (v2', L') → Ex G mX11_clear rmX11_clear Q (0, 0) X I L' 7 [(0, .ref (gB G + 99)), (1, .int v1), (2, .int v2')] []) (hX : ∀ (L' : ML), out = .inr L' → Ex G mX11_clear rmX11_clear Q (0, 0) X I L' 27 [(1, .int v1)] []) : Ex G mX11_clear rmX11_clear Q (0, 0) X I L 7 [(0, .ref (gB G + 99)), (1, .int v1), (2, .int v2)] [] := by
  unfold f_X11_clear_b7 at hf
  refine ex_iload_n 2 (pc' := 8) dX11_clear_7 rfl rfl rfl ?_
  refine ex_sipush (v := 169) (pc' := 11) dX11_clear_8 sp_169 rfl ?_
  refine ex_icmpge (tgt := 27) (pc' := 14) dX11_clear_11 (by decide) rfl (fun hc3 => ?_) (fun hc3 => ?_)
  · replace hf := if_t hc3 hf
    refine ex_aload_n 0 (pc' := 15) dX11_clear_14 rfl rfl rfl ?_
    refine ex_getR (pc' := 18) dX11_clear_15 fl_X11_18 rfl (sh11_k hO) (sh11_F2 hO) rfl ?_
    refine ex_iload_n 2 (pc' := 19) dX11_clear_18 rfl rfl rfl ?_
    refine ex_lconst (v := 0) (pc' := 20) dX11_clear_19 lc_0 rfl ?_
    obtain ⟨hg4, hf⟩ := of_guard hf
    refine ex_last (pc' := 21) dX11_clear_20 (sh11_T2 hO) (inb_in hg4) rfl ?_
    obtain ⟨L5, hL5, hf⟩ := of_let hf
    rw [← hL5]
    refine ex_iincc (lv' := [(2, .int (v2 + 1)), (0, .ref (gB G + 99)), (1, .int v1)]) 2 (pc' := 24) dX11_clear_21 rfl ic_1 (Nat.le_of_ble_eq_true rfl) rfl rfl ?_
    refine ex_goto (tgt := 7) dX11_clear_24 (by decide) ?_
    exact ex_sub [1, 2, 0] rfl (hC _ _ (Option.some.inj hf).symm)
  · replace hf := if_f hc3 hf
    exact ex_sub [1] rfl (hX _ (Option.some.inj hf).symm)
def f_X11_clear_l7 (N : Nat) (v1 : Int32) (v2 : Int32) (L : ML) : Option (ML) := loopN (fun s => f_X11_clear_b7 N v1 s.1 s.2) N (v2, L)
set_option maxRecDepth 100000 in
set_option maxHeartbeats 4000000 in
theorem k_X11_clear_l7 {G : GX} {Q : State → Prop} {X : MX} (hO : shX11 X) {v1 : Int32}  {N0 : Nat} {I : MI} {out : (ML)} (hX : ∀ (L' : ML), out = L' → Ex G mX11_clear rmX11_clear Q (0, 0) X I L' 27 [(1, .int v1)] []) : ∀ (N : Nat) (v2 : Int32) (L : ML), loopN (fun s => f_X11_clear_b7 N0 v1 s.1 s.2) N (v2, L) = some out → Ex G mX11_clear rmX11_clear Q (0, 0) X I L 7 [(0, .ref (gB G + 99)), (1, .int v1), (2, .int v2)] [] := by
  intro N
  induction N with
  | zero => intro v2 L hf; exact absurd (loopN_zero hf) id
  | succ n ih =>
    intro v2 L hf
    rcases loopN_succ hf with ⟨s, hb, hl⟩ | hb
    · obtain ⟨v2', L'⟩ := s
      refine k_X11_clear_b7 hO  hb (fun _ _ he => ?_) (fun _ he => by cases he)
      cases he
      exact ih v2' L' hl
    · exact k_X11_clear_b7 hO  hb (fun _ _ he => by cases he) (fun x0 he => hX x0 (Sum.inr.inj he))
def f_X11_clear (N : Nat)  (L : ML) : Option (Int32 × ML) := bnd1 (f_X11_numbersMany N L) fun r1 => bnd1 (f_X11_clear_l7 N r1 0 L) fun L6 => some (r1, L6)
set_option maxRecDepth 100000 in
set_option maxHeartbeats 4000000 in
theorem kb_X11_clear {G : GX} {Q : State → Prop} {X : MX} (hO : shX11 X)   {N : Nat} {I : MI} {L : ML} {out : Int32 × ML} (hf : f_X11_clear N L = some out) (hR : ∀ (z : Int32) (L' : ML), out = (z, L') → Q = RetQ G (some (.int z)) X I L' (0, 0)) : Ex G mX11_clear rmX11_clear Q (0, 0) X I L 0 [(0, .ref (gB G + 99))] [] := by
  unfold f_X11_clear at hf
  refine ex_aload_n 0 (pc' := 1) dX11_clear_0 rfl rfl rfl ?_
  obtain ⟨r1, hq2, hf⟩ := of_bnd1 hf
  refine ex_callV_i (rm' := rmX11_numbersMany) (st := []) (pc' := 4) [] dX11_clear_1 cl_X11_155 (k_X11_numbersMany G hO hq2) rfl (sh11_k hO) ⟨_, _, rfl⟩ rfl rfl (ROOM_of rfl) (Nat.le_of_ble_eq_true rfl) rfl rfl ?_
  refine ex_istore_n (lv' := [(1, .int r1), (0, .ref (gB G + 99))]) (pc' := 5) dX11_clear_4 rfl (Nat.le_of_ble_eq_true rfl) rfl rfl ?_
  refine ex_iconst (v := 0) (pc' := 6) dX11_clear_5 ic_0 rfl ?_
  refine ex_istore_n (lv' := [(2, .int 0), (1, .int r1), (0, .ref (gB G + 99))]) (pc' := 7) dX11_clear_6 rfl (Nat.le_of_ble_eq_true rfl) rfl rfl ?_
  refine ex_sub (lv' := [(0, .ref (gB G + 99)), (1, .int r1), (2, .int 0)]) [2, 1, 0] rfl ?_
  obtain ⟨L6, hq7, hf⟩ := of_bnd1 hf
  refine k_X11_clear_l7 hO (fun L6' he => ?_) _ _ _ hq7
  cases he
  refine ex_iload_n 0 (pc' := 28) dX11_clear_27 rfl rfl rfl ?_
  exact ex_iret dX11_clear_28 rfl (hR _ _ (Option.some.inj hf).symm)
set_option maxRecDepth 100000 in
set_option maxHeartbeats 4000000 in
theorem k_X11_clear (G : GX) {X : MX} (hO : shX11 X)   {N : Nat} {I : MI} {L : ML} {z : Int32} {L' : ML} (hf : f_X11_clear N L = some (z, L')) : Con G mX11_clear yX11_clear rmX11_clear (fun B => [.ref (B + 99)]) X I L (some (.int z)) X I L' :=
  Con.of (by decide) rfl (fun h => by cases h) (fun B => Nat.le_of_ble_eq_true rfl) (fun G => kb_X11_clear hO  hf (fun _ _ he => by cases he; rfl))
-- X11_comes ('RookWordsModel', 'comes', '(III)V')
def rmX11_comes : RM := ((0, 0, 0, 0), false, none)
def f_X11_comes_b3 (N : Nat) (v1 : Int32) (v2 : Int32) (v3 : Int32) (v4 : Int32) (I : MI) : Option ((Int32 × MI) ⊕ (MI)) := (if v4 < v3 then if inb v1 6 then if inb ((12 * v1) + (I 100 (Int32.toNatClampNeg v1))) 72 then letv (upI I 101 (Int32.toNatClampNeg ((12 * v1) + (I 100 (Int32.toNatClampNeg v1)))) v2) fun I4 => if inb v1 6 then if inb v1 6 then letv (upI I4 100 (Int32.toNatClampNeg v1) ((I4 100 (Int32.toNatClampNeg v1)) + 1)) fun I7 => some (.inl (v4 + 1, I7)) else none else none else none else none else some (.inr I))
set_option maxRecDepth 100000 in
set_option maxHeartbeats 4000000 in
theorem k_X11_comes_b3 {G : GX} {Q : State → Prop} {X : MX} (hO : shX11 X) {v1 : Int32} {v2 : Int32} {v3 : Int32}  {v4 : Int32} {N : Nat} {I : MI} {L : ML} {out : (Int32 × MI) ⊕ (MI)} (hf : f_X11_comes_b3 N v1 v2 v3 v4 I = some out) (hC : ∀ (v4' : Int32) (I' : MI), out = .inl (v4', I') → Ex G mX11_comes rmX11_comes Q (0, 0) X I' L 3 [(0, .ref (gB G + 99)), (1, .int v1), (2, .int v2), (3, .int v3), (4, .int v4')] []) (hX : ∀ (I' : MI), out = .inr I' → Ex G mX11_comes rmX11_comes Q (0, 0) X I' L 42 [] []) : Ex G mX11_comes rmX11_comes Q (0, 0) X I L 3 [(0, .ref (gB G + 99)), (1, .int v1), (2, .int v2), (3, .int v3), (4, .int v4)] [] := by
  unfold f_X11_comes_b3 at hf
  refine ex_iload 4 (pc' := 5) dX11_comes_3 rfl rfl ?_
  refine ex_iload_n 3 (pc' := 6) dX11_comes_5 rfl rfl rfl ?_
  refine ex_icmpge (tgt := 42) (pc' := 9) dX11_comes_6 (by decide) rfl (fun hc1 => ?_) (fun hc1 => ?_)
  · replace hf := if_t hc1 hf
    refine ex_aload_n 0 (pc' := 10) dX11_comes_9 rfl rfl rfl ?_
    refine ex_getR (pc' := 13) dX11_comes_10 fl_X11_15 rfl (sh11_k hO) (sh11_F1 hO) rfl ?_
    refine ex_bipush (v := 12) (pc' := 15) dX11_comes_13 bp_12 rfl ?_
    refine ex_iload_n 1 (pc' := 16) dX11_comes_15 rfl rfl rfl ?_
    refine ex_imul (pc' := 17) dX11_comes_16 rfl ?_
    refine ex_aload_n 0 (pc' := 18) dX11_comes_17 rfl rfl rfl ?_
    refine ex_getR (pc' := 21) dX11_comes_18 fl_X11_9 rfl (sh11_k hO) (sh11_F0 hO) rfl ?_
    refine ex_iload_n 1 (pc' := 22) dX11_comes_21 rfl rfl rfl ?_
    obtain ⟨hg2, hf⟩ := of_guard hf
    refine ex_iald (pc' := 23) dX11_comes_22 (sh11_T0 hO) (inb_in hg2) rfl ?_
    refine ex_iadd (pc' := 24) dX11_comes_23 rfl ?_
    refine ex_iload_n 2 (pc' := 25) dX11_comes_24 rfl rfl rfl ?_
    obtain ⟨hg3, hf⟩ := of_guard hf
    refine ex_iast (pc' := 26) dX11_comes_25 (sh11_T1 hO) (inb_in hg3) rfl ?_
    obtain ⟨I4, hI4, hf⟩ := of_let hf
    rw [← hI4]
    refine ex_aload_n 0 (pc' := 27) dX11_comes_26 rfl rfl rfl ?_
    refine ex_getR (pc' := 30) dX11_comes_27 fl_X11_9 rfl (sh11_k hO) (sh11_F0 hO) rfl ?_
    refine ex_iload_n 1 (pc' := 31) dX11_comes_30 rfl rfl rfl ?_
    refine ex_dup2 (pc' := 32) dX11_comes_31 rfl rfl rfl ?_
    obtain ⟨hg5, hf⟩ := of_guard hf
    refine ex_iald (pc' := 33) dX11_comes_32 (sh11_T0 hO) (inb_in hg5) rfl ?_
    refine ex_iconst (v := 1) (pc' := 34) dX11_comes_33 ic_1 rfl ?_
    refine ex_iadd (pc' := 35) dX11_comes_34 rfl ?_
    obtain ⟨hg6, hf⟩ := of_guard hf
    refine ex_iast (pc' := 36) dX11_comes_35 (sh11_T0 hO) (inb_in hg6) rfl ?_
    obtain ⟨I7, hI7, hf⟩ := of_let hf
    rw [← hI7]
    refine ex_iincc (lv' := [(4, .int (v4 + 1)), (0, .ref (gB G + 99)), (1, .int v1), (2, .int v2), (3, .int v3)]) 4 (pc' := 39) dX11_comes_36 rfl ic_1 (Nat.le_of_ble_eq_true rfl) rfl rfl ?_
    refine ex_goto (tgt := 3) dX11_comes_39 (by decide) ?_
    exact ex_sub [1, 2, 3, 4, 0] rfl (hC _ _ (Option.some.inj hf).symm)
  · replace hf := if_f hc1 hf
    exact ex_sub [] rfl (hX _ (Option.some.inj hf).symm)
def f_X11_comes_l3 (N : Nat) (v1 : Int32) (v2 : Int32) (v3 : Int32) (v4 : Int32) (I : MI) : Option (MI) := loopN (fun s => f_X11_comes_b3 N v1 v2 v3 s.1 s.2) N (v4, I)
set_option maxRecDepth 100000 in
set_option maxHeartbeats 4000000 in
theorem k_X11_comes_l3 {G : GX} {Q : State → Prop} {X : MX} (hO : shX11 X) {v1 : Int32} {v2 : Int32} {v3 : Int32}  {N0 : Nat} {L : ML} {out : (MI)} (hX : ∀ (I' : MI), out = I' → Ex G mX11_comes rmX11_comes Q (0, 0) X I' L 42 [] []) : ∀ (N : Nat) (v4 : Int32) (I : MI), loopN (fun s => f_X11_comes_b3 N0 v1 v2 v3 s.1 s.2) N (v4, I) = some out → Ex G mX11_comes rmX11_comes Q (0, 0) X I L 3 [(0, .ref (gB G + 99)), (1, .int v1), (2, .int v2), (3, .int v3), (4, .int v4)] [] := by
  intro N
  induction N with
  | zero => intro v4 I hf; exact absurd (loopN_zero hf) id
  | succ n ih =>
    intro v4 I hf
    rcases loopN_succ hf with ⟨s, hb, hl⟩ | hb
    · obtain ⟨v4', I'⟩ := s
      refine k_X11_comes_b3 hO  hb (fun _ _ he => ?_) (fun _ he => by cases he)
      cases he
      exact ih v4' I' hl
    · exact k_X11_comes_b3 hO  hb (fun _ _ he => by cases he) (fun x0 he => hX x0 (Sum.inr.inj he))
def f_X11_comes (N : Nat) (v1 : Int32) (v2 : Int32) (v3 : Int32) (I : MI) : Option (MI) := bnd1 (f_X11_comes_l3 N v1 v2 v3 0 I) fun I8 => some I8
set_option maxRecDepth 100000 in
set_option maxHeartbeats 4000000 in
theorem kb_X11_comes {G : GX} {Q : State → Prop} {X : MX} (hO : shX11 X) {v1 : Int32} {v2 : Int32} {v3 : Int32}  {N : Nat} {I : MI} {L : ML} {out : MI} (hf : f_X11_comes N v1 v2 v3 I = some out) (hR : ∀ (I' : MI), out = I' → Q = RetQ G none X I' L (0, 0)) : Ex G mX11_comes rmX11_comes Q (0, 0) X I L 0 [(0, .ref (gB G + 99)), (1, .int v1), (2, .int v2), (3, .int v3)] [] := by
  unfold f_X11_comes at hf
  refine ex_iconst (v := 0) (pc' := 1) dX11_comes_0 ic_0 rfl ?_
  refine ex_istore (lv' := [(4, .int 0), (0, .ref (gB G + 99)), (1, .int v1), (2, .int v2), (3, .int v3)]) (pc' := 3) dX11_comes_1 (Nat.le_of_ble_eq_true rfl) rfl rfl ?_
  refine ex_sub (lv' := [(0, .ref (gB G + 99)), (1, .int v1), (2, .int v2), (3, .int v3), (4, .int 0)]) [1, 2, 3, 4, 0] rfl ?_
  obtain ⟨I8, hq9, hf⟩ := of_bnd1 hf
  refine k_X11_comes_l3 hO (fun I8' he => ?_) _ _ _ hq9
  cases he
  exact ex_vret dX11_comes_42 rfl (hR _ (Option.some.inj hf).symm)
set_option maxRecDepth 100000 in
set_option maxHeartbeats 4000000 in
theorem k_X11_comes (G : GX) {X : MX} (hO : shX11 X) {v1 : Int32} {v2 : Int32} {v3 : Int32}  {N : Nat} {I : MI} {L : ML} {I' : MI} (hf : f_X11_comes N v1 v2 v3 I = some I') : Con G mX11_comes yX11_comes rmX11_comes (fun B => [.ref (B + 99), .int v1, .int v2, .int v3]) X I L none X I' L :=
  Con.of (by decide) rfl (fun h => by cases h) (fun B => Nat.le_of_ble_eq_true rfl) (fun G => kb_X11_comes hO  hf (fun _ he => by cases he; rfl))
-- X11_common ('RookWordsModel', 'common', '(JJ)J')
def rmX11_common : RM := ((0, 0, 0, 0), false, (some FieldType.long))
def f_X11_common_b6 (N : Nat)  (v4 : Int64) (v6 : Int64) : Option ((Int64 × Int64) ⊕ (Int64)) := (if v6 = 0 then some (.inr v4) else if v6 = 0 then none else some (.inl (v6, jremL v4 v6)))
set_option maxRecDepth 100000 in
set_option maxHeartbeats 4000000 in
theorem k_X11_common_b6 {G : GX} {Q : State → Prop} {X : MX}   {v4 : Int64} {v6 : Int64} {N : Nat} {I : MI} {L : ML} {out : (Int64 × Int64) ⊕ (Int64)} (hf : f_X11_common_b6 N v4 v6 = some out) (hC : ∀ (v4' : Int64) (v6' : Int64), out = .inl (v4', v6') → Ex G mX11_common rmX11_common Q (0, 0) X I L 6 [(4, .long v4'), (6, .long v6')] []) (hX : ∀ (w4 : Int64), out = .inr w4 → Ex G mX11_common rmX11_common Q (0, 0) X I L 31 [(4, .long w4)] []) : Ex G mX11_common rmX11_common Q (0, 0) X I L 6 [(4, .long v4), (6, .long v6)] [] := by
  unfold f_X11_common_b6 at hf
  refine ex_lload 1 (pc' := 8) dX11_common_6 rfl rfl ?_
  refine ex_lconst (v := 0) (pc' := 9) dX11_common_8 lc_0 rfl ?_
  refine ex_lcmp (pc' := 10) dX11_common_9 rfl ?_
  refine ex_lifeq (tgt := 31) (pc' := 13) dX11_common_10 (by decide) rfl (fun hc1 => ?_) (fun hc1 => ?_)
  · replace hf := if_t hc1 hf
    exact ex_sub [0] rfl (hX _ (Option.some.inj hf).symm)
  · replace hf := if_f hc1 hf
    refine ex_lload 0 (pc' := 15) dX11_common_13 rfl rfl ?_
    refine ex_lload 1 (pc' := 17) dX11_common_15 rfl rfl ?_
    obtain ⟨hg2, hf⟩ := of_guardN hf
    refine ex_lrem (pc' := 18) dX11_common_17 hg2 rfl ?_
    refine ex_lstore (lv' := [(8, .long (jremL v4 v6)), (4, .long v4), (6, .long v6)]) (pc' := 20) dX11_common_18 (Nat.le_of_ble_eq_true rfl) rfl rfl ?_
    refine ex_lload 2 (pc' := 22) dX11_common_20 rfl rfl ?_
    refine ex_lstore (lv' := [(4, .long v6), (8, .long (jremL v4 v6)), (6, .long v6)]) (pc' := 24) dX11_common_22 (Nat.le_of_ble_eq_true rfl) rfl rfl ?_
    refine ex_lload 1 (pc' := 26) dX11_common_24 rfl rfl ?_
    refine ex_lstore (lv' := [(6, .long (jremL v4 v6)), (4, .long v6), (8, .long (jremL v4 v6))]) (pc' := 28) dX11_common_26 (Nat.le_of_ble_eq_true rfl) rfl rfl ?_
    refine ex_goto (tgt := 6) dX11_common_28 (by decide) ?_
    exact ex_sub [1, 0] rfl (hC _ _ (Option.some.inj hf).symm)
def f_X11_common_l6 (N : Nat)  (v4 : Int64) (v6 : Int64) : Option (Int64) := loopN (fun s => f_X11_common_b6 N s.1 s.2) N (v4, v6)
set_option maxRecDepth 100000 in
set_option maxHeartbeats 4000000 in
theorem k_X11_common_l6 {G : GX} {Q : State → Prop} {X : MX}   {N0 : Nat} {I : MI} {L : ML} {out : (Int64)} (hX : ∀ (w4 : Int64), out = w4 → Ex G mX11_common rmX11_common Q (0, 0) X I L 31 [(4, .long w4)] []) : ∀ (N : Nat) (v4 : Int64) (v6 : Int64), loopN (fun s => f_X11_common_b6 N0 s.1 s.2) N (v4, v6) = some out → Ex G mX11_common rmX11_common Q (0, 0) X I L 6 [(4, .long v4), (6, .long v6)] [] := by
  intro N
  induction N with
  | zero => intro v4 v6 hf; exact absurd (loopN_zero hf) id
  | succ n ih =>
    intro v4 v6 hf
    rcases loopN_succ hf with ⟨s, hb, hl⟩ | hb
    · obtain ⟨v4', v6'⟩ := s
      refine k_X11_common_b6  hb (fun _ _ he => ?_) (fun _ he => by cases he)
      cases he
      exact ih v4' v6' hl
    · exact k_X11_common_b6  hb (fun _ _ he => by cases he) (fun x0 he => hX x0 (Sum.inr.inj he))
def f_X11_common (N : Nat) (v0 : Int64) (v2 : Int64) : Option (Int64) := bnd1 (f_X11_common_l6 N v0 v2) fun x3 => some x3
set_option maxRecDepth 100000 in
set_option maxHeartbeats 4000000 in
theorem kb_X11_common {G : GX} {Q : State → Prop} {X : MX} {v0 : Int64} {v2 : Int64}  {N : Nat} {I : MI} {L : ML} {out : Int64} (hf : f_X11_common N v0 v2 = some out) (hR : ∀ (z : Int64), out = z → Q = RetQ G (some (.long z)) X I L (0, 0)) : Ex G mX11_common rmX11_common Q (0, 0) X I L 0 [(0, .long v0), (2, .long v2)] [] := by
  unfold f_X11_common at hf
  refine ex_lload_n 0 (pc' := 1) dX11_common_0 rfl rfl rfl ?_
  refine ex_lstore (lv' := [(4, .long v0), (0, .long v0), (2, .long v2)]) (pc' := 3) dX11_common_1 (Nat.le_of_ble_eq_true rfl) rfl rfl ?_
  refine ex_lload_n 2 (pc' := 4) dX11_common_3 rfl rfl rfl ?_
  refine ex_lstore (lv' := [(6, .long v2), (4, .long v0), (0, .long v0), (2, .long v2)]) (pc' := 6) dX11_common_4 (Nat.le_of_ble_eq_true rfl) rfl rfl ?_
  refine ex_sub (lv' := [(4, .long v0), (6, .long v2)]) [1, 0] rfl ?_
  obtain ⟨x3, hq4, hf⟩ := of_bnd1 hf
  refine k_X11_common_l6 (fun x3' he => ?_) _ _ _ hq4
  cases he
  refine ex_lload 0 (pc' := 33) dX11_common_31 rfl rfl ?_
  exact ex_lret dX11_common_33 rfl (hR _ (Option.some.inj hf).symm)
set_option maxRecDepth 100000 in
set_option maxHeartbeats 4000000 in
theorem k_X11_common (G : GX) {X : MX} {v0 : Int64} {v2 : Int64}  {N : Nat} {I : MI} {L : ML} {z : Int64} (hf : f_X11_common N v0 v2 = some z) : Con G mX11_common yX11_common rmX11_common (fun B => [.long v0, .long v2]) X I L (some (.long z)) X I L :=
  Con.of (by decide) rfl (fun h => by cases h) (fun B => Nat.le_of_ble_eq_true rfl) (fun G => kb_X11_common  hf (fun _ he => by cases he; rfl))
theorem fl_X11_100 : FLD RX11 100 11 35 true := ⟨RX11, TX11, 51, rfl, inX11, by decide, lwg_at 969 (by decide +kernel) rfl, nmX11, tyX11_ok, rfl, rfl⟩
theorem fl_X11_103 : FLD RX11 103 11 36 true := ⟨RX11, TX11, 51, rfl, inX11, by decide, lwg_at 970 (by decide +kernel) rfl, nmX11, tyX11_ok, rfl, rfl⟩
-- X11_layCounts ('RookWordsModel', 'layCounts', '(I)V')
def rmX11_layCounts : RM := ((1, 23, 0, 0), false, none)
def f_X11_layCounts_b9 (N : Nat) (v1 : Int32) (v2 : Int32) (v3 : Int32) (I : MI) : Option ((Int32 × MI) ⊕ (MI)) := (if v3 < 64 then (if v3 = 0 then if inb v3 64 then letv (upI I 129 (Int32.toNatClampNeg v3) 1) fun I5 => some (.inl (v3 + 1, I5)) else none else if inb v3 64 then letv (upI I 129 (Int32.toNatClampNeg v3) 0) fun I7 => some (.inl (v3 + 1, I7)) else none) else some (.inr I))
set_option maxRecDepth 100000 in
set_option maxHeartbeats 4000000 in
theorem k_X11_layCounts_b9 {G : GX} {Q : State → Prop} {X : MX} (hO : shX11 X) {v1 : Int32} {v2 : Int32}  {v3 : Int32} {N : Nat} {I : MI} {L : ML} {out : (Int32 × MI) ⊕ (MI)} (hf : f_X11_layCounts_b9 N v1 v2 v3 I = some out) (hC : ∀ (v3' : Int32) (I' : MI), out = .inl (v3', I') → Ex G mX11_layCounts rmX11_layCounts Q (0, 0) X I' L 9 [(0, .ref (gB G + 99)), (1, .int v1), (2, .int v2), (3, .int v3')] []) (hX : ∀ (I' : MI), out = .inr I' → Ex G mX11_layCounts rmX11_layCounts Q (0, 0) X I' L 36 [(0, .ref (gB G + 99)), (1, .int v1), (2, .int v2)] []) : Ex G mX11_layCounts rmX11_layCounts Q (0, 0) X I L 9 [(0, .ref (gB G + 99)), (1, .int v1), (2, .int v2), (3, .int v3)] [] := by
  unfold f_X11_layCounts_b9 at hf
  refine ex_iload_n 3 (pc' := 10) dX11_layCounts_9 rfl rfl rfl ?_
  refine ex_bipush (v := 64) (pc' := 12) dX11_layCounts_10 bp_64 rfl ?_
  refine ex_icmpge (tgt := 36) (pc' := 15) dX11_layCounts_12 (by decide) rfl (fun hc2 => ?_) (fun hc2 => ?_)
  · replace hf := if_t hc2 hf
    refine ex_aload_n 0 (pc' := 16) dX11_layCounts_15 rfl rfl rfl ?_
    refine ex_getR (pc' := 19) dX11_layCounts_16 fl_X11_100 rfl (sh11_k hO) (sh11_F35 hO) rfl ?_
    refine ex_iload_n 3 (pc' := 20) dX11_layCounts_19 rfl rfl rfl ?_
    refine ex_iload_n 3 (pc' := 21) dX11_layCounts_20 rfl rfl rfl ?_
    refine ex_ifne (tgt := 28) (pc' := 24) dX11_layCounts_21 (by decide) rfl (fun hc3 => ?_) (fun hc3 => ?_)
    · replace hf := if_t hc3 hf
      refine ex_iconst (v := 1) (pc' := 25) dX11_layCounts_24 ic_1 rfl ?_
      refine ex_goto (tgt := 29) dX11_layCounts_25 (by decide) ?_
      obtain ⟨hg4, hf⟩ := of_guard hf
      refine ex_iast (pc' := 30) dX11_layCounts_29 (sh11_T35 hO) (inb_in hg4) rfl ?_
      obtain ⟨I5, hI5, hf⟩ := of_let hf
      rw [← hI5]
      refine ex_iincc (lv' := [(3, .int (v3 + 1)), (0, .ref (gB G + 99)), (1, .int v1), (2, .int v2)]) 3 (pc' := 33) dX11_layCounts_30 rfl ic_1 (Nat.le_of_ble_eq_true rfl) rfl rfl ?_
      refine ex_goto (tgt := 9) dX11_layCounts_33 (by decide) ?_
      exact ex_sub [1, 2, 3, 0] rfl (hC _ _ (Option.some.inj hf).symm)
    · replace hf := if_f hc3 hf
      refine ex_iconst (v := 0) (pc' := 29) dX11_layCounts_28 ic_0 rfl ?_
      obtain ⟨hg6, hf⟩ := of_guard hf
      refine ex_iast (pc' := 30) dX11_layCounts_29 (sh11_T35 hO) (inb_in hg6) rfl ?_
      obtain ⟨I7, hI7, hf⟩ := of_let hf
      rw [← hI7]
      refine ex_iincc (lv' := [(3, .int (v3 + 1)), (0, .ref (gB G + 99)), (1, .int v1), (2, .int v2)]) 3 (pc' := 33) dX11_layCounts_30 rfl ic_1 (Nat.le_of_ble_eq_true rfl) rfl rfl ?_
      refine ex_goto (tgt := 9) dX11_layCounts_33 (by decide) ?_
      exact ex_sub [1, 2, 3, 0] rfl (hC _ _ (Option.some.inj hf).symm)
  · replace hf := if_f hc2 hf
    exact ex_sub [0, 1, 2] rfl (hX _ (Option.some.inj hf).symm)
def f_X11_layCounts_l9 (N : Nat) (v1 : Int32) (v2 : Int32) (v3 : Int32) (I : MI) : Option (MI) := loopN (fun s => f_X11_layCounts_b9 N v1 v2 s.1 s.2) N (v3, I)
set_option maxRecDepth 100000 in
set_option maxHeartbeats 4000000 in
theorem k_X11_layCounts_l9 {G : GX} {Q : State → Prop} {X : MX} (hO : shX11 X) {v1 : Int32} {v2 : Int32}  {N0 : Nat} {L : ML} {out : (MI)} (hX : ∀ (I' : MI), out = I' → Ex G mX11_layCounts rmX11_layCounts Q (0, 0) X I' L 36 [(0, .ref (gB G + 99)), (1, .int v1), (2, .int v2)] []) : ∀ (N : Nat) (v3 : Int32) (I : MI), loopN (fun s => f_X11_layCounts_b9 N0 v1 v2 s.1 s.2) N (v3, I) = some out → Ex G mX11_layCounts rmX11_layCounts Q (0, 0) X I L 9 [(0, .ref (gB G + 99)), (1, .int v1), (2, .int v2), (3, .int v3)] [] := by
  intro N
  induction N with
  | zero => intro v3 I hf; exact absurd (loopN_zero hf) id
  | succ n ih =>
    intro v3 I hf
    rcases loopN_succ hf with ⟨s, hb, hl⟩ | hb
    · obtain ⟨v3', I'⟩ := s
      refine k_X11_layCounts_b9 hO  hb (fun _ _ he => ?_) (fun _ he => by cases he)
      cases he
      exact ih v3' I' hl
    · exact k_X11_layCounts_b9 hO  hb (fun _ _ he => by cases he) (fun x0 he => hX x0 (Sum.inr.inj he))
def f_X11_layCounts_b58 (N : Nat) (v1 : Int32) (v2 : Int32) (v3 : Int32) (v4 : Int32) (v5 : Int32) (I : MI) : Option ((Int32 × MI) ⊕ (MI)) := (if v5 < v2 then (if ((jshr v4 v5) &&& 1) = 1 then bnd1 (f_X11_has v1 v3 v5 I) fun r14 => (if r14 = 0 then some (.inl (v5 + 1, I)) else if inb v4 64 then if inb (v4 &&& ((jshl 1 v5) ^^^ (-1))) 64 then if inb v4 64 then letv (upI I 129 (Int32.toNatClampNeg v4) ((I 129 (Int32.toNatClampNeg v4)) + (I 129 (Int32.toNatClampNeg (v4 &&& ((jshl 1 v5) ^^^ (-1))))))) fun I20 => some (.inl (v5 + 1, I20)) else none else none else none) else some (.inl (v5 + 1, I))) else some (.inr I))
set_option maxRecDepth 100000 in
set_option maxHeartbeats 4000000 in
theorem k_X11_layCounts_b58 {G : GX} {Q : State → Prop} {X : MX} (hO : shX11 X) {v1 : Int32} {v2 : Int32} {v3 : Int32} {v4 : Int32}  {v5 : Int32} {N : Nat} {I : MI} {L : ML} {out : (Int32 × MI) ⊕ (MI)} (hf : f_X11_layCounts_b58 N v1 v2 v3 v4 v5 I = some out) (hC : ∀ (v5' : Int32) (I' : MI), out = .inl (v5', I') → Ex G mX11_layCounts rmX11_layCounts Q (0, 0) X I' L 58 [(0, .ref (gB G + 99)), (1, .int v1), (2, .int v2), (3, .int v3), (4, .int v4), (5, .int v5')] []) (hX : ∀ (I' : MI), out = .inr I' → Ex G mX11_layCounts rmX11_layCounts Q (0, 0) X I' L 116 [(0, .ref (gB G + 99)), (1, .int v1), (2, .int v2), (3, .int v3), (4, .int v4)] []) : Ex G mX11_layCounts rmX11_layCounts Q (0, 0) X I L 58 [(0, .ref (gB G + 99)), (1, .int v1), (2, .int v2), (3, .int v3), (4, .int v4), (5, .int v5)] [] := by
  unfold f_X11_layCounts_b58 at hf
  refine ex_iload 5 (pc' := 60) dX11_layCounts_58 rfl rfl ?_
  refine ex_iload_n 2 (pc' := 61) dX11_layCounts_60 rfl rfl rfl ?_
  refine ex_icmpge (tgt := 116) (pc' := 64) dX11_layCounts_61 (by decide) rfl (fun hc12 => ?_) (fun hc12 => ?_)
  · replace hf := if_t hc12 hf
    refine ex_iload 4 (pc' := 66) dX11_layCounts_64 rfl rfl ?_
    refine ex_iload 5 (pc' := 68) dX11_layCounts_66 rfl rfl ?_
    refine ex_ishr (pc' := 69) dX11_layCounts_68 rfl ?_
    refine ex_iconst (v := 1) (pc' := 70) dX11_layCounts_69 ic_1 rfl ?_
    refine ex_iand (pc' := 71) dX11_layCounts_70 rfl ?_
    refine ex_iconst (v := 1) (pc' := 72) dX11_layCounts_71 ic_1 rfl ?_
    refine ex_icmpne (tgt := 110) (pc' := 75) dX11_layCounts_72 (by decide) rfl (fun hc13 => ?_) (fun hc13 => ?_)
    · replace hf := if_t hc13 hf
      refine ex_aload_n 0 (pc' := 76) dX11_layCounts_75 rfl rfl rfl ?_
      refine ex_iload_n 1 (pc' := 77) dX11_layCounts_76 rfl rfl rfl ?_
      refine ex_iload_n 3 (pc' := 78) dX11_layCounts_77 rfl rfl rfl ?_
      refine ex_iload 5 (pc' := 80) dX11_layCounts_78 rfl rfl ?_
      obtain ⟨r14, hq15, hf⟩ := of_bnd1 hf
      refine ex_callV_i (rm' := rmX11_has) (st := []) (pc' := 83) [.int v1, .int v3, .int v5] dX11_layCounts_80 cl_X11_189 (k_X11_has G hO hq15) rfl (sh11_k hO) ⟨_, _, rfl⟩ rfl rfl (ROOM_of rfl) (Nat.le_of_ble_eq_true rfl) rfl rfl ?_
      refine ex_ifeq (tgt := 110) (pc' := 86) dX11_layCounts_83 (by decide) rfl (fun hc16 => ?_) (fun hc16 => ?_)
      · replace hf := if_t hc16 hf
        refine ex_iincc (lv' := [(5, .int (v5 + 1)), (0, .ref (gB G + 99)), (1, .int v1), (2, .int v2), (3, .int v3), (4, .int v4)]) 5 (pc' := 113) dX11_layCounts_110 rfl ic_1 (Nat.le_of_ble_eq_true rfl) rfl rfl ?_
        refine ex_goto (tgt := 58) dX11_layCounts_113 (by decide) ?_
        exact ex_sub [1, 2, 3, 4, 5, 0] rfl (hC _ _ (Option.some.inj hf).symm)
      · replace hf := if_f hc16 hf
        refine ex_aload_n 0 (pc' := 87) dX11_layCounts_86 rfl rfl rfl ?_
        refine ex_getR (pc' := 90) dX11_layCounts_87 fl_X11_100 rfl (sh11_k hO) (sh11_F35 hO) rfl ?_
        refine ex_iload 4 (pc' := 92) dX11_layCounts_90 rfl rfl ?_
        refine ex_dup2 (pc' := 93) dX11_layCounts_92 rfl rfl rfl ?_
        obtain ⟨hg17, hf⟩ := of_guard hf
        refine ex_iald (pc' := 94) dX11_layCounts_93 (sh11_T35 hO) (inb_in hg17) rfl ?_
        refine ex_aload_n 0 (pc' := 95) dX11_layCounts_94 rfl rfl rfl ?_
        refine ex_getR (pc' := 98) dX11_layCounts_95 fl_X11_100 rfl (sh11_k hO) (sh11_F35 hO) rfl ?_
        refine ex_iload 4 (pc' := 100) dX11_layCounts_98 rfl rfl ?_
        refine ex_iconst (v := 1) (pc' := 101) dX11_layCounts_100 ic_1 rfl ?_
        refine ex_iload 5 (pc' := 103) dX11_layCounts_101 rfl rfl ?_
        refine ex_ishl (pc' := 104) dX11_layCounts_103 rfl ?_
        refine ex_iconst (v := (-1)) (pc' := 105) dX11_layCounts_104 ic_m1 rfl ?_
        refine ex_ixor (pc' := 106) dX11_layCounts_105 rfl ?_
        refine ex_iand (pc' := 107) dX11_layCounts_106 rfl ?_
        obtain ⟨hg18, hf⟩ := of_guard hf
        refine ex_iald (pc' := 108) dX11_layCounts_107 (sh11_T35 hO) (inb_in hg18) rfl ?_
        refine ex_iadd (pc' := 109) dX11_layCounts_108 rfl ?_
        obtain ⟨hg19, hf⟩ := of_guard hf
        refine ex_iast (pc' := 110) dX11_layCounts_109 (sh11_T35 hO) (inb_in hg19) rfl ?_
        obtain ⟨I20, hI20, hf⟩ := of_let hf
        rw [← hI20]
        refine ex_iincc (lv' := [(5, .int (v5 + 1)), (0, .ref (gB G + 99)), (1, .int v1), (2, .int v2), (3, .int v3), (4, .int v4)]) 5 (pc' := 113) dX11_layCounts_110 rfl ic_1 (Nat.le_of_ble_eq_true rfl) rfl rfl ?_
        refine ex_goto (tgt := 58) dX11_layCounts_113 (by decide) ?_
        exact ex_sub [1, 2, 3, 4, 5, 0] rfl (hC _ _ (Option.some.inj hf).symm)
    · replace hf := if_f hc13 hf
      refine ex_iincc (lv' := [(5, .int (v5 + 1)), (0, .ref (gB G + 99)), (1, .int v1), (2, .int v2), (3, .int v3), (4, .int v4)]) 5 (pc' := 113) dX11_layCounts_110 rfl ic_1 (Nat.le_of_ble_eq_true rfl) rfl rfl ?_
      refine ex_goto (tgt := 58) dX11_layCounts_113 (by decide) ?_
      exact ex_sub [1, 2, 3, 4, 5, 0] rfl (hC _ _ (Option.some.inj hf).symm)
  · replace hf := if_f hc12 hf
    exact ex_sub [0, 1, 2, 3, 4] rfl (hX _ (Option.some.inj hf).symm)
def f_X11_layCounts_l58 (N : Nat) (v1 : Int32) (v2 : Int32) (v3 : Int32) (v4 : Int32) (v5 : Int32) (I : MI) : Option (MI) := loopN (fun s => f_X11_layCounts_b58 N v1 v2 v3 v4 s.1 s.2) N (v5, I)
set_option maxRecDepth 100000 in
set_option maxHeartbeats 4000000 in
theorem k_X11_layCounts_l58 {G : GX} {Q : State → Prop} {X : MX} (hO : shX11 X) {v1 : Int32} {v2 : Int32} {v3 : Int32} {v4 : Int32}  {N0 : Nat} {L : ML} {out : (MI)} (hX : ∀ (I' : MI), out = I' → Ex G mX11_layCounts rmX11_layCounts Q (0, 0) X I' L 116 [(0, .ref (gB G + 99)), (1, .int v1), (2, .int v2), (3, .int v3), (4, .int v4)] []) : ∀ (N : Nat) (v5 : Int32) (I : MI), loopN (fun s => f_X11_layCounts_b58 N0 v1 v2 v3 v4 s.1 s.2) N (v5, I) = some out → Ex G mX11_layCounts rmX11_layCounts Q (0, 0) X I L 58 [(0, .ref (gB G + 99)), (1, .int v1), (2, .int v2), (3, .int v3), (4, .int v4), (5, .int v5)] [] := by
  intro N
  induction N with
  | zero => intro v5 I hf; exact absurd (loopN_zero hf) id
  | succ n ih =>
    intro v5 I hf
    rcases loopN_succ hf with ⟨s, hb, hl⟩ | hb
    · obtain ⟨v5', I'⟩ := s
      refine k_X11_layCounts_b58 hO  hb (fun _ _ he => ?_) (fun _ he => by cases he)
      cases he
      exact ih v5' I' hl
    · exact k_X11_layCounts_b58 hO  hb (fun _ _ he => by cases he) (fun x0 he => hX x0 (Sum.inr.inj he))
def f_X11_layCounts_b50 (N : Nat) (v1 : Int32) (v2 : Int32) (v3 : Int32) (v4 : Int32) (I : MI) : Option ((Int32 × MI) ⊕ (MI)) := (if 0 < v4 then bnd1 (f_X11_layCounts_l58 N v1 v2 v3 v4 0 I) fun I21 => some (.inl (v4 + (-1), I21)) else some (.inr I))
set_option maxRecDepth 100000 in
set_option maxHeartbeats 4000000 in
theorem k_X11_layCounts_b50 {G : GX} {Q : State → Prop} {X : MX} (hO : shX11 X) {v1 : Int32} {v2 : Int32} {v3 : Int32}  {v4 : Int32} {N : Nat} {I : MI} {L : ML} {out : (Int32 × MI) ⊕ (MI)} (hf : f_X11_layCounts_b50 N v1 v2 v3 v4 I = some out) (hC : ∀ (v4' : Int32) (I' : MI), out = .inl (v4', I') → Ex G mX11_layCounts rmX11_layCounts Q (0, 0) X I' L 50 [(0, .ref (gB G + 99)), (1, .int v1), (2, .int v2), (3, .int v3), (4, .int v4')] []) (hX : ∀ (I' : MI), out = .inr I' → Ex G mX11_layCounts rmX11_layCounts Q (0, 0) X I' L 122 [(0, .ref (gB G + 99)), (1, .int v1), (2, .int v2), (3, .int v3)] []) : Ex G mX11_layCounts rmX11_layCounts Q (0, 0) X I L 50 [(0, .ref (gB G + 99)), (1, .int v1), (2, .int v2), (3, .int v3), (4, .int v4)] [] := by
  unfold f_X11_layCounts_b50 at hf
  refine ex_iload 4 (pc' := 52) dX11_layCounts_50 rfl rfl ?_
  refine ex_ifle (tgt := 122) (pc' := 55) dX11_layCounts_52 (by decide) rfl (fun hc11 => ?_) (fun hc11 => ?_)
  · replace hf := if_t hc11 hf
    refine ex_iconst (v := 0) (pc' := 56) dX11_layCounts_55 ic_0 rfl ?_
    refine ex_istore (lv' := [(5, .int 0), (0, .ref (gB G + 99)), (1, .int v1), (2, .int v2), (3, .int v3), (4, .int v4)]) (pc' := 58) dX11_layCounts_56 (Nat.le_of_ble_eq_true rfl) rfl rfl ?_
    refine ex_sub (lv' := [(0, .ref (gB G + 99)), (1, .int v1), (2, .int v2), (3, .int v3), (4, .int v4), (5, .int 0)]) [1, 2, 3, 4, 5, 0] rfl ?_
    obtain ⟨I21, hq22, hf⟩ := of_bnd1 hf
    refine k_X11_layCounts_l58 hO (fun I21' he => ?_) _ _ _ hq22
    cases he
    refine ex_iincc (lv' := [(4, .int (v4 + (-1))), (0, .ref (gB G + 99)), (1, .int v1), (2, .int v2), (3, .int v3)]) 4 (pc' := 119) dX11_layCounts_116 rfl ic_m1 (Nat.le_of_ble_eq_true rfl) rfl rfl ?_
    refine ex_goto (tgt := 50) dX11_layCounts_119 (by decide) ?_
    exact ex_sub [1, 2, 3, 4, 0] rfl (hC _ _ (Option.some.inj hf).symm)
  · replace hf := if_f hc11 hf
    exact ex_sub [0, 1, 2, 3] rfl (hX _ (Option.some.inj hf).symm)
def f_X11_layCounts_l50 (N : Nat) (v1 : Int32) (v2 : Int32) (v3 : Int32) (v4 : Int32) (I : MI) : Option (MI) := loopN (fun s => f_X11_layCounts_b50 N v1 v2 v3 s.1 s.2) N (v4, I)
set_option maxRecDepth 100000 in
set_option maxHeartbeats 4000000 in
theorem k_X11_layCounts_l50 {G : GX} {Q : State → Prop} {X : MX} (hO : shX11 X) {v1 : Int32} {v2 : Int32} {v3 : Int32}  {N0 : Nat} {L : ML} {out : (MI)} (hX : ∀ (I' : MI), out = I' → Ex G mX11_layCounts rmX11_layCounts Q (0, 0) X I' L 122 [(0, .ref (gB G + 99)), (1, .int v1), (2, .int v2), (3, .int v3)] []) : ∀ (N : Nat) (v4 : Int32) (I : MI), loopN (fun s => f_X11_layCounts_b50 N0 v1 v2 v3 s.1 s.2) N (v4, I) = some out → Ex G mX11_layCounts rmX11_layCounts Q (0, 0) X I L 50 [(0, .ref (gB G + 99)), (1, .int v1), (2, .int v2), (3, .int v3), (4, .int v4)] [] := by
  intro N
  induction N with
  | zero => intro v4 I hf; exact absurd (loopN_zero hf) id
  | succ n ih =>
    intro v4 I hf
    rcases loopN_succ hf with ⟨s, hb, hl⟩ | hb
    · obtain ⟨v4', I'⟩ := s
      refine k_X11_layCounts_b50 hO  hb (fun _ _ he => ?_) (fun _ he => by cases he)
      cases he
      exact ih v4' I' hl
    · exact k_X11_layCounts_b50 hO  hb (fun _ _ he => by cases he) (fun x0 he => hX x0 (Sum.inr.inj he))
def f_X11_layCounts_b38 (N : Nat) (v1 : Int32) (v2 : Int32) (v3 : Int32) (I : MI) : Option ((Int32 × MI) ⊕ (MI)) := (if v3 < v2 then bnd1 (f_X11_layCounts_l50 N v1 v2 v3 ((jshl 1 v2) - 1) I) fun I23 => some (.inl (v3 + 1, I23)) else some (.inr I))
set_option maxRecDepth 100000 in
set_option maxHeartbeats 4000000 in
theorem k_X11_layCounts_b38 {G : GX} {Q : State → Prop} {X : MX} (hO : shX11 X) {v1 : Int32} {v2 : Int32}  {v3 : Int32} {N : Nat} {I : MI} {L : ML} {out : (Int32 × MI) ⊕ (MI)} (hf : f_X11_layCounts_b38 N v1 v2 v3 I = some out) (hC : ∀ (v3' : Int32) (I' : MI), out = .inl (v3', I') → Ex G mX11_layCounts rmX11_layCounts Q (0, 0) X I' L 38 [(0, .ref (gB G + 99)), (1, .int v1), (2, .int v2), (3, .int v3')] []) (hX : ∀ (I' : MI), out = .inr I' → Ex G mX11_layCounts rmX11_layCounts Q (0, 0) X I' L 128 [(0, .ref (gB G + 99)), (2, .int v2)] []) : Ex G mX11_layCounts rmX11_layCounts Q (0, 0) X I L 38 [(0, .ref (gB G + 99)), (1, .int v1), (2, .int v2), (3, .int v3)] [] := by
  unfold f_X11_layCounts_b38 at hf
  refine ex_iload_n 3 (pc' := 39) dX11_layCounts_38 rfl rfl rfl ?_
  refine ex_iload_n 2 (pc' := 40) dX11_layCounts_39 rfl rfl rfl ?_
  refine ex_icmpge (tgt := 128) (pc' := 43) dX11_layCounts_40 (by decide) rfl (fun hc10 => ?_) (fun hc10 => ?_)
  · replace hf := if_t hc10 hf
    refine ex_iconst (v := 1) (pc' := 44) dX11_layCounts_43 ic_1 rfl ?_
    refine ex_iload_n 2 (pc' := 45) dX11_layCounts_44 rfl rfl rfl ?_
    refine ex_ishl (pc' := 46) dX11_layCounts_45 rfl ?_
    refine ex_iconst (v := 1) (pc' := 47) dX11_layCounts_46 ic_1 rfl ?_
    refine ex_isub (pc' := 48) dX11_layCounts_47 rfl ?_
    refine ex_istore (lv' := [(4, .int ((jshl 1 v2) - 1)), (0, .ref (gB G + 99)), (1, .int v1), (2, .int v2), (3, .int v3)]) (pc' := 50) dX11_layCounts_48 (Nat.le_of_ble_eq_true rfl) rfl rfl ?_
    refine ex_sub (lv' := [(0, .ref (gB G + 99)), (1, .int v1), (2, .int v2), (3, .int v3), (4, .int ((jshl 1 v2) - 1))]) [1, 2, 3, 4, 0] rfl ?_
    obtain ⟨I23, hq24, hf⟩ := of_bnd1 hf
    refine k_X11_layCounts_l50 hO (fun I23' he => ?_) _ _ _ hq24
    cases he
    refine ex_iincc (lv' := [(3, .int (v3 + 1)), (0, .ref (gB G + 99)), (1, .int v1), (2, .int v2)]) 3 (pc' := 125) dX11_layCounts_122 rfl ic_1 (Nat.le_of_ble_eq_true rfl) rfl rfl ?_
    refine ex_goto (tgt := 38) dX11_layCounts_125 (by decide) ?_
    exact ex_sub [1, 2, 3, 0] rfl (hC _ _ (Option.some.inj hf).symm)
  · replace hf := if_f hc10 hf
    exact ex_sub [0, 2] rfl (hX _ (Option.some.inj hf).symm)
def f_X11_layCounts_l38 (N : Nat) (v1 : Int32) (v2 : Int32) (v3 : Int32) (I : MI) : Option (MI) := loopN (fun s => f_X11_layCounts_b38 N v1 v2 s.1 s.2) N (v3, I)
set_option maxRecDepth 100000 in
set_option maxHeartbeats 4000000 in
theorem k_X11_layCounts_l38 {G : GX} {Q : State → Prop} {X : MX} (hO : shX11 X) {v1 : Int32} {v2 : Int32}  {N0 : Nat} {L : ML} {out : (MI)} (hX : ∀ (I' : MI), out = I' → Ex G mX11_layCounts rmX11_layCounts Q (0, 0) X I' L 128 [(0, .ref (gB G + 99)), (2, .int v2)] []) : ∀ (N : Nat) (v3 : Int32) (I : MI), loopN (fun s => f_X11_layCounts_b38 N0 v1 v2 s.1 s.2) N (v3, I) = some out → Ex G mX11_layCounts rmX11_layCounts Q (0, 0) X I L 38 [(0, .ref (gB G + 99)), (1, .int v1), (2, .int v2), (3, .int v3)] [] := by
  intro N
  induction N with
  | zero => intro v3 I hf; exact absurd (loopN_zero hf) id
  | succ n ih =>
    intro v3 I hf
    rcases loopN_succ hf with ⟨s, hb, hl⟩ | hb
    · obtain ⟨v3', I'⟩ := s
      refine k_X11_layCounts_b38 hO  hb (fun _ _ he => ?_) (fun _ he => by cases he)
      cases he
      exact ih v3' I' hl
    · exact k_X11_layCounts_b38 hO  hb (fun _ _ he => by cases he) (fun x0 he => hX x0 (Sum.inr.inj he))
def f_X11_layCounts_b130 (N : Nat) (v2 : Int32) (v3 : Int32) (I : MI) : Option ((Int32 × MI) ⊕ (MI)) := (if v3 < 7 then if inb v3 7 then letv (upI I 130 (Int32.toNatClampNeg v3) 0) fun I29 => some (.inl (v3 + 1, I29)) else none else some (.inr I))
set_option maxRecDepth 100000 in
set_option maxHeartbeats 4000000 in
theorem k_X11_layCounts_b130 {G : GX} {Q : State → Prop} {X : MX} (hO : shX11 X) {v2 : Int32}  {v3 : Int32} {N : Nat} {I : MI} {L : ML} {out : (Int32 × MI) ⊕ (MI)} (hf : f_X11_layCounts_b130 N v2 v3 I = some out) (hC : ∀ (v3' : Int32) (I' : MI), out = .inl (v3', I') → Ex G mX11_layCounts rmX11_layCounts Q (0, 0) X I' L 130 [(0, .ref (gB G + 99)), (2, .int v2), (3, .int v3')] []) (hX : ∀ (I' : MI), out = .inr I' → Ex G mX11_layCounts rmX11_layCounts Q (0, 0) X I' L 149 [(0, .ref (gB G + 99)), (2, .int v2)] []) : Ex G mX11_layCounts rmX11_layCounts Q (0, 0) X I L 130 [(0, .ref (gB G + 99)), (2, .int v2), (3, .int v3)] [] := by
  unfold f_X11_layCounts_b130 at hf
  refine ex_iload_n 2 (pc' := 131) dX11_layCounts_130 rfl rfl rfl ?_
  refine ex_bipush (v := 7) (pc' := 133) dX11_layCounts_131 bp_7 rfl ?_
  refine ex_icmpge (tgt := 149) (pc' := 136) dX11_layCounts_133 (by decide) rfl (fun hc27 => ?_) (fun hc27 => ?_)
  · replace hf := if_t hc27 hf
    refine ex_aload_n 0 (pc' := 137) dX11_layCounts_136 rfl rfl rfl ?_
    refine ex_getR (pc' := 140) dX11_layCounts_137 fl_X11_103 rfl (sh11_k hO) (sh11_F36 hO) rfl ?_
    refine ex_iload_n 2 (pc' := 141) dX11_layCounts_140 rfl rfl rfl ?_
    refine ex_iconst (v := 0) (pc' := 142) dX11_layCounts_141 ic_0 rfl ?_
    obtain ⟨hg28, hf⟩ := of_guard hf
    refine ex_iast (pc' := 143) dX11_layCounts_142 (sh11_T36 hO) (inb_in hg28) rfl ?_
    obtain ⟨I29, hI29, hf⟩ := of_let hf
    rw [← hI29]
    refine ex_iincc (lv' := [(3, .int (v3 + 1)), (0, .ref (gB G + 99)), (2, .int v2)]) 2 (pc' := 146) dX11_layCounts_143 rfl ic_1 (Nat.le_of_ble_eq_true rfl) rfl rfl ?_
    refine ex_goto (tgt := 130) dX11_layCounts_146 (by decide) ?_
    exact ex_sub [1, 2, 0] rfl (hC _ _ (Option.some.inj hf).symm)
  · replace hf := if_f hc27 hf
    exact ex_sub [0, 1] rfl (hX _ (Option.some.inj hf).symm)
def f_X11_layCounts_l130 (N : Nat) (v2 : Int32) (v3 : Int32) (I : MI) : Option (MI) := loopN (fun s => f_X11_layCounts_b130 N v2 s.1 s.2) N (v3, I)
set_option maxRecDepth 100000 in
set_option maxHeartbeats 4000000 in
theorem k_X11_layCounts_l130 {G : GX} {Q : State → Prop} {X : MX} (hO : shX11 X) {v2 : Int32}  {N0 : Nat} {L : ML} {out : (MI)} (hX : ∀ (I' : MI), out = I' → Ex G mX11_layCounts rmX11_layCounts Q (0, 0) X I' L 149 [(0, .ref (gB G + 99)), (2, .int v2)] []) : ∀ (N : Nat) (v3 : Int32) (I : MI), loopN (fun s => f_X11_layCounts_b130 N0 v2 s.1 s.2) N (v3, I) = some out → Ex G mX11_layCounts rmX11_layCounts Q (0, 0) X I L 130 [(0, .ref (gB G + 99)), (2, .int v2), (3, .int v3)] [] := by
  intro N
  induction N with
  | zero => intro v3 I hf; exact absurd (loopN_zero hf) id
  | succ n ih =>
    intro v3 I hf
    rcases loopN_succ hf with ⟨s, hb, hl⟩ | hb
    · obtain ⟨v3', I'⟩ := s
      refine k_X11_layCounts_b130 hO  hb (fun _ _ he => ?_) (fun _ he => by cases he)
      cases he
      exact ih v3' I' hl
    · exact k_X11_layCounts_b130 hO  hb (fun _ _ he => by cases he) (fun x0 he => hX x0 (Sum.inr.inj he))
def f_X11_layCounts_b151 (N : Nat) (v2 : Int32) (v3 : Int32) (I : MI) : Option ((Int32 × MI) ⊕ (MI)) := (if v3 < (jshl 1 v2) then bnd1 (f_X11_ones N v3) fun r33 => if inb r33 7 then if inb v3 64 then if inb r33 7 then letv (upI I 130 (Int32.toNatClampNeg r33) ((I 130 (Int32.toNatClampNeg r33)) + (I 129 (Int32.toNatClampNeg v3)))) fun I38 => some (.inl (v3 + 1, I38)) else none else none else none else some (.inr I))
set_option maxRecDepth 100000 in
set_option maxHeartbeats 4000000 in
theorem k_X11_layCounts_b151 {G : GX} {Q : State → Prop} {X : MX} (hO : shX11 X) {v2 : Int32}  {v3 : Int32} {N : Nat} {I : MI} {L : ML} {out : (Int32 × MI) ⊕ (MI)} (hf : f_X11_layCounts_b151 N v2 v3 I = some out) (hC : ∀ (v3' : Int32) (I' : MI), out = .inl (v3', I') → Ex G mX11_layCounts rmX11_layCounts Q (0, 0) X I' L 151 [(0, .ref (gB G + 99)), (2, .int v2), (3, .int v3')] []) (hX : ∀ (I' : MI), out = .inr I' → Ex G mX11_layCounts rmX11_layCounts Q (0, 0) X I' L 182 [] []) : Ex G mX11_layCounts rmX11_layCounts Q (0, 0) X I L 151 [(0, .ref (gB G + 99)), (2, .int v2), (3, .int v3)] [] := by
  unfold f_X11_layCounts_b151 at hf
  refine ex_iload_n 2 (pc' := 152) dX11_layCounts_151 rfl rfl rfl ?_
  refine ex_iconst (v := 1) (pc' := 153) dX11_layCounts_152 ic_1 rfl ?_
  refine ex_iload_n 1 (pc' := 154) dX11_layCounts_153 rfl rfl rfl ?_
  refine ex_ishl (pc' := 155) dX11_layCounts_154 rfl ?_
  refine ex_icmpge (tgt := 182) (pc' := 158) dX11_layCounts_155 (by decide) rfl (fun hc32 => ?_) (fun hc32 => ?_)
  · replace hf := if_t hc32 hf
    refine ex_aload_n 0 (pc' := 159) dX11_layCounts_158 rfl rfl rfl ?_
    refine ex_getR (pc' := 162) dX11_layCounts_159 fl_X11_103 rfl (sh11_k hO) (sh11_F36 hO) rfl ?_
    refine ex_iload_n 2 (pc' := 163) dX11_layCounts_162 rfl rfl rfl ?_
    obtain ⟨r33, hq34, hf⟩ := of_bnd1 hf
    refine ex_callS_i (rm' := rmX11_ones) (st := [.ref (gB G + 130)]) (pc' := 166) [.int v3] dX11_layCounts_163 cl_X11_172 (k_X11_ones G hq34) rfl rfl rfl (ROOM_of rfl) (Nat.le_of_ble_eq_true rfl) rfl rfl ?_
    refine ex_dup2 (pc' := 167) dX11_layCounts_166 rfl rfl rfl ?_
    obtain ⟨hg35, hf⟩ := of_guard hf
    refine ex_iald (pc' := 168) dX11_layCounts_167 (sh11_T36 hO) (inb_in hg35) rfl ?_
    refine ex_aload_n 0 (pc' := 169) dX11_layCounts_168 rfl rfl rfl ?_
    refine ex_getR (pc' := 172) dX11_layCounts_169 fl_X11_100 rfl (sh11_k hO) (sh11_F35 hO) rfl ?_
    refine ex_iload_n 2 (pc' := 173) dX11_layCounts_172 rfl rfl rfl ?_
    obtain ⟨hg36, hf⟩ := of_guard hf
    refine ex_iald (pc' := 174) dX11_layCounts_173 (sh11_T35 hO) (inb_in hg36) rfl ?_
    refine ex_iadd (pc' := 175) dX11_layCounts_174 rfl ?_
    obtain ⟨hg37, hf⟩ := of_guard hf
    refine ex_iast (pc' := 176) dX11_layCounts_175 (sh11_T36 hO) (inb_in hg37) rfl ?_
    obtain ⟨I38, hI38, hf⟩ := of_let hf
    rw [← hI38]
    refine ex_iincc (lv' := [(3, .int (v3 + 1)), (0, .ref (gB G + 99)), (2, .int v2)]) 2 (pc' := 179) dX11_layCounts_176 rfl ic_1 (Nat.le_of_ble_eq_true rfl) rfl rfl ?_
    refine ex_goto (tgt := 151) dX11_layCounts_179 (by decide) ?_
    exact ex_sub [1, 2, 0] rfl (hC _ _ (Option.some.inj hf).symm)
  · replace hf := if_f hc32 hf
    exact ex_sub [] rfl (hX _ (Option.some.inj hf).symm)
def f_X11_layCounts_l151 (N : Nat) (v2 : Int32) (v3 : Int32) (I : MI) : Option (MI) := loopN (fun s => f_X11_layCounts_b151 N v2 s.1 s.2) N (v3, I)
set_option maxRecDepth 100000 in
set_option maxHeartbeats 4000000 in
theorem k_X11_layCounts_l151 {G : GX} {Q : State → Prop} {X : MX} (hO : shX11 X) {v2 : Int32}  {N0 : Nat} {L : ML} {out : (MI)} (hX : ∀ (I' : MI), out = I' → Ex G mX11_layCounts rmX11_layCounts Q (0, 0) X I' L 182 [] []) : ∀ (N : Nat) (v3 : Int32) (I : MI), loopN (fun s => f_X11_layCounts_b151 N0 v2 s.1 s.2) N (v3, I) = some out → Ex G mX11_layCounts rmX11_layCounts Q (0, 0) X I L 151 [(0, .ref (gB G + 99)), (2, .int v2), (3, .int v3)] [] := by
  intro N
  induction N with
  | zero => intro v3 I hf; exact absurd (loopN_zero hf) id
  | succ n ih =>
    intro v3 I hf
    rcases loopN_succ hf with ⟨s, hb, hl⟩ | hb
    · obtain ⟨v3', I'⟩ := s
      refine k_X11_layCounts_b151 hO  hb (fun _ _ he => ?_) (fun _ he => by cases he)
      cases he
      exact ih v3' I' hl
    · exact k_X11_layCounts_b151 hO  hb (fun _ _ he => by cases he) (fun x0 he => hX x0 (Sum.inr.inj he))
def f_X11_layCounts (N : Nat) (v1 : Int32) (I : MI) : Option (MI) := if inb v1 6 then bnd1 (f_X11_layCounts_l9 N v1 (I 103 (Int32.toNatClampNeg v1)) 0 I) fun I8 => bnd1 (f_X11_layCounts_l38 N v1 (I 103 (Int32.toNatClampNeg v1)) 0 I8) fun I25 => bnd1 (f_X11_layCounts_l130 N (I 103 (Int32.toNatClampNeg v1)) 0 I25) fun I30 => bnd1 (f_X11_layCounts_l151 N (I 103 (Int32.toNatClampNeg v1)) 0 I30) fun I39 => some I39 else none
set_option maxRecDepth 100000 in
set_option maxHeartbeats 4000000 in
theorem kb_X11_layCounts {G : GX} {Q : State → Prop} {X : MX} (hO : shX11 X) {v1 : Int32}  {N : Nat} {I : MI} {L : ML} {out : MI} (hf : f_X11_layCounts N v1 I = some out) (hR : ∀ (I' : MI), out = I' → Q = RetQ G none X I' L (0, 0)) : Ex G mX11_layCounts rmX11_layCounts Q (0, 0) X I L 0 [(0, .ref (gB G + 99)), (1, .int v1)] [] := by
  unfold f_X11_layCounts at hf
  refine ex_aload_n 0 (pc' := 1) dX11_layCounts_0 rfl rfl rfl ?_
  refine ex_getR (pc' := 4) dX11_layCounts_1 fl_X11_22 rfl (sh11_k hO) (sh11_F3 hO) rfl ?_
  refine ex_iload_n 1 (pc' := 5) dX11_layCounts_4 rfl rfl rfl ?_
  obtain ⟨hg1, hf⟩ := of_guard hf
  refine ex_iald (pc' := 6) dX11_layCounts_5 (sh11_T3 hO) (inb_in hg1) rfl ?_
  refine ex_istore_n (lv' := [(2, .int (I 103 (Int32.toNatClampNeg v1))), (0, .ref (gB G + 99)), (1, .int v1)]) (pc' := 7) dX11_layCounts_6 rfl (Nat.le_of_ble_eq_true rfl) rfl rfl ?_
  refine ex_iconst (v := 0) (pc' := 8) dX11_layCounts_7 ic_0 rfl ?_
  refine ex_istore_n (lv' := [(3, .int 0), (2, .int (I 103 (Int32.toNatClampNeg v1))), (0, .ref (gB G + 99)), (1, .int v1)]) (pc' := 9) dX11_layCounts_8 rfl (Nat.le_of_ble_eq_true rfl) rfl rfl ?_
  refine ex_sub (lv' := [(0, .ref (gB G + 99)), (1, .int v1), (2, .int (I 103 (Int32.toNatClampNeg v1))), (3, .int 0)]) [2, 3, 1, 0] rfl ?_
  obtain ⟨I8, hq9, hf⟩ := of_bnd1 hf
  refine k_X11_layCounts_l9 hO (fun I8' he => ?_) _ _ _ hq9
  cases he
  refine ex_iconst (v := 0) (pc' := 37) dX11_layCounts_36 ic_0 rfl ?_
  refine ex_istore_n (lv' := [(3, .int 0), (0, .ref (gB G + 99)), (1, .int v1), (2, .int (I 103 (Int32.toNatClampNeg v1)))]) (pc' := 38) dX11_layCounts_37 rfl (Nat.le_of_ble_eq_true rfl) rfl rfl ?_
  refine ex_sub (lv' := [(0, .ref (gB G + 99)), (1, .int v1), (2, .int (I 103 (Int32.toNatClampNeg v1))), (3, .int 0)]) [1, 2, 3, 0] rfl ?_
  obtain ⟨I25, hq26, hf⟩ := of_bnd1 hf
  refine k_X11_layCounts_l38 hO (fun I25' he => ?_) _ _ _ hq26
  cases he
  refine ex_iconst (v := 0) (pc' := 129) dX11_layCounts_128 ic_0 rfl ?_
  refine ex_istore_n (lv' := [(3, .int 0), (0, .ref (gB G + 99)), (2, .int (I 103 (Int32.toNatClampNeg v1)))]) (pc' := 130) dX11_layCounts_129 rfl (Nat.le_of_ble_eq_true rfl) rfl rfl ?_
  refine ex_sub (lv' := [(0, .ref (gB G + 99)), (2, .int (I 103 (Int32.toNatClampNeg v1))), (3, .int 0)]) [1, 2, 0] rfl ?_
  obtain ⟨I30, hq31, hf⟩ := of_bnd1 hf
  refine k_X11_layCounts_l130 hO (fun I30' he => ?_) _ _ _ hq31
  cases he
  refine ex_iconst (v := 0) (pc' := 150) dX11_layCounts_149 ic_0 rfl ?_
  refine ex_istore_n (lv' := [(3, .int 0), (0, .ref (gB G + 99)), (2, .int (I 103 (Int32.toNatClampNeg v1)))]) (pc' := 151) dX11_layCounts_150 rfl (Nat.le_of_ble_eq_true rfl) rfl rfl ?_
  refine ex_sub (lv' := [(0, .ref (gB G + 99)), (2, .int (I 103 (Int32.toNatClampNeg v1))), (3, .int 0)]) [1, 2, 0] rfl ?_
  obtain ⟨I39, hq40, hf⟩ := of_bnd1 hf
  refine k_X11_layCounts_l151 hO (fun I39' he => ?_) _ _ _ hq40
  cases he
  exact ex_vret dX11_layCounts_182 rfl (hR _ (Option.some.inj hf).symm)
set_option maxRecDepth 100000 in
set_option maxHeartbeats 4000000 in
theorem k_X11_layCounts (G : GX) {X : MX} (hO : shX11 X) {v1 : Int32}  {N : Nat} {I : MI} {L : ML} {I' : MI} (hf : f_X11_layCounts N v1 I = some I') : Con G mX11_layCounts yX11_layCounts rmX11_layCounts (fun B => [.ref (B + 99), .int v1]) X I L none X I' L :=
  Con.of (by decide) rfl (fun h => by cases h) (fun B => Nat.le_of_ble_eq_true rfl) (fun G => kb_X11_layCounts hO  hf (fun _ he => by cases he; rfl))
theorem cl_X11_193 : CLV RX11 193 yX11_layCounts mX11_layCounts none 1 := ⟨⟨lwg_at 1226 (by decide +kernel) rfl, lwg_at 1228 (by decide +kernel) rfl, lwg_at 28 (by decide +kernel) rfl, lwg_at 61 (by decide +kernel) rfl⟩, lwg_at 1229 (by decide +kernel) rfl, ⟨by decide +kernel, by decide +kernel, by decide +kernel⟩⟩
-- X11_count ('RookWordsModel', 'count', '(II)I')
def rmX11_count : RM := ((2, 48, 0, 0), false, (some FieldType.int))
def f_X11_count (N : Nat) (v1 : Int32) (v2 : Int32) (I : MI) : Option (Int32 × MI) := bnd1 (f_X11_isSix v1) fun r1 => (if r1 = 0 then some ((-1), I) else (if v2 < 0 then some ((-1), I) else bnd1 (f_X11_layCounts N v1 I) fun I5 => (if v2 < 7 then if inb v2 7 then some (I5 130 (Int32.toNatClampNeg v2), I5) else none else some (0, I5))))
set_option maxRecDepth 100000 in
set_option maxHeartbeats 4000000 in
theorem kb_X11_count {G : GX} {Q : State → Prop} {X : MX} (hO : shX11 X) {v1 : Int32} {v2 : Int32}  {N : Nat} {I : MI} {L : ML} {out : Int32 × MI} (hf : f_X11_count N v1 v2 I = some out) (hR : ∀ (z : Int32) (I' : MI), out = (z, I') → Q = RetQ G (some (.int z)) X I' L (0, 0)) : Ex G mX11_count rmX11_count Q (0, 0) X I L 0 [(0, .ref (gB G + 99)), (1, .int v1), (2, .int v2)] [] := by
  unfold f_X11_count at hf
  refine ex_iload_n 1 (pc' := 1) dX11_count_0 rfl rfl rfl ?_
  obtain ⟨r1, hq2, hf⟩ := of_bnd1 hf
  refine ex_callS_i (rm' := rmX11_isSix) (st := []) (pc' := 4) [.int v1] dX11_count_1 cl_X11_133 (k_X11_isSix G hq2) rfl rfl rfl (ROOM_of rfl) (Nat.le_of_ble_eq_true rfl) rfl rfl ?_
  refine ex_ifeq (tgt := 11) (pc' := 7) dX11_count_4 (by decide) rfl (fun hc3 => ?_) (fun hc3 => ?_)
  · replace hf := if_t hc3 hf
    refine ex_iconst (v := (-1)) (pc' := 12) dX11_count_11 ic_m1 rfl ?_
    exact ex_iret dX11_count_12 rfl (hR _ _ (Option.some.inj hf).symm)
  · replace hf := if_f hc3 hf
    refine ex_iload_n 2 (pc' := 8) dX11_count_7 rfl rfl rfl ?_
    refine ex_ifge (tgt := 13) (pc' := 11) dX11_count_8 (by decide) rfl (fun hc4 => ?_) (fun hc4 => ?_)
    · replace hf := if_t hc4 hf
      refine ex_iconst (v := (-1)) (pc' := 12) dX11_count_11 ic_m1 rfl ?_
      exact ex_iret dX11_count_12 rfl (hR _ _ (Option.some.inj hf).symm)
    · replace hf := if_f hc4 hf
      refine ex_aload_n 0 (pc' := 14) dX11_count_13 rfl rfl rfl ?_
      refine ex_iload_n 1 (pc' := 15) dX11_count_14 rfl rfl rfl ?_
      obtain ⟨I5, hq6, hf⟩ := of_bnd1 hf
      refine ex_callV_v (rm' := rmX11_layCounts) (st := []) (pc' := 18) [.int v1] dX11_count_15 cl_X11_193 (k_X11_layCounts G hO hq6) rfl (sh11_k hO) ⟨_, _, rfl⟩ rfl rfl (ROOM_of rfl) (Nat.le_of_ble_eq_true rfl) rfl rfl ?_
      refine ex_iload_n 2 (pc' := 19) dX11_count_18 rfl rfl rfl ?_
      refine ex_bipush (v := 7) (pc' := 21) dX11_count_19 bp_7 rfl ?_
      refine ex_icmpge (tgt := 33) (pc' := 24) dX11_count_21 (by decide) rfl (fun hc7 => ?_) (fun hc7 => ?_)
      · replace hf := if_t hc7 hf
        refine ex_aload_n 0 (pc' := 25) dX11_count_24 rfl rfl rfl ?_
        refine ex_getR (pc' := 28) dX11_count_25 fl_X11_103 rfl (sh11_k hO) (sh11_F36 hO) rfl ?_
        refine ex_iload_n 2 (pc' := 29) dX11_count_28 rfl rfl rfl ?_
        obtain ⟨hg8, hf⟩ := of_guard hf
        refine ex_iald (pc' := 30) dX11_count_29 (sh11_T36 hO) (inb_in hg8) rfl ?_
        refine ex_goto (tgt := 34) dX11_count_30 (by decide) ?_
        exact ex_iret dX11_count_34 rfl (hR _ _ (Option.some.inj hf).symm)
      · replace hf := if_f hc7 hf
        refine ex_iconst (v := 0) (pc' := 34) dX11_count_33 ic_0 rfl ?_
        exact ex_iret dX11_count_34 rfl (hR _ _ (Option.some.inj hf).symm)
set_option maxRecDepth 100000 in
set_option maxHeartbeats 4000000 in
theorem k_X11_count (G : GX) {X : MX} (hO : shX11 X) {v1 : Int32} {v2 : Int32}  {N : Nat} {I : MI} {L : ML} {z : Int32} {I' : MI} (hf : f_X11_count N v1 v2 I = some (z, I')) : Con G mX11_count yX11_count rmX11_count (fun B => [.ref (B + 99), .int v1, .int v2]) X I L (some (.int z)) X I' L :=
  Con.of (by decide) rfl (fun h => by cases h) (fun B => Nat.le_of_ble_eq_true rfl) (fun G => kb_X11_count hO  hf (fun _ _ he => by cases he; rfl))
theorem fl_X11_284 : FLD RX11 284 11 47 false := ⟨RX11, TX11, 51, rfl, inX11, by decide, lwg_at 981 (by decide +kernel) rfl, nmX11, tyX11_ok, rfl, rfl⟩
theorem co_X11_287 : Cond.constant RX11 287 (1103515245) ∈ lwg := lwg_at 1368 (by decide +kernel) rfl
theorem co_X11_288 : Cond.constant RX11 288 (2147483647) ∈ lwg := lwg_at 1369 (by decide +kernel) rfl
theorem co_X11_289 : Cond.constant RX11 289 (65536) ∈ lwg := lwg_at 1370 (by decide +kernel) rfl
-- X11_draw ('RookWordsModel', 'draw', '(I)I')
def rmX11_draw : RM := ((0, 0, 0, 0), false, (some FieldType.int))
def f_X11_draw (v1 : Int32) (I : MI) : Option (Int32 × MI) := letv (upI I 99 47 (((I 99 47) * 1103515245) + 12345)) fun I1 => if v1 = 0 then none else some (jrem (((I1 99 47) &&& 2147483647) / 65536) v1, I1)
set_option maxRecDepth 100000 in
set_option maxHeartbeats 4000000 in
theorem kb_X11_draw {G : GX} {Q : State → Prop} {X : MX} (hO : shX11 X) {v1 : Int32}  {I : MI} {L : ML} {out : Int32 × MI} (hf : f_X11_draw v1 I = some out) (hR : ∀ (z : Int32) (I' : MI), out = (z, I') → Q = RetQ G (some (.int z)) X I' L (0, 0)) : Ex G mX11_draw rmX11_draw Q (0, 0) X I L 0 [(0, .ref (gB G + 99)), (1, .int v1)] [] := by
  unfold f_X11_draw at hf
  refine ex_aload_n 0 (pc' := 1) dX11_draw_0 rfl rfl rfl ?_
  refine ex_aload_n 0 (pc' := 2) dX11_draw_1 rfl rfl rfl ?_
  refine ex_getI (pc' := 5) dX11_draw_2 fl_X11_284 rfl (sh11_k hO) rfl ?_
  refine ex_ldc_w (v := 1103515245) (pc' := 8) dX11_draw_5 co_X11_287 rfl ?_
  refine ex_imul (pc' := 9) dX11_draw_8 rfl ?_
  refine ex_sipush (v := 12345) (pc' := 12) dX11_draw_9 sp_12345 rfl ?_
  refine ex_iadd (pc' := 13) dX11_draw_12 rfl ?_
  refine ex_putI (pc' := 16) dX11_draw_13 fl_X11_284 rfl (sh11_k hO) rfl ?_
  obtain ⟨I1, hI1, hf⟩ := of_let hf
  rw [← hI1]
  refine ex_aload_n 0 (pc' := 17) dX11_draw_16 rfl rfl rfl ?_
  refine ex_getI (pc' := 20) dX11_draw_17 fl_X11_284 rfl (sh11_k hO) rfl ?_
  refine ex_ldc_w (v := 2147483647) (pc' := 23) dX11_draw_20 co_X11_288 rfl ?_
  refine ex_iand (pc' := 24) dX11_draw_23 rfl ?_
  refine ex_ldc_w (v := 65536) (pc' := 27) dX11_draw_24 co_X11_289 rfl ?_
  refine ex_idiv (pc' := 28) dX11_draw_27 (by decide) rfl ?_
  refine ex_iload_n 1 (pc' := 29) dX11_draw_28 rfl rfl rfl ?_
  obtain ⟨hg2, hf⟩ := of_guardN hf
  refine ex_irem (pc' := 30) dX11_draw_29 hg2 rfl ?_
  exact ex_iret dX11_draw_30 rfl (hR _ _ (Option.some.inj hf).symm)
set_option maxRecDepth 100000 in
set_option maxHeartbeats 4000000 in
theorem k_X11_draw (G : GX) {X : MX} (hO : shX11 X) {v1 : Int32}  {I : MI} {L : ML} {z : Int32} {I' : MI} (hf : f_X11_draw v1 I = some (z, I')) : Con G mX11_draw yX11_draw rmX11_draw (fun B => [.ref (B + 99), .int v1]) X I L (some (.int z)) X I' L :=
  Con.of (by decide) rfl (fun h => by cases h) (fun B => Nat.le_of_ble_eq_true rfl) (fun G => kb_X11_draw hO  hf (fun _ _ he => by cases he; rfl))
-- X11_empty ('RookWordsModel', 'empty', '(I)I')
def rmX11_empty : RM := ((2, 45, 0, 0), false, (some FieldType.int))
def f_X11_empty (v1 : Int32) (I : MI) : Option (Int32 × MI) := bnd1 (f_X11_isSix v1) fun r1 => (if r1 = 0 then some ((-1), I) else if inb v1 6 then if inb v1 6 then letv (upI I 100 (Int32.toNatClampNeg v1) 0) fun I6 => some (I 100 (Int32.toNatClampNeg v1), I6) else none else none)
set_option maxRecDepth 100000 in
set_option maxHeartbeats 4000000 in
theorem kb_X11_empty {G : GX} {Q : State → Prop} {X : MX} (hO : shX11 X) {v1 : Int32}  {I : MI} {L : ML} {out : Int32 × MI} (hf : f_X11_empty v1 I = some out) (hR : ∀ (z : Int32) (I' : MI), out = (z, I') → Q = RetQ G (some (.int z)) X I' L (0, 0)) : Ex G mX11_empty rmX11_empty Q (0, 0) X I L 0 [(0, .ref (gB G + 99)), (1, .int v1)] [] := by
  unfold f_X11_empty at hf
  refine ex_iload_n 1 (pc' := 1) dX11_empty_0 rfl rfl rfl ?_
  obtain ⟨r1, hq2, hf⟩ := of_bnd1 hf
  refine ex_callS_i (rm' := rmX11_isSix) (st := []) (pc' := 4) [.int v1] dX11_empty_1 cl_X11_133 (k_X11_isSix G hq2) rfl rfl rfl (ROOM_of rfl) (Nat.le_of_ble_eq_true rfl) rfl rfl ?_
  refine ex_ifne (tgt := 9) (pc' := 7) dX11_empty_4 (by decide) rfl (fun hc3 => ?_) (fun hc3 => ?_)
  · replace hf := if_t hc3 hf
    refine ex_iconst (v := (-1)) (pc' := 8) dX11_empty_7 ic_m1 rfl ?_
    exact ex_iret dX11_empty_8 rfl (hR _ _ (Option.some.inj hf).symm)
  · replace hf := if_f hc3 hf
    refine ex_aload_n 0 (pc' := 10) dX11_empty_9 rfl rfl rfl ?_
    refine ex_getR (pc' := 13) dX11_empty_10 fl_X11_9 rfl (sh11_k hO) (sh11_F0 hO) rfl ?_
    refine ex_iload_n 1 (pc' := 14) dX11_empty_13 rfl rfl rfl ?_
    obtain ⟨hg4, hf⟩ := of_guard hf
    refine ex_iald (pc' := 15) dX11_empty_14 (sh11_T0 hO) (inb_in hg4) rfl ?_
    refine ex_istore_n (lv' := [(2, .int (I 100 (Int32.toNatClampNeg v1))), (0, .ref (gB G + 99)), (1, .int v1)]) (pc' := 16) dX11_empty_15 rfl (Nat.le_of_ble_eq_true rfl) rfl rfl ?_
    refine ex_aload_n 1 (pc' := 17) dX11_empty_16 rfl rfl rfl ?_
    refine ex_getR (pc' := 20) dX11_empty_17 fl_X11_9 rfl (sh11_k hO) (sh11_F0 hO) rfl ?_
    refine ex_iload_n 2 (pc' := 21) dX11_empty_20 rfl rfl rfl ?_
    refine ex_iconst (v := 0) (pc' := 22) dX11_empty_21 ic_0 rfl ?_
    obtain ⟨hg5, hf⟩ := of_guard hf
    refine ex_iast (pc' := 23) dX11_empty_22 (sh11_T0 hO) (inb_in hg5) rfl ?_
    obtain ⟨I6, hI6, hf⟩ := of_let hf
    rw [← hI6]
    refine ex_iload_n 0 (pc' := 24) dX11_empty_23 rfl rfl rfl ?_
    exact ex_iret dX11_empty_24 rfl (hR _ _ (Option.some.inj hf).symm)
set_option maxRecDepth 100000 in
set_option maxHeartbeats 4000000 in
theorem k_X11_empty (G : GX) {X : MX} (hO : shX11 X) {v1 : Int32}  {I : MI} {L : ML} {z : Int32} {I' : MI} (hf : f_X11_empty v1 I = some (z, I')) : Con G mX11_empty yX11_empty rmX11_empty (fun B => [.ref (B + 99), .int v1]) X I L (some (.int z)) X I' L :=
  Con.of (by decide) rfl (fun h => by cases h) (fun B => Nat.le_of_ble_eq_true rfl) (fun G => kb_X11_empty hO  hf (fun _ _ he => by cases he; rfl))
-- X11_factor ('RookWordsModel', 'factor', '(I)J')
def rmX11_factor : RM := ((0, 0, 0, 0), false, (some FieldType.long))
def f_X11_factor_b4 (N : Nat) (v0 : Int32) (v1 : Int64) (v3 : Int32) : Option ((Int64 × Int32) ⊕ (Int64)) := (if v0 < v3 then some (.inr v1) else some (.inl (v1 * (Int32.toInt64 v3), v3 + 1)))
set_option maxRecDepth 100000 in
set_option maxHeartbeats 4000000 in
theorem k_X11_factor_b4 {G : GX} {Q : State → Prop} {X : MX} {v0 : Int32}  {v1 : Int64} {v3 : Int32} {N : Nat} {I : MI} {L : ML} {out : (Int64 × Int32) ⊕ (Int64)} (hf : f_X11_factor_b4 N v0 v1 v3 = some out) (hC : ∀ (v1' : Int64) (v3' : Int32), out = .inl (v1', v3') → Ex G mX11_factor rmX11_factor Q (0, 0) X I L 4 [(0, .int v0), (1, .long v1'), (3, .int v3')] []) (hX : ∀ (w1 : Int64), out = .inr w1 → Ex G mX11_factor rmX11_factor Q (0, 0) X I L 20 [(1, .long w1)] []) : Ex G mX11_factor rmX11_factor Q (0, 0) X I L 4 [(0, .int v0), (1, .long v1), (3, .int v3)] [] := by
  unfold f_X11_factor_b4 at hf
  refine ex_iload_n 2 (pc' := 5) dX11_factor_4 rfl rfl rfl ?_
  refine ex_iload_n 0 (pc' := 6) dX11_factor_5 rfl rfl rfl ?_
  refine ex_icmpgt (tgt := 20) (pc' := 9) dX11_factor_6 (by decide) rfl (fun hc1 => ?_) (fun hc1 => ?_)
  · replace hf := if_t hc1 hf
    exact ex_sub [1] rfl (hX _ (Option.some.inj hf).symm)
  · replace hf := if_f hc1 hf
    refine ex_lload_n 1 (pc' := 10) dX11_factor_9 rfl rfl rfl ?_
    refine ex_iload_n 2 (pc' := 11) dX11_factor_10 rfl rfl rfl ?_
    refine ex_i2l (pc' := 12) dX11_factor_11 rfl ?_
    refine ex_lmul (pc' := 13) dX11_factor_12 rfl ?_
    refine ex_lstore_n (lv' := [(1, .long (v1 * (Int32.toInt64 v3))), (0, .int v0), (3, .int v3)]) (pc' := 14) dX11_factor_13 rfl (Nat.le_of_ble_eq_true rfl) rfl rfl ?_
    refine ex_iincc (lv' := [(3, .int (v3 + 1)), (1, .long (v1 * (Int32.toInt64 v3))), (0, .int v0)]) 2 (pc' := 17) dX11_factor_14 rfl ic_1 (Nat.le_of_ble_eq_true rfl) rfl rfl ?_
    refine ex_goto (tgt := 4) dX11_factor_17 (by decide) ?_
    exact ex_sub [2, 1, 0] rfl (hC _ _ (Option.some.inj hf).symm)
def f_X11_factor_l4 (N : Nat) (v0 : Int32) (v1 : Int64) (v3 : Int32) : Option (Int64) := loopN (fun s => f_X11_factor_b4 N v0 s.1 s.2) N (v1, v3)
set_option maxRecDepth 100000 in
set_option maxHeartbeats 4000000 in
theorem k_X11_factor_l4 {G : GX} {Q : State → Prop} {X : MX} {v0 : Int32}  {N0 : Nat} {I : MI} {L : ML} {out : (Int64)} (hX : ∀ (w1 : Int64), out = w1 → Ex G mX11_factor rmX11_factor Q (0, 0) X I L 20 [(1, .long w1)] []) : ∀ (N : Nat) (v1 : Int64) (v3 : Int32), loopN (fun s => f_X11_factor_b4 N0 v0 s.1 s.2) N (v1, v3) = some out → Ex G mX11_factor rmX11_factor Q (0, 0) X I L 4 [(0, .int v0), (1, .long v1), (3, .int v3)] [] := by
  intro N
  induction N with
  | zero => intro v1 v3 hf; exact absurd (loopN_zero hf) id
  | succ n ih =>
    intro v1 v3 hf
    rcases loopN_succ hf with ⟨s, hb, hl⟩ | hb
    · obtain ⟨v1', v3'⟩ := s
      refine k_X11_factor_b4  hb (fun _ _ he => ?_) (fun _ he => by cases he)
      cases he
      exact ih v1' v3' hl
    · exact k_X11_factor_b4  hb (fun _ _ he => by cases he) (fun x0 he => hX x0 (Sum.inr.inj he))
def f_X11_factor (N : Nat) (v0 : Int32) : Option (Int64) := bnd1 (f_X11_factor_l4 N v0 1 2) fun x2 => some x2
set_option maxRecDepth 100000 in
set_option maxHeartbeats 4000000 in
theorem kb_X11_factor {G : GX} {Q : State → Prop} {X : MX} {v0 : Int32}  {N : Nat} {I : MI} {L : ML} {out : Int64} (hf : f_X11_factor N v0 = some out) (hR : ∀ (z : Int64), out = z → Q = RetQ G (some (.long z)) X I L (0, 0)) : Ex G mX11_factor rmX11_factor Q (0, 0) X I L 0 [(0, .int v0)] [] := by
  unfold f_X11_factor at hf
  refine ex_lconst (v := 1) (pc' := 1) dX11_factor_0 lc_1 rfl ?_
  refine ex_lstore_n (lv' := [(1, .long 1), (0, .int v0)]) (pc' := 2) dX11_factor_1 rfl (Nat.le_of_ble_eq_true rfl) rfl rfl ?_
  refine ex_iconst (v := 2) (pc' := 3) dX11_factor_2 ic_2 rfl ?_
  refine ex_istore_n (lv' := [(3, .int 2), (1, .long 1), (0, .int v0)]) (pc' := 4) dX11_factor_3 rfl (Nat.le_of_ble_eq_true rfl) rfl rfl ?_
  refine ex_sub (lv' := [(0, .int v0), (1, .long 1), (3, .int 2)]) [2, 1, 0] rfl ?_
  obtain ⟨x2, hq3, hf⟩ := of_bnd1 hf
  refine k_X11_factor_l4 (fun x2' he => ?_) _ _ _ hq3
  cases he
  refine ex_lload_n 0 (pc' := 21) dX11_factor_20 rfl rfl rfl ?_
  exact ex_lret dX11_factor_21 rfl (hR _ (Option.some.inj hf).symm)
set_option maxRecDepth 100000 in
set_option maxHeartbeats 4000000 in
theorem k_X11_factor (G : GX) {X : MX} {v0 : Int32}  {N : Nat} {I : MI} {L : ML} {z : Int64} (hf : f_X11_factor N v0 = some z) : Con G mX11_factor yX11_factor rmX11_factor (fun B => [.int v0]) X I L (some (.long z)) X I L :=
  Con.of (by decide) rfl (fun h => by cases h) (fun B => Nat.le_of_ble_eq_true rfl) (fun G => kb_X11_factor  hf (fun _ he => by cases he; rfl))
-- X11_factored ('RookWordsModel', 'factored', '(II)J')
def rmX11_factored : RM := ((2, 48, 0, 0), false, (some FieldType.long))
def f_X11_factored_b60 (N : Nat) (v2 : Int32) (v3 : Int32) (v4 : Int64) (v6 : Int32) (v7 : Int64) (v9 : Int32) : Option ((Int64 × Int32) ⊕ (Int64)) := (if v9 < (v3 - v6) then some (.inl (v7 * (Int32.toInt64 (v2 - v9)), v9 + 1)) else some (.inr v7))
set_option maxRecDepth 100000 in
set_option maxHeartbeats 4000000 in
theorem k_X11_factored_b60 {G : GX} {Q : State → Prop} {X : MX} (hO : shX11 X) {v2 : Int32} {v3 : Int32} {v4 : Int64} {v6 : Int32}  {v7 : Int64} {v9 : Int32} {N : Nat} {I : MI} {L : ML} {out : (Int64 × Int32) ⊕ (Int64)} (hf : f_X11_factored_b60 N v2 v3 v4 v6 v7 v9 = some out) (hC : ∀ (v7' : Int64) (v9' : Int32), out = .inl (v7', v9') → Ex G mX11_factored rmX11_factored Q (0, 0) X I L 60 [(0, .ref (gB G + 99)), (2, .int v2), (3, .int v3), (4, .long v4), (6, .int v6), (7, .long v7'), (9, .int v9')] []) (hX : ∀ (w7 : Int64), out = .inr w7 → Ex G mX11_factored rmX11_factored Q (0, 0) X I L 85 [(0, .ref (gB G + 99)), (2, .int v2), (3, .int v3), (4, .long v4), (6, .int v6), (7, .long w7)] []) : Ex G mX11_factored rmX11_factored Q (0, 0) X I L 60 [(0, .ref (gB G + 99)), (2, .int v2), (3, .int v3), (4, .long v4), (6, .int v6), (7, .long v7), (9, .int v9)] [] := by
  unfold f_X11_factored_b60 at hf
  refine ex_iload 6 (pc' := 62) dX11_factored_60 rfl rfl ?_
  refine ex_iload_n 2 (pc' := 63) dX11_factored_62 rfl rfl rfl ?_
  refine ex_iload 4 (pc' := 65) dX11_factored_63 rfl rfl ?_
  refine ex_isub (pc' := 66) dX11_factored_65 rfl ?_
  refine ex_icmpge (tgt := 85) (pc' := 69) dX11_factored_66 (by decide) rfl (fun hc13 => ?_) (fun hc13 => ?_)
  · replace hf := if_t hc13 hf
    refine ex_lload 5 (pc' := 71) dX11_factored_69 rfl rfl ?_
    refine ex_iload_n 1 (pc' := 72) dX11_factored_71 rfl rfl rfl ?_
    refine ex_iload 6 (pc' := 74) dX11_factored_72 rfl rfl ?_
    refine ex_isub (pc' := 75) dX11_factored_74 rfl ?_
    refine ex_i2l (pc' := 76) dX11_factored_75 rfl ?_
    refine ex_lmul (pc' := 77) dX11_factored_76 rfl ?_
    refine ex_lstore (lv' := [(7, .long (v7 * (Int32.toInt64 (v2 - v9)))), (0, .ref (gB G + 99)), (2, .int v2), (3, .int v3), (4, .long v4), (6, .int v6), (9, .int v9)]) (pc' := 79) dX11_factored_77 (Nat.le_of_ble_eq_true rfl) rfl rfl ?_
    refine ex_iincc (lv' := [(9, .int (v9 + 1)), (7, .long (v7 * (Int32.toInt64 (v2 - v9)))), (0, .ref (gB G + 99)), (2, .int v2), (3, .int v3), (4, .long v4), (6, .int v6)]) 6 (pc' := 82) dX11_factored_79 rfl ic_1 (Nat.le_of_ble_eq_true rfl) rfl rfl ?_
    refine ex_goto (tgt := 60) dX11_factored_82 (by decide) ?_
    exact ex_sub [2, 3, 4, 5, 6, 1, 0] rfl (hC _ _ (Option.some.inj hf).symm)
  · replace hf := if_f hc13 hf
    exact ex_sub [0, 1, 2, 3, 4, 5] rfl (hX _ (Option.some.inj hf).symm)
def f_X11_factored_l60 (N : Nat) (v2 : Int32) (v3 : Int32) (v4 : Int64) (v6 : Int32) (v7 : Int64) (v9 : Int32) : Option (Int64) := loopN (fun s => f_X11_factored_b60 N v2 v3 v4 v6 s.1 s.2) N (v7, v9)
set_option maxRecDepth 100000 in
set_option maxHeartbeats 4000000 in
theorem k_X11_factored_l60 {G : GX} {Q : State → Prop} {X : MX} (hO : shX11 X) {v2 : Int32} {v3 : Int32} {v4 : Int64} {v6 : Int32}  {N0 : Nat} {I : MI} {L : ML} {out : (Int64)} (hX : ∀ (w7 : Int64), out = w7 → Ex G mX11_factored rmX11_factored Q (0, 0) X I L 85 [(0, .ref (gB G + 99)), (2, .int v2), (3, .int v3), (4, .long v4), (6, .int v6), (7, .long w7)] []) : ∀ (N : Nat) (v7 : Int64) (v9 : Int32), loopN (fun s => f_X11_factored_b60 N0 v2 v3 v4 v6 s.1 s.2) N (v7, v9) = some out → Ex G mX11_factored rmX11_factored Q (0, 0) X I L 60 [(0, .ref (gB G + 99)), (2, .int v2), (3, .int v3), (4, .long v4), (6, .int v6), (7, .long v7), (9, .int v9)] [] := by
  intro N
  induction N with
  | zero => intro v7 v9 hf; exact absurd (loopN_zero hf) id
  | succ n ih =>
    intro v7 v9 hf
    rcases loopN_succ hf with ⟨s, hb, hl⟩ | hb
    · obtain ⟨v7', v9'⟩ := s
      refine k_X11_factored_b60 hO  hb (fun _ _ he => ?_) (fun _ he => by cases he)
      cases he
      exact ih v7' v9' hl
    · exact k_X11_factored_b60 hO  hb (fun _ _ he => by cases he) (fun x0 he => hX x0 (Sum.inr.inj he))
def f_X11_factored_b41 (N : Nat) (v2 : Int32) (v3 : Int32) (v4 : Int64) (v6 : Int32) (I : MI) : Option ((Int64 × Int32) ⊕ (Int64)) := (if v3 < v6 then some (.inr v4) else if inb v6 7 then letv (Int32.toInt64 (I 130 (Int32.toNatClampNeg v6))) fun x12 => bnd1 (f_X11_factored_l60 N v2 v3 v4 v6 x12 0) fun x14 => some (.inl (v4 + x14, v6 + 1)) else none)
set_option maxRecDepth 100000 in
set_option maxHeartbeats 4000000 in
theorem k_X11_factored_b41 {G : GX} {Q : State → Prop} {X : MX} (hO : shX11 X) {v2 : Int32} {v3 : Int32}  {v4 : Int64} {v6 : Int32} {N : Nat} {I : MI} {L : ML} {out : (Int64 × Int32) ⊕ (Int64)} (hf : f_X11_factored_b41 N v2 v3 v4 v6 I = some out) (hC : ∀ (v4' : Int64) (v6' : Int32), out = .inl (v4', v6') → Ex G mX11_factored rmX11_factored Q (0, 0) X I L 41 [(0, .ref (gB G + 99)), (2, .int v2), (3, .int v3), (4, .long v4'), (6, .int v6')] []) (hX : ∀ (w4 : Int64), out = .inr w4 → Ex G mX11_factored rmX11_factored Q (0, 0) X I L 98 [(4, .long w4)] []) : Ex G mX11_factored rmX11_factored Q (0, 0) X I L 41 [(0, .ref (gB G + 99)), (2, .int v2), (3, .int v3), (4, .long v4), (6, .int v6)] [] := by
  unfold f_X11_factored_b41 at hf
  refine ex_iload 4 (pc' := 43) dX11_factored_41 rfl rfl ?_
  refine ex_iload_n 2 (pc' := 44) dX11_factored_43 rfl rfl rfl ?_
  refine ex_icmpgt (tgt := 98) (pc' := 47) dX11_factored_44 (by decide) rfl (fun hc10 => ?_) (fun hc10 => ?_)
  · replace hf := if_t hc10 hf
    exact ex_sub [3] rfl (hX _ (Option.some.inj hf).symm)
  · replace hf := if_f hc10 hf
    refine ex_aload_n 0 (pc' := 48) dX11_factored_47 rfl rfl rfl ?_
    refine ex_getR (pc' := 51) dX11_factored_48 fl_X11_103 rfl (sh11_k hO) (sh11_F36 hO) rfl ?_
    refine ex_iload 4 (pc' := 53) dX11_factored_51 rfl rfl ?_
    obtain ⟨hg11, hf⟩ := of_guard hf
    refine ex_iald (pc' := 54) dX11_factored_53 (sh11_T36 hO) (inb_in hg11) rfl ?_
    refine ex_i2l (pc' := 55) dX11_factored_54 rfl ?_
    obtain ⟨x12, hx12, hf⟩ := of_let hf
    rw [← hx12]
    refine ex_lstore (lv' := [(7, .long x12), (0, .ref (gB G + 99)), (2, .int v2), (3, .int v3), (4, .long v4), (6, .int v6)]) (pc' := 57) dX11_factored_55 (Nat.le_of_ble_eq_true rfl) rfl rfl ?_
    refine ex_iconst (v := 0) (pc' := 58) dX11_factored_57 ic_0 rfl ?_
    refine ex_istore (lv' := [(9, .int 0), (7, .long x12), (0, .ref (gB G + 99)), (2, .int v2), (3, .int v3), (4, .long v4), (6, .int v6)]) (pc' := 60) dX11_factored_58 (Nat.le_of_ble_eq_true rfl) rfl rfl ?_
    refine ex_sub (lv' := [(0, .ref (gB G + 99)), (2, .int v2), (3, .int v3), (4, .long v4), (6, .int v6), (7, .long x12), (9, .int 0)]) [2, 3, 4, 5, 6, 1, 0] rfl ?_
    obtain ⟨x14, hq15, hf⟩ := of_bnd1 hf
    refine k_X11_factored_l60 hO (fun x14' he => ?_) _ _ _ hq15
    cases he
    refine ex_lload 3 (pc' := 87) dX11_factored_85 rfl rfl ?_
    refine ex_lload 5 (pc' := 89) dX11_factored_87 rfl rfl ?_
    refine ex_ladd (pc' := 90) dX11_factored_89 rfl ?_
    refine ex_lstore (lv' := [(4, .long (v4 + x14)), (0, .ref (gB G + 99)), (2, .int v2), (3, .int v3), (6, .int v6), (7, .long x14)]) (pc' := 92) dX11_factored_90 (Nat.le_of_ble_eq_true rfl) rfl rfl ?_
    refine ex_iincc (lv' := [(6, .int (v6 + 1)), (4, .long (v4 + x14)), (0, .ref (gB G + 99)), (2, .int v2), (3, .int v3), (7, .long x14)]) 4 (pc' := 95) dX11_factored_92 rfl ic_1 (Nat.le_of_ble_eq_true rfl) rfl rfl ?_
    refine ex_goto (tgt := 41) dX11_factored_95 (by decide) ?_
    exact ex_sub [2, 3, 4, 1, 0] rfl (hC _ _ (Option.some.inj hf).symm)
def f_X11_factored_l41 (N : Nat) (v2 : Int32) (v3 : Int32) (v4 : Int64) (v6 : Int32) (I : MI) : Option (Int64) := loopN (fun s => f_X11_factored_b41 N v2 v3 s.1 s.2 I) N (v4, v6)
set_option maxRecDepth 100000 in
set_option maxHeartbeats 4000000 in
theorem k_X11_factored_l41 {G : GX} {Q : State → Prop} {X : MX} (hO : shX11 X) {v2 : Int32} {v3 : Int32}  {N0 : Nat} {I : MI} {L : ML} {out : (Int64)} (hX : ∀ (w4 : Int64), out = w4 → Ex G mX11_factored rmX11_factored Q (0, 0) X I L 98 [(4, .long w4)] []) : ∀ (N : Nat) (v4 : Int64) (v6 : Int32), loopN (fun s => f_X11_factored_b41 N0 v2 v3 s.1 s.2 I) N (v4, v6) = some out → Ex G mX11_factored rmX11_factored Q (0, 0) X I L 41 [(0, .ref (gB G + 99)), (2, .int v2), (3, .int v3), (4, .long v4), (6, .int v6)] [] := by
  intro N
  induction N with
  | zero => intro v4 v6 hf; exact absurd (loopN_zero hf) id
  | succ n ih =>
    intro v4 v6 hf
    rcases loopN_succ hf with ⟨s, hb, hl⟩ | hb
    · obtain ⟨v4', v6'⟩ := s
      refine k_X11_factored_b41 hO  hb (fun _ _ he => ?_) (fun _ he => by cases he)
      cases he
      exact ih v4' v6' hl
    · exact k_X11_factored_b41 hO  hb (fun _ _ he => by cases he) (fun x0 he => hX x0 (Sum.inr.inj he))
def f_X11_factored (N : Nat) (v1 : Int32) (v2 : Int32) (I : MI) : Option (Int64 × MI) := bnd1 (f_X11_isSix v1) fun r1 => (if r1 = 0 then some ((-9223372036854775808), I) else bnd1 (f_X11_in (Int32.toInt64 v2) 0 20) fun r4 => (if r4 = 0 then some ((-9223372036854775808), I) else bnd1 (f_X11_layCounts N v1 I) fun I7 => if inb v1 6 then bnd1 (f_X11_factored_l41 N v2 (I7 103 (Int32.toNatClampNeg v1)) 0 0 I7) fun x16 => some (x16, I7) else none))
set_option maxRecDepth 100000 in
set_option maxHeartbeats 4000000 in
theorem kb_X11_factored {G : GX} {Q : State → Prop} {X : MX} (hO : shX11 X) {v1 : Int32} {v2 : Int32}  {N : Nat} {I : MI} {L : ML} {out : Int64 × MI} (hf : f_X11_factored N v1 v2 I = some out) (hR : ∀ (z : Int64) (I' : MI), out = (z, I') → Q = RetQ G (some (.long z)) X I' L (0, 0)) : Ex G mX11_factored rmX11_factored Q (0, 0) X I L 0 [(0, .ref (gB G + 99)), (1, .int v1), (2, .int v2)] [] := by
  unfold f_X11_factored at hf
  refine ex_iload_n 1 (pc' := 1) dX11_factored_0 rfl rfl rfl ?_
  obtain ⟨r1, hq2, hf⟩ := of_bnd1 hf
  refine ex_callS_i (rm' := rmX11_isSix) (st := []) (pc' := 4) [.int v1] dX11_factored_1 cl_X11_133 (k_X11_isSix G hq2) rfl rfl rfl (ROOM_of rfl) (Nat.le_of_ble_eq_true rfl) rfl rfl ?_
  refine ex_ifeq (tgt := 19) (pc' := 7) dX11_factored_4 (by decide) rfl (fun hc3 => ?_) (fun hc3 => ?_)
  · replace hf := if_t hc3 hf
    refine ex_ldc2 (v := (-9223372036854775808)) (pc' := 22) dX11_factored_19 co_X11_149 rfl ?_
    exact ex_lret dX11_factored_22 rfl (hR _ _ (Option.some.inj hf).symm)
  · replace hf := if_f hc3 hf
    refine ex_iload_n 2 (pc' := 8) dX11_factored_7 rfl rfl rfl ?_
    refine ex_i2l (pc' := 9) dX11_factored_8 rfl ?_
    refine ex_lconst (v := 0) (pc' := 10) dX11_factored_9 lc_0 rfl ?_
    refine ex_ldc2 (v := 20) (pc' := 13) dX11_factored_10 co_X11_147 rfl ?_
    obtain ⟨r4, hq5, hf⟩ := of_bnd1 hf
    refine ex_callS_i (rm' := rmX11_in) (st := []) (pc' := 16) [.long (Int32.toInt64 v2), .long 0, .long 20] dX11_factored_13 cl_X11_129 (k_X11_in G hq5) rfl rfl rfl (ROOM_of rfl) (Nat.le_of_ble_eq_true rfl) rfl rfl ?_
    refine ex_ifne (tgt := 23) (pc' := 19) dX11_factored_16 (by decide) rfl (fun hc6 => ?_) (fun hc6 => ?_)
    · replace hf := if_t hc6 hf
      refine ex_ldc2 (v := (-9223372036854775808)) (pc' := 22) dX11_factored_19 co_X11_149 rfl ?_
      exact ex_lret dX11_factored_22 rfl (hR _ _ (Option.some.inj hf).symm)
    · replace hf := if_f hc6 hf
      refine ex_aload_n 0 (pc' := 24) dX11_factored_23 rfl rfl rfl ?_
      refine ex_iload_n 1 (pc' := 25) dX11_factored_24 rfl rfl rfl ?_
      obtain ⟨I7, hq8, hf⟩ := of_bnd1 hf
      refine ex_callV_v (rm' := rmX11_layCounts) (st := []) (pc' := 28) [.int v1] dX11_factored_25 cl_X11_193 (k_X11_layCounts G hO hq8) rfl (sh11_k hO) ⟨_, _, rfl⟩ rfl rfl (ROOM_of rfl) (Nat.le_of_ble_eq_true rfl) rfl rfl ?_
      refine ex_aload_n 0 (pc' := 29) dX11_factored_28 rfl rfl rfl ?_
      refine ex_getR (pc' := 32) dX11_factored_29 fl_X11_22 rfl (sh11_k hO) (sh11_F3 hO) rfl ?_
      refine ex_iload_n 1 (pc' := 33) dX11_factored_32 rfl rfl rfl ?_
      obtain ⟨hg9, hf⟩ := of_guard hf
      refine ex_iald (pc' := 34) dX11_factored_33 (sh11_T3 hO) (inb_in hg9) rfl ?_
      refine ex_istore_n (lv' := [(3, .int (I7 103 (Int32.toNatClampNeg v1))), (0, .ref (gB G + 99)), (1, .int v1), (2, .int v2)]) (pc' := 35) dX11_factored_34 rfl (Nat.le_of_ble_eq_true rfl) rfl rfl ?_
      refine ex_lconst (v := 0) (pc' := 36) dX11_factored_35 lc_0 rfl ?_
      refine ex_lstore (lv' := [(4, .long 0), (3, .int (I7 103 (Int32.toNatClampNeg v1))), (0, .ref (gB G + 99)), (1, .int v1), (2, .int v2)]) (pc' := 38) dX11_factored_36 (Nat.le_of_ble_eq_true rfl) rfl rfl ?_
      refine ex_iconst (v := 0) (pc' := 39) dX11_factored_38 ic_0 rfl ?_
      refine ex_istore (lv' := [(6, .int 0), (4, .long 0), (3, .int (I7 103 (Int32.toNatClampNeg v1))), (0, .ref (gB G + 99)), (1, .int v1), (2, .int v2)]) (pc' := 41) dX11_factored_39 (Nat.le_of_ble_eq_true rfl) rfl rfl ?_
      refine ex_sub (lv' := [(0, .ref (gB G + 99)), (2, .int v2), (3, .int (I7 103 (Int32.toNatClampNeg v1))), (4, .long 0), (6, .int 0)]) [3, 5, 2, 1, 0] rfl ?_
      obtain ⟨x16, hq17, hf⟩ := of_bnd1 hf
      refine k_X11_factored_l41 hO (fun x16' he => ?_) _ _ _ hq17
      cases he
      refine ex_lload 0 (pc' := 100) dX11_factored_98 rfl rfl ?_
      exact ex_lret dX11_factored_100 rfl (hR _ _ (Option.some.inj hf).symm)
set_option maxRecDepth 100000 in
set_option maxHeartbeats 4000000 in
theorem k_X11_factored (G : GX) {X : MX} (hO : shX11 X) {v1 : Int32} {v2 : Int32}  {N : Nat} {I : MI} {L : ML} {z : Int64} {I' : MI} (hf : f_X11_factored N v1 v2 I = some (z, I')) : Con G mX11_factored yX11_factored rmX11_factored (fun B => [.ref (B + 99), .int v1, .int v2]) X I L (some (.long z)) X I' L :=
  Con.of (by decide) rfl (fun h => by cases h) (fun B => Nat.le_of_ble_eq_true rfl) (fun G => kb_X11_factored hO  hf (fun _ _ he => by cases he; rfl))
theorem fl_X11_297 : FLD RX11 297 11 13 false := ⟨RX11, TX11, 51, rfl, inX11, by decide, lwg_at 947 (by decide +kernel) rfl, nmX11, tyX11_ok, rfl, rfl⟩
theorem fl_X11_46 : FLD RX11 46 11 14 true := ⟨RX11, TX11, 51, rfl, inX11, by decide, lwg_at 948 (by decide +kernel) rfl, nmX11, tyX11_ok, rfl, rfl⟩
theorem co_X11_300 : Cond.constantLong RX11 300 (48) ∈ lwg := lwg_at 1384 (by decide +kernel) rfl
theorem co_X11_302 : Cond.constantLong RX11 302 (57) ∈ lwg := lwg_at 1385 (by decide +kernel) rfl
-- X11_faultAt ('RookWordsModel', 'faultAt', '()I')
def rmX11_faultAt : RM := ((1, 25, 0, 0), false, (some FieldType.int))
def f_X11_faultAt_b9_j93 (N : Nat) (v1 : Int32) (v2 : Int32) (v3 : Int32) (v4 : Int32) (v5 : Int32) (I : MI) : Option ((Int32 × Int32 × Int32 × Int32) ⊕ ((Int32 × Int32) ⊕ (Int32))) := bnd1 (f_X11_in (Int32.toInt64 v5) 48 57) fun r10 => (if r10 = 0 then some (.inr (.inr v4)) else (if v3 = 0 then some (.inr (.inr v4)) else some (.inl (v1, v2, 0, v4 + 1))))
set_option maxRecDepth 100000 in
set_option maxHeartbeats 4000000 in
theorem k_X11_faultAt_b9_j93 {G : GX} {Q : State → Prop} {X : MX} (hO : shX11 X) {v1 : Int32} {v2 : Int32} {v3 : Int32} {v4 : Int32} {v5 : Int32}   {N : Nat} {I : MI} {L : ML} {out : (Int32 × Int32 × Int32 × Int32) ⊕ ((Int32 × Int32) ⊕ (Int32))} (hf : f_X11_faultAt_b9_j93 N v1 v2 v3 v4 v5 I = some out) (hC : ∀ (v1' : Int32) (v2' : Int32) (v3' : Int32) (v4' : Int32), out = .inl (v1', v2', v3', v4') → Ex G mX11_faultAt rmX11_faultAt Q (0, 0) X I L 9 [(0, .ref (gB G + 99)), (1, .int v1'), (2, .int v2'), (3, .int v3'), (4, .int v4')] []) (hX : ∀ (w1 : Int32) (w2 : Int32), out = .inr (.inl (w1, w2)) → Ex G mX11_faultAt rmX11_faultAt Q (0, 0) X I L 126 [(0, .ref (gB G + 99)), (1, .int w1), (2, .int w2)] []) (hR : ∀ (z : Int32), out = .inr (.inr z) → Q = RetQ G (some (.int z)) X I L (0, 0)) : Ex G mX11_faultAt rmX11_faultAt Q (0, 0) X I L 93 [(0, .ref (gB G + 99)), (1, .int v1), (2, .int v2), (3, .int v3), (4, .int v4), (5, .int v5)] [] := by
  unfold f_X11_faultAt_b9_j93 at hf
  refine ex_iload 5 (pc' := 95) dX11_faultAt_93 rfl rfl ?_
  refine ex_i2l (pc' := 96) dX11_faultAt_95 rfl ?_
  refine ex_ldc2 (v := 48) (pc' := 99) dX11_faultAt_96 co_X11_300 rfl ?_
  refine ex_ldc2 (v := 57) (pc' := 102) dX11_faultAt_99 co_X11_302 rfl ?_
  obtain ⟨r10, hq11, hf⟩ := of_bnd1 hf
  refine ex_callS_i (rm' := rmX11_in) (st := []) (pc' := 105) [.long (Int32.toInt64 v5), .long 48, .long 57] dX11_faultAt_102 cl_X11_129 (k_X11_in G hq11) rfl rfl rfl (ROOM_of rfl) (Nat.le_of_ble_eq_true rfl) rfl rfl ?_
  refine ex_ifeq (tgt := 117) (pc' := 108) dX11_faultAt_105 (by decide) rfl (fun hc12 => ?_) (fun hc12 => ?_)
  · replace hf := if_t hc12 hf
    refine ex_iload 4 (pc' := 119) dX11_faultAt_117 rfl rfl ?_
    exact ex_iret dX11_faultAt_119 rfl (hR _ (Option.some.inj hf).symm)
  · replace hf := if_f hc12 hf
    refine ex_iload_n 3 (pc' := 109) dX11_faultAt_108 rfl rfl rfl ?_
    refine ex_ifeq (tgt := 117) (pc' := 112) dX11_faultAt_109 (by decide) rfl (fun hc13 => ?_) (fun hc13 => ?_)
    · replace hf := if_t hc13 hf
      refine ex_iload 4 (pc' := 119) dX11_faultAt_117 rfl rfl ?_
      exact ex_iret dX11_faultAt_119 rfl (hR _ (Option.some.inj hf).symm)
    · replace hf := if_f hc13 hf
      refine ex_iconst (v := 0) (pc' := 113) dX11_faultAt_112 ic_0 rfl ?_
      refine ex_istore_n (lv' := [(3, .int 0), (0, .ref (gB G + 99)), (1, .int v1), (2, .int v2), (4, .int v4), (5, .int v5)]) (pc' := 114) dX11_faultAt_113 rfl (Nat.le_of_ble_eq_true rfl) rfl rfl ?_
      refine ex_goto (tgt := 120) dX11_faultAt_114 (by decide) ?_
      refine ex_iincc (lv' := [(4, .int (v4 + 1)), (3, .int 0), (0, .ref (gB G + 99)), (1, .int v1), (2, .int v2), (5, .int v5)]) 4 (pc' := 123) dX11_faultAt_120 rfl ic_1 (Nat.le_of_ble_eq_true rfl) rfl rfl ?_
      refine ex_goto (tgt := 9) dX11_faultAt_123 (by decide) ?_
      exact ex_sub [2, 3, 4, 1, 0] rfl (hC _ _ _ _ (Option.some.inj hf).symm)
def f_X11_faultAt_b9_j70 (N : Nat) (v1 : Int32) (v2 : Int32) (v3 : Int32) (v4 : Int32) (v5 : Int32) (I : MI) : Option ((Int32 × Int32 × Int32 × Int32) ⊕ ((Int32 × Int32) ⊕ (Int32))) := (if v5 = 41 then (if 0 < v1 then (if v2 = 0 then f_X11_faultAt_b9_j93 N v1 v2 v3 v4 v5 I else some (.inl (v1 + (-1), v2, 1, v4 + 1))) else f_X11_faultAt_b9_j93 N v1 v2 v3 v4 v5 I) else f_X11_faultAt_b9_j93 N v1 v2 v3 v4 v5 I)
set_option maxRecDepth 100000 in
set_option maxHeartbeats 4000000 in
theorem k_X11_faultAt_b9_j70 {G : GX} {Q : State → Prop} {X : MX} (hO : shX11 X) {v1 : Int32} {v2 : Int32} {v3 : Int32} {v4 : Int32} {v5 : Int32}   {N : Nat} {I : MI} {L : ML} {out : (Int32 × Int32 × Int32 × Int32) ⊕ ((Int32 × Int32) ⊕ (Int32))} (hf : f_X11_faultAt_b9_j70 N v1 v2 v3 v4 v5 I = some out) (hC : ∀ (v1' : Int32) (v2' : Int32) (v3' : Int32) (v4' : Int32), out = .inl (v1', v2', v3', v4') → Ex G mX11_faultAt rmX11_faultAt Q (0, 0) X I L 9 [(0, .ref (gB G + 99)), (1, .int v1'), (2, .int v2'), (3, .int v3'), (4, .int v4')] []) (hX : ∀ (w1 : Int32) (w2 : Int32), out = .inr (.inl (w1, w2)) → Ex G mX11_faultAt rmX11_faultAt Q (0, 0) X I L 126 [(0, .ref (gB G + 99)), (1, .int w1), (2, .int w2)] []) (hR : ∀ (z : Int32), out = .inr (.inr z) → Q = RetQ G (some (.int z)) X I L (0, 0)) : Ex G mX11_faultAt rmX11_faultAt Q (0, 0) X I L 70 [(0, .ref (gB G + 99)), (1, .int v1), (2, .int v2), (3, .int v3), (4, .int v4), (5, .int v5)] [] := by
  unfold f_X11_faultAt_b9_j70 at hf
  refine ex_iload 5 (pc' := 72) dX11_faultAt_70 rfl rfl ?_
  refine ex_bipush (v := 41) (pc' := 74) dX11_faultAt_72 bp_41 rfl ?_
  refine ex_icmpne (tgt := 93) (pc' := 77) dX11_faultAt_74 (by decide) rfl (fun hc7 => ?_) (fun hc7 => ?_)
  · replace hf := if_t hc7 hf
    refine ex_iload_n 1 (pc' := 78) dX11_faultAt_77 rfl rfl rfl ?_
    refine ex_ifle (tgt := 93) (pc' := 81) dX11_faultAt_78 (by decide) rfl (fun hc8 => ?_) (fun hc8 => ?_)
    · replace hf := if_t hc8 hf
      refine ex_iload_n 2 (pc' := 82) dX11_faultAt_81 rfl rfl rfl ?_
      refine ex_ifeq (tgt := 93) (pc' := 85) dX11_faultAt_82 (by decide) rfl (fun hc9 => ?_) (fun hc9 => ?_)
      · replace hf := if_t hc9 hf
        refine ex_sub [0, 1, 2, 3, 4, 5] rfl (k_X11_faultAt_b9_j93 hO  hf hC hX hR)
      · replace hf := if_f hc9 hf
        refine ex_iincc (lv' := [(1, .int (v1 + (-1))), (0, .ref (gB G + 99)), (2, .int v2), (3, .int v3), (4, .int v4), (5, .int v5)]) 1 (pc' := 88) dX11_faultAt_85 rfl ic_m1 (Nat.le_of_ble_eq_true rfl) rfl rfl ?_
        refine ex_iconst (v := 1) (pc' := 89) dX11_faultAt_88 ic_1 rfl ?_
        refine ex_istore_n (lv' := [(3, .int 1), (1, .int (v1 + (-1))), (0, .ref (gB G + 99)), (2, .int v2), (4, .int v4), (5, .int v5)]) (pc' := 90) dX11_faultAt_89 rfl (Nat.le_of_ble_eq_true rfl) rfl rfl ?_
        refine ex_goto (tgt := 120) dX11_faultAt_90 (by decide) ?_
        refine ex_iincc (lv' := [(4, .int (v4 + 1)), (3, .int 1), (1, .int (v1 + (-1))), (0, .ref (gB G + 99)), (2, .int v2), (5, .int v5)]) 4 (pc' := 123) dX11_faultAt_120 rfl ic_1 (Nat.le_of_ble_eq_true rfl) rfl rfl ?_
        refine ex_goto (tgt := 9) dX11_faultAt_123 (by decide) ?_
        exact ex_sub [3, 2, 4, 1, 0] rfl (hC _ _ _ _ (Option.some.inj hf).symm)
    · replace hf := if_f hc8 hf
      refine ex_sub [0, 1, 2, 3, 4, 5] rfl (k_X11_faultAt_b9_j93 hO  hf hC hX hR)
  · replace hf := if_f hc7 hf
    refine ex_sub [0, 1, 2, 3, 4, 5] rfl (k_X11_faultAt_b9_j93 hO  hf hC hX hR)
def f_X11_faultAt_b9 (N : Nat)  (v1 : Int32) (v2 : Int32) (v3 : Int32) (v4 : Int32) (I : MI) : Option ((Int32 × Int32 × Int32 × Int32) ⊕ ((Int32 × Int32) ⊕ (Int32))) := (if v4 < (I 99 13) then if inb v4 80 then (if (I 111 (Int32.toNatClampNeg v4)) = 85 then some (.inl (v1, 1, 1, v4 + 1)) else (if (I 111 (Int32.toNatClampNeg v4)) = 68 then some (.inl (v1, 1, 1, v4 + 1)) else (if (I 111 (Int32.toNatClampNeg v4)) = 40 then (if v1 < 4 then some (.inl (v1 + 1, 0, 0, v4 + 1)) else f_X11_faultAt_b9_j70 N v1 v2 v3 v4 (I 111 (Int32.toNatClampNeg v4)) I) else f_X11_faultAt_b9_j70 N v1 v2 v3 v4 (I 111 (Int32.toNatClampNeg v4)) I))) else none else some (.inr (.inl (v1, v2))))
set_option maxRecDepth 100000 in
set_option maxHeartbeats 4000000 in
theorem k_X11_faultAt_b9 {G : GX} {Q : State → Prop} {X : MX} (hO : shX11 X)   {v1 : Int32} {v2 : Int32} {v3 : Int32} {v4 : Int32} {N : Nat} {I : MI} {L : ML} {out : (Int32 × Int32 × Int32 × Int32) ⊕ ((Int32 × Int32) ⊕ (Int32))} (hf : f_X11_faultAt_b9 N v1 v2 v3 v4 I = some out) (hC : ∀ (v1' : Int32) (v2' : Int32) (v3' : Int32) (v4' : Int32), out = .inl (v1', v2', v3', v4') → Ex G mX11_faultAt rmX11_faultAt Q (0, 0) X I L 9 [(0, .ref (gB G + 99)), (1, .int v1'), (2, .int v2'), (3, .int v3'), (4, .int v4')] []) (hX : ∀ (w1 : Int32) (w2 : Int32), out = .inr (.inl (w1, w2)) → Ex G mX11_faultAt rmX11_faultAt Q (0, 0) X I L 126 [(0, .ref (gB G + 99)), (1, .int w1), (2, .int w2)] []) (hR : ∀ (z : Int32), out = .inr (.inr z) → Q = RetQ G (some (.int z)) X I L (0, 0)) : Ex G mX11_faultAt rmX11_faultAt Q (0, 0) X I L 9 [(0, .ref (gB G + 99)), (1, .int v1), (2, .int v2), (3, .int v3), (4, .int v4)] [] := by
  unfold f_X11_faultAt_b9 at hf
  refine ex_iload 4 (pc' := 11) dX11_faultAt_9 rfl rfl ?_
  refine ex_aload_n 0 (pc' := 12) dX11_faultAt_11 rfl rfl rfl ?_
  refine ex_getI (pc' := 15) dX11_faultAt_12 fl_X11_297 rfl (sh11_k hO) rfl ?_
  refine ex_icmpge (tgt := 126) (pc' := 18) dX11_faultAt_15 (by decide) rfl (fun hc1 => ?_) (fun hc1 => ?_)
  · replace hf := if_t hc1 hf
    refine ex_aload_n 0 (pc' := 19) dX11_faultAt_18 rfl rfl rfl ?_
    refine ex_getR (pc' := 22) dX11_faultAt_19 fl_X11_46 rfl (sh11_k hO) (sh11_F14 hO) rfl ?_
    refine ex_iload 4 (pc' := 24) dX11_faultAt_22 rfl rfl ?_
    obtain ⟨hg2, hf⟩ := of_guard hf
    refine ex_iald (pc' := 25) dX11_faultAt_24 (sh11_T14 hO) (inb_in hg2) rfl ?_
    refine ex_istore (lv' := [(5, .int (I 111 (Int32.toNatClampNeg v4))), (0, .ref (gB G + 99)), (1, .int v1), (2, .int v2), (3, .int v3), (4, .int v4)]) (pc' := 27) dX11_faultAt_25 (Nat.le_of_ble_eq_true rfl) rfl rfl ?_
    refine ex_iload 0 (pc' := 29) dX11_faultAt_27 rfl rfl ?_
    refine ex_bipush (v := 85) (pc' := 31) dX11_faultAt_29 bp_85 rfl ?_
    refine ex_icmpeq (tgt := 41) (pc' := 34) dX11_faultAt_31 (by decide) rfl (fun hc3 => ?_) (fun hc3 => ?_)
    · replace hf := if_t hc3 hf
      refine ex_iconst (v := 1) (pc' := 42) dX11_faultAt_41 ic_1 rfl ?_
      refine ex_istore_n (lv' := [(2, .int 1), (5, .int (I 111 (Int32.toNatClampNeg v4))), (0, .ref (gB G + 99)), (1, .int v1), (3, .int v3), (4, .int v4)]) (pc' := 43) dX11_faultAt_42 rfl (Nat.le_of_ble_eq_true rfl) rfl rfl ?_
      refine ex_iconst (v := 1) (pc' := 44) dX11_faultAt_43 ic_1 rfl ?_
      refine ex_istore_n (lv' := [(3, .int 1), (2, .int 1), (5, .int (I 111 (Int32.toNatClampNeg v4))), (0, .ref (gB G + 99)), (1, .int v1), (4, .int v4)]) (pc' := 45) dX11_faultAt_44 rfl (Nat.le_of_ble_eq_true rfl) rfl rfl ?_
      refine ex_goto (tgt := 120) dX11_faultAt_45 (by decide) ?_
      refine ex_iincc (lv' := [(4, .int (v4 + 1)), (3, .int 1), (2, .int 1), (5, .int (I 111 (Int32.toNatClampNeg v4))), (0, .ref (gB G + 99)), (1, .int v1)]) 5 (pc' := 123) dX11_faultAt_120 rfl ic_1 (Nat.le_of_ble_eq_true rfl) rfl rfl ?_
      refine ex_goto (tgt := 9) dX11_faultAt_123 (by decide) ?_
      exact ex_sub [4, 5, 2, 1, 0] rfl (hC _ _ _ _ (Option.some.inj hf).symm)
    · replace hf := if_f hc3 hf
      refine ex_iload 0 (pc' := 36) dX11_faultAt_34 rfl rfl ?_
      refine ex_bipush (v := 68) (pc' := 38) dX11_faultAt_36 bp_68 rfl ?_
      refine ex_icmpne (tgt := 48) (pc' := 41) dX11_faultAt_38 (by decide) rfl (fun hc4 => ?_) (fun hc4 => ?_)
      · replace hf := if_t hc4 hf
        refine ex_iconst (v := 1) (pc' := 42) dX11_faultAt_41 ic_1 rfl ?_
        refine ex_istore_n (lv' := [(2, .int 1), (5, .int (I 111 (Int32.toNatClampNeg v4))), (0, .ref (gB G + 99)), (1, .int v1), (3, .int v3), (4, .int v4)]) (pc' := 43) dX11_faultAt_42 rfl (Nat.le_of_ble_eq_true rfl) rfl rfl ?_
        refine ex_iconst (v := 1) (pc' := 44) dX11_faultAt_43 ic_1 rfl ?_
        refine ex_istore_n (lv' := [(3, .int 1), (2, .int 1), (5, .int (I 111 (Int32.toNatClampNeg v4))), (0, .ref (gB G + 99)), (1, .int v1), (4, .int v4)]) (pc' := 45) dX11_faultAt_44 rfl (Nat.le_of_ble_eq_true rfl) rfl rfl ?_
        refine ex_goto (tgt := 120) dX11_faultAt_45 (by decide) ?_
        refine ex_iincc (lv' := [(4, .int (v4 + 1)), (3, .int 1), (2, .int 1), (5, .int (I 111 (Int32.toNatClampNeg v4))), (0, .ref (gB G + 99)), (1, .int v1)]) 5 (pc' := 123) dX11_faultAt_120 rfl ic_1 (Nat.le_of_ble_eq_true rfl) rfl rfl ?_
        refine ex_goto (tgt := 9) dX11_faultAt_123 (by decide) ?_
        exact ex_sub [4, 5, 2, 1, 0] rfl (hC _ _ _ _ (Option.some.inj hf).symm)
      · replace hf := if_f hc4 hf
        refine ex_iload 0 (pc' := 50) dX11_faultAt_48 rfl rfl ?_
        refine ex_bipush (v := 40) (pc' := 52) dX11_faultAt_50 bp_40 rfl ?_
        refine ex_icmpne (tgt := 70) (pc' := 55) dX11_faultAt_52 (by decide) rfl (fun hc5 => ?_) (fun hc5 => ?_)
        · replace hf := if_t hc5 hf
          refine ex_iload_n 2 (pc' := 56) dX11_faultAt_55 rfl rfl rfl ?_
          refine ex_iconst (v := 4) (pc' := 57) dX11_faultAt_56 ic_4 rfl ?_
          refine ex_icmpge (tgt := 70) (pc' := 60) dX11_faultAt_57 (by decide) rfl (fun hc6 => ?_) (fun hc6 => ?_)
          · replace hf := if_t hc6 hf
            refine ex_iincc (lv' := [(1, .int (v1 + 1)), (5, .int (I 111 (Int32.toNatClampNeg v4))), (0, .ref (gB G + 99)), (2, .int v2), (3, .int v3), (4, .int v4)]) 2 (pc' := 63) dX11_faultAt_60 rfl ic_1 (Nat.le_of_ble_eq_true rfl) rfl rfl ?_
            refine ex_iconst (v := 0) (pc' := 64) dX11_faultAt_63 ic_0 rfl ?_
            refine ex_istore_n (lv' := [(2, .int 0), (1, .int (v1 + 1)), (5, .int (I 111 (Int32.toNatClampNeg v4))), (0, .ref (gB G + 99)), (3, .int v3), (4, .int v4)]) (pc' := 65) dX11_faultAt_64 rfl (Nat.le_of_ble_eq_true rfl) rfl rfl ?_
            refine ex_iconst (v := 0) (pc' := 66) dX11_faultAt_65 ic_0 rfl ?_
            refine ex_istore_n (lv' := [(3, .int 0), (2, .int 0), (1, .int (v1 + 1)), (5, .int (I 111 (Int32.toNatClampNeg v4))), (0, .ref (gB G + 99)), (4, .int v4)]) (pc' := 67) dX11_faultAt_66 rfl (Nat.le_of_ble_eq_true rfl) rfl rfl ?_
            refine ex_goto (tgt := 120) dX11_faultAt_67 (by decide) ?_
            refine ex_iincc (lv' := [(4, .int (v4 + 1)), (3, .int 0), (2, .int 0), (1, .int (v1 + 1)), (5, .int (I 111 (Int32.toNatClampNeg v4))), (0, .ref (gB G + 99))]) 5 (pc' := 123) dX11_faultAt_120 rfl ic_1 (Nat.le_of_ble_eq_true rfl) rfl rfl ?_
            refine ex_goto (tgt := 9) dX11_faultAt_123 (by decide) ?_
            exact ex_sub [5, 3, 2, 1, 0] rfl (hC _ _ _ _ (Option.some.inj hf).symm)
          · replace hf := if_f hc6 hf
            refine ex_sub [1, 2, 3, 4, 5, 0] rfl (k_X11_faultAt_b9_j70 hO  hf hC hX hR)
        · replace hf := if_f hc5 hf
          refine ex_sub [1, 2, 3, 4, 5, 0] rfl (k_X11_faultAt_b9_j70 hO  hf hC hX hR)
  · replace hf := if_f hc1 hf
    exact ex_sub [0, 1, 2] rfl (hX _ _ (Option.some.inj hf).symm)
def f_X11_faultAt_l9 (N : Nat)  (v1 : Int32) (v2 : Int32) (v3 : Int32) (v4 : Int32) (I : MI) : Option ((Int32 × Int32) ⊕ (Int32)) := loopN (fun s => f_X11_faultAt_b9 N s.1 s.2.1 s.2.2.1 s.2.2.2 I) N (v1, v2, v3, v4)
set_option maxRecDepth 100000 in
set_option maxHeartbeats 4000000 in
theorem k_X11_faultAt_l9 {G : GX} {Q : State → Prop} {X : MX} (hO : shX11 X)   {N0 : Nat} {I : MI} {L : ML} {out : ((Int32 × Int32) ⊕ (Int32))} (hX : ∀ (w1 : Int32) (w2 : Int32), out = .inl (w1, w2) → Ex G mX11_faultAt rmX11_faultAt Q (0, 0) X I L 126 [(0, .ref (gB G + 99)), (1, .int w1), (2, .int w2)] []) (hR : ∀ (z : Int32), out = .inr z → Q = RetQ G (some (.int z)) X I L (0, 0)) : ∀ (N : Nat) (v1 : Int32) (v2 : Int32) (v3 : Int32) (v4 : Int32), loopN (fun s => f_X11_faultAt_b9 N0 s.1 s.2.1 s.2.2.1 s.2.2.2 I) N (v1, v2, v3, v4) = some out → Ex G mX11_faultAt rmX11_faultAt Q (0, 0) X I L 9 [(0, .ref (gB G + 99)), (1, .int v1), (2, .int v2), (3, .int v3), (4, .int v4)] [] := by
  intro N
  induction N with
  | zero => intro v1 v2 v3 v4 hf; exact absurd (loopN_zero hf) id
  | succ n ih =>
    intro v1 v2 v3 v4 hf
    rcases loopN_succ hf with ⟨s, hb, hl⟩ | hb
    · obtain ⟨v1', v2', v3', v4'⟩ := s
      refine k_X11_faultAt_b9 hO  hb (fun _ _ _ _ he => ?_) (fun _ _ he => by cases he) (fun _ he => by cases he)
      cases he
      exact ih v1' v2' v3' v4' hl
    · exact k_X11_faultAt_b9 hO  hb (fun _ _ _ _ he => by cases he) (fun x0 x1 he => hX x0 x1 (Sum.inr.inj he)) (fun z0 he => hR z0 (Sum.inr.inj he))
def f_X11_faultAt (N : Nat)  (I : MI) : Option (Int32) := bns2 (f_X11_faultAt_l9 N 0 0 0 0 I) (fun x14 x15 => (if 0 < x14 then some (I 99 13) else (if x15 = 0 then some (I 99 13) else some (-1)))) (fun q19 => some q19)
set_option maxRecDepth 100000 in
set_option maxHeartbeats 4000000 in
theorem kb_X11_faultAt {G : GX} {Q : State → Prop} {X : MX} (hO : shX11 X)   {N : Nat} {I : MI} {L : ML} {out : Int32} (hf : f_X11_faultAt N I = some out) (hR : ∀ (z : Int32), out = z → Q = RetQ G (some (.int z)) X I L (0, 0)) : Ex G mX11_faultAt rmX11_faultAt Q (0, 0) X I L 0 [(0, .ref (gB G + 99))] [] := by
  unfold f_X11_faultAt at hf
  refine ex_iconst (v := 0) (pc' := 1) dX11_faultAt_0 ic_0 rfl ?_
  refine ex_istore_n (lv' := [(1, .int 0), (0, .ref (gB G + 99))]) (pc' := 2) dX11_faultAt_1 rfl (Nat.le_of_ble_eq_true rfl) rfl rfl ?_
  refine ex_iconst (v := 0) (pc' := 3) dX11_faultAt_2 ic_0 rfl ?_
  refine ex_istore_n (lv' := [(2, .int 0), (1, .int 0), (0, .ref (gB G + 99))]) (pc' := 4) dX11_faultAt_3 rfl (Nat.le_of_ble_eq_true rfl) rfl rfl ?_
  refine ex_iconst (v := 0) (pc' := 5) dX11_faultAt_4 ic_0 rfl ?_
  refine ex_istore_n (lv' := [(3, .int 0), (2, .int 0), (1, .int 0), (0, .ref (gB G + 99))]) (pc' := 6) dX11_faultAt_5 rfl (Nat.le_of_ble_eq_true rfl) rfl rfl ?_
  refine ex_iconst (v := 0) (pc' := 7) dX11_faultAt_6 ic_0 rfl ?_
  refine ex_istore (lv' := [(4, .int 0), (3, .int 0), (2, .int 0), (1, .int 0), (0, .ref (gB G + 99))]) (pc' := 9) dX11_faultAt_7 (Nat.le_of_ble_eq_true rfl) rfl rfl ?_
  refine ex_sub (lv' := [(0, .ref (gB G + 99)), (1, .int 0), (2, .int 0), (3, .int 0), (4, .int 0)]) [4, 3, 2, 1, 0] rfl ?_
  rcases of_bns2 hf with ⟨x14, x15, hq16, hf⟩ | ⟨q19, hq16, hf⟩
  · refine k_X11_faultAt_l9 hO (fun x14' x15' he => ?_) (fun _ he => by cases he) _ _ _ _ _ hq16
    cases he
    refine ex_iload_n 1 (pc' := 127) dX11_faultAt_126 rfl rfl rfl ?_
    refine ex_ifgt (tgt := 134) (pc' := 130) dX11_faultAt_127 (by decide) rfl (fun hc17 => ?_) (fun hc17 => ?_)
    · replace hf := if_t hc17 hf
      refine ex_aload_n 0 (pc' := 135) dX11_faultAt_134 rfl rfl rfl ?_
      refine ex_getI (pc' := 138) dX11_faultAt_135 fl_X11_297 rfl (sh11_k hO) rfl ?_
      refine ex_goto (tgt := 142) dX11_faultAt_138 (by decide) ?_
      exact ex_iret dX11_faultAt_142 rfl (hR _ (Option.some.inj hf).symm)
    · replace hf := if_f hc17 hf
      refine ex_iload_n 2 (pc' := 131) dX11_faultAt_130 rfl rfl rfl ?_
      refine ex_ifne (tgt := 141) (pc' := 134) dX11_faultAt_131 (by decide) rfl (fun hc18 => ?_) (fun hc18 => ?_)
      · replace hf := if_t hc18 hf
        refine ex_aload_n 0 (pc' := 135) dX11_faultAt_134 rfl rfl rfl ?_
        refine ex_getI (pc' := 138) dX11_faultAt_135 fl_X11_297 rfl (sh11_k hO) rfl ?_
        refine ex_goto (tgt := 142) dX11_faultAt_138 (by decide) ?_
        exact ex_iret dX11_faultAt_142 rfl (hR _ (Option.some.inj hf).symm)
      · replace hf := if_f hc18 hf
        refine ex_iconst (v := (-1)) (pc' := 142) dX11_faultAt_141 ic_m1 rfl ?_
        exact ex_iret dX11_faultAt_142 rfl (hR _ (Option.some.inj hf).symm)
  · refine k_X11_faultAt_l9 hO (fun _ _ he => by cases he) (fun z0 he => ?_) _ _ _ _ _ hq16
    refine hR _ ?_
    rw [← Option.some.inj hf]
    cases he
    rfl
set_option maxRecDepth 100000 in
set_option maxHeartbeats 4000000 in
theorem k_X11_faultAt (G : GX) {X : MX} (hO : shX11 X)   {N : Nat} {I : MI} {L : ML} {z : Int32} (hf : f_X11_faultAt N I = some z) : Con G mX11_faultAt yX11_faultAt rmX11_faultAt (fun B => [.ref (B + 99)]) X I L (some (.int z)) X I L :=
  Con.of (by decide) rfl (fun h => by cases h) (fun B => Nat.le_of_ble_eq_true rfl) (fun G => kb_X11_faultAt hO  hf (fun _ he => by cases he; rfl))
theorem co_X11_295 : Cond.constantLong RX11 295 (127) ∈ lwg := lwg_at 1375 (by decide +kernel) rfl
-- X11_feed ('RookWordsModel', 'feed', '(I)I')
def rmX11_feed : RM := ((1, 25, 0, 0), false, (some FieldType.int))
def f_X11_feed (v1 : Int32) (I : MI) : Option (Int32 × MI) := bnd1 (f_X11_in (Int32.toInt64 v1) 0 127) fun r1 => (if r1 = 0 then some ((-2), I) else (if (I 99 13) = 80 then some ((-4), I) else if inb (I 99 13) 80 then letv (upI I 111 (Int32.toNatClampNeg (I 99 13)) v1) fun I6 => letv (upI I6 99 13 ((I6 99 13) + 1)) fun I7 => some (I7 99 13, I7) else none))
set_option maxRecDepth 100000 in
set_option maxHeartbeats 4000000 in
theorem kb_X11_feed {G : GX} {Q : State → Prop} {X : MX} (hO : shX11 X) {v1 : Int32}  {I : MI} {L : ML} {out : Int32 × MI} (hf : f_X11_feed v1 I = some out) (hR : ∀ (z : Int32) (I' : MI), out = (z, I') → Q = RetQ G (some (.int z)) X I' L (0, 0)) : Ex G mX11_feed rmX11_feed Q (0, 0) X I L 0 [(0, .ref (gB G + 99)), (1, .int v1)] [] := by
  unfold f_X11_feed at hf
  refine ex_iload_n 1 (pc' := 1) dX11_feed_0 rfl rfl rfl ?_
  refine ex_i2l (pc' := 2) dX11_feed_1 rfl ?_
  refine ex_lconst (v := 0) (pc' := 3) dX11_feed_2 lc_0 rfl ?_
  refine ex_ldc2 (v := 127) (pc' := 6) dX11_feed_3 co_X11_295 rfl ?_
  obtain ⟨r1, hq2, hf⟩ := of_bnd1 hf
  refine ex_callS_i (rm' := rmX11_in) (st := []) (pc' := 9) [.long (Int32.toInt64 v1), .long 0, .long 127] dX11_feed_6 cl_X11_129 (k_X11_in G hq2) rfl rfl rfl (ROOM_of rfl) (Nat.le_of_ble_eq_true rfl) rfl rfl ?_
  refine ex_ifne (tgt := 15) (pc' := 12) dX11_feed_9 (by decide) rfl (fun hc3 => ?_) (fun hc3 => ?_)
  · replace hf := if_t hc3 hf
    refine ex_bipush (v := (-2)) (pc' := 14) dX11_feed_12 bp_m2 rfl ?_
    exact ex_iret dX11_feed_14 rfl (hR _ _ (Option.some.inj hf).symm)
  · replace hf := if_f hc3 hf
    refine ex_aload_n 0 (pc' := 16) dX11_feed_15 rfl rfl rfl ?_
    refine ex_getI (pc' := 19) dX11_feed_16 fl_X11_297 rfl (sh11_k hO) rfl ?_
    refine ex_bipush (v := 80) (pc' := 21) dX11_feed_19 bp_80 rfl ?_
    refine ex_icmpne (tgt := 27) (pc' := 24) dX11_feed_21 (by decide) rfl (fun hc4 => ?_) (fun hc4 => ?_)
    · replace hf := if_t hc4 hf
      refine ex_bipush (v := (-4)) (pc' := 26) dX11_feed_24 bp_m4 rfl ?_
      exact ex_iret dX11_feed_26 rfl (hR _ _ (Option.some.inj hf).symm)
    · replace hf := if_f hc4 hf
      refine ex_aload_n 0 (pc' := 28) dX11_feed_27 rfl rfl rfl ?_
      refine ex_getR (pc' := 31) dX11_feed_28 fl_X11_46 rfl (sh11_k hO) (sh11_F14 hO) rfl ?_
      refine ex_aload_n 0 (pc' := 32) dX11_feed_31 rfl rfl rfl ?_
      refine ex_getI (pc' := 35) dX11_feed_32 fl_X11_297 rfl (sh11_k hO) rfl ?_
      refine ex_iload_n 1 (pc' := 36) dX11_feed_35 rfl rfl rfl ?_
      obtain ⟨hg5, hf⟩ := of_guard hf
      refine ex_iast (pc' := 37) dX11_feed_36 (sh11_T14 hO) (inb_in hg5) rfl ?_
      obtain ⟨I6, hI6, hf⟩ := of_let hf
      rw [← hI6]
      refine ex_aload_n 0 (pc' := 38) dX11_feed_37 rfl rfl rfl ?_
      refine ex_dup (pc' := 39) dX11_feed_38 rfl rfl ?_
      refine ex_getI (pc' := 42) dX11_feed_39 fl_X11_297 rfl (sh11_k hO) rfl ?_
      refine ex_iconst (v := 1) (pc' := 43) dX11_feed_42 ic_1 rfl ?_
      refine ex_iadd (pc' := 44) dX11_feed_43 rfl ?_
      refine ex_putI (pc' := 47) dX11_feed_44 fl_X11_297 rfl (sh11_k hO) rfl ?_
      obtain ⟨I7, hI7, hf⟩ := of_let hf
      rw [← hI7]
      refine ex_aload_n 0 (pc' := 48) dX11_feed_47 rfl rfl rfl ?_
      refine ex_getI (pc' := 51) dX11_feed_48 fl_X11_297 rfl (sh11_k hO) rfl ?_
      exact ex_iret dX11_feed_51 rfl (hR _ _ (Option.some.inj hf).symm)
set_option maxRecDepth 100000 in
set_option maxHeartbeats 4000000 in
theorem k_X11_feed (G : GX) {X : MX} (hO : shX11 X) {v1 : Int32}  {I : MI} {L : ML} {z : Int32} {I' : MI} (hf : f_X11_feed v1 I = some (z, I')) : Con G mX11_feed yX11_feed rmX11_feed (fun B => [.ref (B + 99), .int v1]) X I L (some (.int z)) X I' L :=
  Con.of (by decide) rfl (fun h => by cases h) (fun B => Nat.le_of_ble_eq_true rfl) (fun G => kb_X11_feed hO  hf (fun _ _ he => by cases he; rfl))
theorem fl_X11_234 : FLD RX11 234 11 6 false := ⟨RX11, TX11, 51, rfl, inX11, by decide, lwg_at 940 (by decide +kernel) rfl, nmX11, tyX11_ok, rfl, rfl⟩
theorem fl_X11_31 : FLD RX11 31 11 7 true := ⟨RX11, TX11, 51, rfl, inX11, by decide, lwg_at 941 (by decide +kernel) rfl, nmX11, tyX11_ok, rfl, rfl⟩
theorem fl_X11_34 : FLD RX11 34 11 8 true := ⟨RX11, TX11, 51, rfl, inX11, by decide, lwg_at 942 (by decide +kernel) rfl, nmX11, tyX11_ok, rfl, rfl⟩
-- X11_fits ('RookWordsModel', 'fits', '(II)I')
def rmX11_fits : RM := ((2, 49, 0, 0), false, (some FieldType.int))
def f_X11_fits_b56 (N : Nat) (v2 : Int32) (v3 : Int32) (v4 : Int32) (v5 : Int32) (v6 : Int32) (v7 : Int32) (I : MI) : Option ((Int32 × Int32) ⊕ (Int32)) := (if v7 < (I 99 6) then (if v6 = 0 then some (.inl (0, v7 + 1)) else if inb v7 4 then if inb ((7 * v5) + (I 106 (Int32.toNatClampNeg v7))) 6468 then if inb v7 4 then (if (I 133 (Int32.toNatClampNeg ((7 * v5) + (I 106 (Int32.toNatClampNeg v7))))) = (I 107 (Int32.toNatClampNeg v7)) then some (.inl (1, v7 + 1)) else some (.inl (0, v7 + 1))) else none else none else none) else some (.inr v6))
set_option maxRecDepth 100000 in
set_option maxHeartbeats 4000000 in
theorem k_X11_fits_b56 {G : GX} {Q : State → Prop} {X : MX} (hO : shX11 X) {v2 : Int32} {v3 : Int32} {v4 : Int32} {v5 : Int32}  {v6 : Int32} {v7 : Int32} {N : Nat} {I : MI} {L : ML} {out : (Int32 × Int32) ⊕ (Int32)} (hf : f_X11_fits_b56 N v2 v3 v4 v5 v6 v7 I = some out) (hC : ∀ (v6' : Int32) (v7' : Int32), out = .inl (v6', v7') → Ex G mX11_fits rmX11_fits Q (0, 0) X I L 56 [(0, .ref (gB G + 99)), (2, .int v2), (3, .int v3), (4, .int v4), (5, .int v5), (6, .int v6'), (7, .int v7')] []) (hX : ∀ (w6 : Int32), out = .inr w6 → Ex G mX11_fits rmX11_fits Q (0, 0) X I L 111 [(0, .ref (gB G + 99)), (2, .int v2), (3, .int v3), (4, .int v4), (5, .int v5), (6, .int w6)] []) : Ex G mX11_fits rmX11_fits Q (0, 0) X I L 56 [(0, .ref (gB G + 99)), (2, .int v2), (3, .int v3), (4, .int v4), (5, .int v5), (6, .int v6), (7, .int v7)] [] := by
  unfold f_X11_fits_b56 at hf
  refine ex_iload 6 (pc' := 58) dX11_fits_56 rfl rfl ?_
  refine ex_aload_n 0 (pc' := 59) dX11_fits_58 rfl rfl rfl ?_
  refine ex_getI (pc' := 62) dX11_fits_59 fl_X11_234 rfl (sh11_k hO) rfl ?_
  refine ex_icmpge (tgt := 111) (pc' := 65) dX11_fits_62 (by decide) rfl (fun hc10 => ?_) (fun hc10 => ?_)
  · replace hf := if_t hc10 hf
    refine ex_iload 5 (pc' := 67) dX11_fits_65 rfl rfl ?_
    refine ex_ifeq (tgt := 102) (pc' := 70) dX11_fits_67 (by decide) rfl (fun hc11 => ?_) (fun hc11 => ?_)
    · replace hf := if_t hc11 hf
      refine ex_iconst (v := 0) (pc' := 103) dX11_fits_102 ic_0 rfl ?_
      refine ex_istore (lv' := [(6, .int 0), (0, .ref (gB G + 99)), (2, .int v2), (3, .int v3), (4, .int v4), (5, .int v5), (7, .int v7)]) (pc' := 105) dX11_fits_103 (Nat.le_of_ble_eq_true rfl) rfl rfl ?_
      refine ex_iincc (lv' := [(7, .int (v7 + 1)), (6, .int 0), (0, .ref (gB G + 99)), (2, .int v2), (3, .int v3), (4, .int v4), (5, .int v5)]) 6 (pc' := 108) dX11_fits_105 rfl ic_1 (Nat.le_of_ble_eq_true rfl) rfl rfl ?_
      refine ex_goto (tgt := 56) dX11_fits_108 (by decide) ?_
      exact ex_sub [2, 3, 4, 5, 6, 1, 0] rfl (hC _ _ (Option.some.inj hf).symm)
    · replace hf := if_f hc11 hf
      refine ex_aload_n 0 (pc' := 71) dX11_fits_70 rfl rfl rfl ?_
      refine ex_getR (pc' := 74) dX11_fits_71 fl_X11_112 rfl (sh11_k hO) (sh11_F41 hO) rfl ?_
      refine ex_bipush (v := 7) (pc' := 76) dX11_fits_74 bp_7 rfl ?_
      refine ex_iload 4 (pc' := 78) dX11_fits_76 rfl rfl ?_
      refine ex_imul (pc' := 79) dX11_fits_78 rfl ?_
      refine ex_aload_n 0 (pc' := 80) dX11_fits_79 rfl rfl rfl ?_
      refine ex_getR (pc' := 83) dX11_fits_80 fl_X11_31 rfl (sh11_k hO) (sh11_F7 hO) rfl ?_
      refine ex_iload 6 (pc' := 85) dX11_fits_83 rfl rfl ?_
      obtain ⟨hg12, hf⟩ := of_guard hf
      refine ex_iald (pc' := 86) dX11_fits_85 (sh11_T7 hO) (inb_in hg12) rfl ?_
      refine ex_iadd (pc' := 87) dX11_fits_86 rfl ?_
      obtain ⟨hg13, hf⟩ := of_guard hf
      refine ex_iald (pc' := 88) dX11_fits_87 (sh11_T41 hO) (inb_in hg13) rfl ?_
      refine ex_aload_n 0 (pc' := 89) dX11_fits_88 rfl rfl rfl ?_
      refine ex_getR (pc' := 92) dX11_fits_89 fl_X11_34 rfl (sh11_k hO) (sh11_F8 hO) rfl ?_
      refine ex_iload 6 (pc' := 94) dX11_fits_92 rfl rfl ?_
      obtain ⟨hg14, hf⟩ := of_guard hf
      refine ex_iald (pc' := 95) dX11_fits_94 (sh11_T8 hO) (inb_in hg14) rfl ?_
      refine ex_icmpne (tgt := 102) (pc' := 98) dX11_fits_95 (by decide) rfl (fun hc15 => ?_) (fun hc15 => ?_)
      · replace hf := if_t hc15 hf
        refine ex_iconst (v := 1) (pc' := 99) dX11_fits_98 ic_1 rfl ?_
        refine ex_goto (tgt := 103) dX11_fits_99 (by decide) ?_
        refine ex_istore (lv' := [(6, .int 1), (0, .ref (gB G + 99)), (2, .int v2), (3, .int v3), (4, .int v4), (5, .int v5), (7, .int v7)]) (pc' := 105) dX11_fits_103 (Nat.le_of_ble_eq_true rfl) rfl rfl ?_
        refine ex_iincc (lv' := [(7, .int (v7 + 1)), (6, .int 1), (0, .ref (gB G + 99)), (2, .int v2), (3, .int v3), (4, .int v4), (5, .int v5)]) 6 (pc' := 108) dX11_fits_105 rfl ic_1 (Nat.le_of_ble_eq_true rfl) rfl rfl ?_
        refine ex_goto (tgt := 56) dX11_fits_108 (by decide) ?_
        exact ex_sub [2, 3, 4, 5, 6, 1, 0] rfl (hC _ _ (Option.some.inj hf).symm)
      · replace hf := if_f hc15 hf
        refine ex_iconst (v := 0) (pc' := 103) dX11_fits_102 ic_0 rfl ?_
        refine ex_istore (lv' := [(6, .int 0), (0, .ref (gB G + 99)), (2, .int v2), (3, .int v3), (4, .int v4), (5, .int v5), (7, .int v7)]) (pc' := 105) dX11_fits_103 (Nat.le_of_ble_eq_true rfl) rfl rfl ?_
        refine ex_iincc (lv' := [(7, .int (v7 + 1)), (6, .int 0), (0, .ref (gB G + 99)), (2, .int v2), (3, .int v3), (4, .int v4), (5, .int v5)]) 6 (pc' := 108) dX11_fits_105 rfl ic_1 (Nat.le_of_ble_eq_true rfl) rfl rfl ?_
        refine ex_goto (tgt := 56) dX11_fits_108 (by decide) ?_
        exact ex_sub [2, 3, 4, 5, 6, 1, 0] rfl (hC _ _ (Option.some.inj hf).symm)
  · replace hf := if_f hc10 hf
    exact ex_sub [0, 1, 2, 3, 4, 5] rfl (hX _ (Option.some.inj hf).symm)
def f_X11_fits_l56 (N : Nat) (v2 : Int32) (v3 : Int32) (v4 : Int32) (v5 : Int32) (v6 : Int32) (v7 : Int32) (I : MI) : Option (Int32) := loopN (fun s => f_X11_fits_b56 N v2 v3 v4 v5 s.1 s.2 I) N (v6, v7)
set_option maxRecDepth 100000 in
set_option maxHeartbeats 4000000 in
theorem k_X11_fits_l56 {G : GX} {Q : State → Prop} {X : MX} (hO : shX11 X) {v2 : Int32} {v3 : Int32} {v4 : Int32} {v5 : Int32}  {N0 : Nat} {I : MI} {L : ML} {out : (Int32)} (hX : ∀ (w6 : Int32), out = w6 → Ex G mX11_fits rmX11_fits Q (0, 0) X I L 111 [(0, .ref (gB G + 99)), (2, .int v2), (3, .int v3), (4, .int v4), (5, .int v5), (6, .int w6)] []) : ∀ (N : Nat) (v6 : Int32) (v7 : Int32), loopN (fun s => f_X11_fits_b56 N0 v2 v3 v4 v5 s.1 s.2 I) N (v6, v7) = some out → Ex G mX11_fits rmX11_fits Q (0, 0) X I L 56 [(0, .ref (gB G + 99)), (2, .int v2), (3, .int v3), (4, .int v4), (5, .int v5), (6, .int v6), (7, .int v7)] [] := by
  intro N
  induction N with
  | zero => intro v6 v7 hf; exact absurd (loopN_zero hf) id
  | succ n ih =>
    intro v6 v7 hf
    rcases loopN_succ hf with ⟨s, hb, hl⟩ | hb
    · obtain ⟨v6', v7'⟩ := s
      refine k_X11_fits_b56 hO  hb (fun _ _ he => ?_) (fun _ he => by cases he)
      cases he
      exact ih v6' v7' hl
    · exact k_X11_fits_b56 hO  hb (fun _ _ he => by cases he) (fun x0 he => hX x0 (Sum.inr.inj he))
def f_X11_fits_b41_j127 (N : Nat) (v2 : Int32) (v3 : Int32) (v5 : Int32) (v6 : Int32) (s0 : Int32) (I : MI) : Option ((Int32 × Int32 × Int32) ⊕ (Int32 × Int32)) := (if v6 = 0 then some (.inl (v3 + 0, s0, v5 + 1)) else some (.inl (v3 + 1, s0, v5 + 1)))
set_option maxRecDepth 100000 in
set_option maxHeartbeats 4000000 in
theorem k_X11_fits_b41_j127 {G : GX} {Q : State → Prop} {X : MX} (hO : shX11 X) {v2 : Int32} {v3 : Int32} {v5 : Int32} {v6 : Int32} {s0 : Int32}   {N : Nat} {I : MI} {L : ML} {out : (Int32 × Int32 × Int32) ⊕ (Int32 × Int32)} (hf : f_X11_fits_b41_j127 N v2 v3 v5 v6 s0 I = some out) (hC : ∀ (v3' : Int32) (v4' : Int32) (v5' : Int32), out = .inl (v3', v4', v5') → Ex G mX11_fits rmX11_fits Q (0, 0) X I L 41 [(0, .ref (gB G + 99)), (2, .int v2), (3, .int v3'), (4, .int v4'), (5, .int v5')] []) (hX : ∀ (w3 : Int32) (w4 : Int32), out = .inr (w3, w4) → Ex G mX11_fits rmX11_fits Q (0, 0) X I L 148 [(2, .int v2), (3, .int w3), (4, .int w4)] []) : Ex G mX11_fits rmX11_fits Q (0, 0) X I L 127 [(0, .ref (gB G + 99)), (2, .int v2), (3, .int v3), (5, .int v5), (6, .int v6)] [.int s0] := by
  unfold f_X11_fits_b41_j127 at hf
  refine ex_istore (lv' := [(4, .int s0), (0, .ref (gB G + 99)), (2, .int v2), (3, .int v3), (5, .int v5), (6, .int v6)]) (pc' := 129) dX11_fits_127 (Nat.le_of_ble_eq_true rfl) rfl rfl ?_
  refine ex_iload_n 3 (pc' := 130) dX11_fits_129 rfl rfl rfl ?_
  refine ex_iload 5 (pc' := 132) dX11_fits_130 rfl rfl ?_
  refine ex_ifeq (tgt := 139) (pc' := 135) dX11_fits_132 (by decide) rfl (fun hc19 => ?_) (fun hc19 => ?_)
  · replace hf := if_t hc19 hf
    refine ex_iconst (v := 0) (pc' := 140) dX11_fits_139 ic_0 rfl ?_
    refine ex_iadd (pc' := 141) dX11_fits_140 rfl ?_
    refine ex_istore_n (lv' := [(3, .int (v3 + 0)), (4, .int s0), (0, .ref (gB G + 99)), (2, .int v2), (5, .int v5), (6, .int v6)]) (pc' := 142) dX11_fits_141 rfl (Nat.le_of_ble_eq_true rfl) rfl rfl ?_
    refine ex_iincc (lv' := [(5, .int (v5 + 1)), (3, .int (v3 + 0)), (4, .int s0), (0, .ref (gB G + 99)), (2, .int v2), (6, .int v6)]) 4 (pc' := 145) dX11_fits_142 rfl ic_1 (Nat.le_of_ble_eq_true rfl) rfl rfl ?_
    refine ex_goto (tgt := 41) dX11_fits_145 (by decide) ?_
    exact ex_sub [3, 4, 1, 2, 0] rfl (hC _ _ _ (Option.some.inj hf).symm)
  · replace hf := if_f hc19 hf
    refine ex_iconst (v := 1) (pc' := 136) dX11_fits_135 ic_1 rfl ?_
    refine ex_goto (tgt := 140) dX11_fits_136 (by decide) ?_
    refine ex_iadd (pc' := 141) dX11_fits_140 rfl ?_
    refine ex_istore_n (lv' := [(3, .int (v3 + 1)), (4, .int s0), (0, .ref (gB G + 99)), (2, .int v2), (5, .int v5), (6, .int v6)]) (pc' := 142) dX11_fits_141 rfl (Nat.le_of_ble_eq_true rfl) rfl rfl ?_
    refine ex_iincc (lv' := [(5, .int (v5 + 1)), (3, .int (v3 + 1)), (4, .int s0), (0, .ref (gB G + 99)), (2, .int v2), (6, .int v6)]) 4 (pc' := 145) dX11_fits_142 rfl ic_1 (Nat.le_of_ble_eq_true rfl) rfl rfl ?_
    refine ex_goto (tgt := 41) dX11_fits_145 (by decide) ?_
    exact ex_sub [3, 4, 1, 2, 0] rfl (hC _ _ _ (Option.some.inj hf).symm)
def f_X11_fits_b41_j125 (N : Nat) (v2 : Int32) (v3 : Int32) (v4 : Int32) (v5 : Int32) (v6 : Int32) (I : MI) : Option ((Int32 × Int32 × Int32) ⊕ (Int32 × Int32)) := f_X11_fits_b41_j127 N v2 v3 v5 v6 v4 I
set_option maxRecDepth 100000 in
set_option maxHeartbeats 4000000 in
theorem k_X11_fits_b41_j125 {G : GX} {Q : State → Prop} {X : MX} (hO : shX11 X) {v2 : Int32} {v3 : Int32} {v4 : Int32} {v5 : Int32} {v6 : Int32}   {N : Nat} {I : MI} {L : ML} {out : (Int32 × Int32 × Int32) ⊕ (Int32 × Int32)} (hf : f_X11_fits_b41_j125 N v2 v3 v4 v5 v6 I = some out) (hC : ∀ (v3' : Int32) (v4' : Int32) (v5' : Int32), out = .inl (v3', v4', v5') → Ex G mX11_fits rmX11_fits Q (0, 0) X I L 41 [(0, .ref (gB G + 99)), (2, .int v2), (3, .int v3'), (4, .int v4'), (5, .int v5')] []) (hX : ∀ (w3 : Int32) (w4 : Int32), out = .inr (w3, w4) → Ex G mX11_fits rmX11_fits Q (0, 0) X I L 148 [(2, .int v2), (3, .int w3), (4, .int w4)] []) : Ex G mX11_fits rmX11_fits Q (0, 0) X I L 125 [(0, .ref (gB G + 99)), (2, .int v2), (3, .int v3), (4, .int v4), (5, .int v5), (6, .int v6)] [] := by
  unfold f_X11_fits_b41_j125 at hf
  refine ex_iload 3 (pc' := 127) dX11_fits_125 rfl rfl ?_
  refine ex_sub [0, 1, 2, 4, 5] rfl (k_X11_fits_b41_j127 hO  hf hC hX)
def f_X11_fits_b41 (N : Nat) (v2 : Int32) (v3 : Int32) (v4 : Int32) (v5 : Int32) (I : MI) : Option ((Int32 × Int32 × Int32) ⊕ (Int32 × Int32)) := (if v5 < (I 99 38) then bnd1 (f_X11_fits_l56 N v2 v3 v4 v5 1 0 I) fun x16 => (if x16 = 0 then f_X11_fits_b41_j125 N v2 v3 v4 v5 x16 I else (if v3 = 0 then f_X11_fits_b41_j127 N v2 v3 v5 x16 v5 I else f_X11_fits_b41_j125 N v2 v3 v4 v5 x16 I)) else some (.inr (v3, v4)))
set_option maxRecDepth 100000 in
set_option maxHeartbeats 4000000 in
theorem k_X11_fits_b41 {G : GX} {Q : State → Prop} {X : MX} (hO : shX11 X) {v2 : Int32}  {v3 : Int32} {v4 : Int32} {v5 : Int32} {N : Nat} {I : MI} {L : ML} {out : (Int32 × Int32 × Int32) ⊕ (Int32 × Int32)} (hf : f_X11_fits_b41 N v2 v3 v4 v5 I = some out) (hC : ∀ (v3' : Int32) (v4' : Int32) (v5' : Int32), out = .inl (v3', v4', v5') → Ex G mX11_fits rmX11_fits Q (0, 0) X I L 41 [(0, .ref (gB G + 99)), (2, .int v2), (3, .int v3'), (4, .int v4'), (5, .int v5')] []) (hX : ∀ (w3 : Int32) (w4 : Int32), out = .inr (w3, w4) → Ex G mX11_fits rmX11_fits Q (0, 0) X I L 148 [(2, .int v2), (3, .int w3), (4, .int w4)] []) : Ex G mX11_fits rmX11_fits Q (0, 0) X I L 41 [(0, .ref (gB G + 99)), (2, .int v2), (3, .int v3), (4, .int v4), (5, .int v5)] [] := by
  unfold f_X11_fits_b41 at hf
  refine ex_iload 4 (pc' := 43) dX11_fits_41 rfl rfl ?_
  refine ex_aload_n 0 (pc' := 44) dX11_fits_43 rfl rfl rfl ?_
  refine ex_getI (pc' := 47) dX11_fits_44 fl_X11_209 rfl (sh11_k hO) rfl ?_
  refine ex_icmpge (tgt := 148) (pc' := 50) dX11_fits_47 (by decide) rfl (fun hc9 => ?_) (fun hc9 => ?_)
  · replace hf := if_t hc9 hf
    refine ex_iconst (v := 1) (pc' := 51) dX11_fits_50 ic_1 rfl ?_
    refine ex_istore (lv' := [(6, .int 1), (0, .ref (gB G + 99)), (2, .int v2), (3, .int v3), (4, .int v4), (5, .int v5)]) (pc' := 53) dX11_fits_51 (Nat.le_of_ble_eq_true rfl) rfl rfl ?_
    refine ex_iconst (v := 0) (pc' := 54) dX11_fits_53 ic_0 rfl ?_
    refine ex_istore (lv' := [(7, .int 0), (6, .int 1), (0, .ref (gB G + 99)), (2, .int v2), (3, .int v3), (4, .int v4), (5, .int v5)]) (pc' := 56) dX11_fits_54 (Nat.le_of_ble_eq_true rfl) rfl rfl ?_
    refine ex_sub (lv' := [(0, .ref (gB G + 99)), (2, .int v2), (3, .int v3), (4, .int v4), (5, .int v5), (6, .int 1), (7, .int 0)]) [2, 3, 4, 5, 6, 1, 0] rfl ?_
    obtain ⟨x16, hq17, hf⟩ := of_bnd1 hf
    refine k_X11_fits_l56 hO (fun x16' he => ?_) _ _ _ hq17
    cases he
    refine ex_iload 5 (pc' := 113) dX11_fits_111 rfl rfl ?_
    refine ex_ifeq (tgt := 125) (pc' := 116) dX11_fits_113 (by decide) rfl (fun hc18 => ?_) (fun hc18 => ?_)
    · replace hf := if_t hc18 hf
      refine ex_sub [0, 1, 2, 3, 4, 5] rfl (k_X11_fits_b41_j125 hO  hf hC hX)
    · replace hf := if_f hc18 hf
      refine ex_iload_n 2 (pc' := 117) dX11_fits_116 rfl rfl rfl ?_
      refine ex_ifne (tgt := 125) (pc' := 120) dX11_fits_117 (by decide) rfl (fun hc20 => ?_) (fun hc20 => ?_)
      · replace hf := if_t hc20 hf
        refine ex_iload 4 (pc' := 122) dX11_fits_120 rfl rfl ?_
        refine ex_goto (tgt := 127) dX11_fits_122 (by decide) ?_
        refine ex_sub [0, 1, 2, 4, 5] rfl (k_X11_fits_b41_j127 hO  hf hC hX)
      · replace hf := if_f hc20 hf
        refine ex_sub [0, 1, 2, 3, 4, 5] rfl (k_X11_fits_b41_j125 hO  hf hC hX)
  · replace hf := if_f hc9 hf
    exact ex_sub [1, 2, 3] rfl (hX _ _ (Option.some.inj hf).symm)
def f_X11_fits_l41 (N : Nat) (v2 : Int32) (v3 : Int32) (v4 : Int32) (v5 : Int32) (I : MI) : Option (Int32 × Int32) := loopN (fun s => f_X11_fits_b41 N v2 s.1 s.2.1 s.2.2 I) N (v3, v4, v5)
set_option maxRecDepth 100000 in
set_option maxHeartbeats 4000000 in
theorem k_X11_fits_l41 {G : GX} {Q : State → Prop} {X : MX} (hO : shX11 X) {v2 : Int32}  {N0 : Nat} {I : MI} {L : ML} {out : (Int32 × Int32)} (hX : ∀ (w3 : Int32) (w4 : Int32), out = (w3, w4) → Ex G mX11_fits rmX11_fits Q (0, 0) X I L 148 [(2, .int v2), (3, .int w3), (4, .int w4)] []) : ∀ (N : Nat) (v3 : Int32) (v4 : Int32) (v5 : Int32), loopN (fun s => f_X11_fits_b41 N0 v2 s.1 s.2.1 s.2.2 I) N (v3, v4, v5) = some out → Ex G mX11_fits rmX11_fits Q (0, 0) X I L 41 [(0, .ref (gB G + 99)), (2, .int v2), (3, .int v3), (4, .int v4), (5, .int v5)] [] := by
  intro N
  induction N with
  | zero => intro v3 v4 v5 hf; exact absurd (loopN_zero hf) id
  | succ n ih =>
    intro v3 v4 v5 hf
    rcases loopN_succ hf with ⟨s, hb, hl⟩ | hb
    · obtain ⟨v3', v4', v5'⟩ := s
      refine k_X11_fits_b41 hO  hb (fun _ _ _ he => ?_) (fun _ _ he => by cases he)
      cases he
      exact ih v3' v4' v5' hl
    · exact k_X11_fits_b41 hO  hb (fun _ _ _ he => by cases he) (fun x0 x1 he => hX x0 x1 (Sum.inr.inj he))
def f_X11_fits (N : Nat) (v1 : Int32) (v2 : Int32) (I : MI) : Option (Int32 × MI) := bnd1 (f_X11_in (Int32.toInt64 v1) 1 6) fun r1 => (if r1 = 0 then some ((-2), I) else bnd1 (f_X11_in (Int32.toInt64 v2) 0 1) fun r4 => (if r4 = 0 then some ((-1), I) else bnd1 (f_X11_layAll N v1 I) fun I7 => bnd2 (f_X11_fits_l41 N v2 0 (-5) 0 I7) fun x21 x22 => (if v2 = 0 then some (x21, I7) else some (x22, I7))))
set_option maxRecDepth 100000 in
set_option maxHeartbeats 4000000 in
theorem kb_X11_fits {G : GX} {Q : State → Prop} {X : MX} (hO : shX11 X) {v1 : Int32} {v2 : Int32}  {N : Nat} {I : MI} {L : ML} {out : Int32 × MI} (hf : f_X11_fits N v1 v2 I = some out) (hR : ∀ (z : Int32) (I' : MI), out = (z, I') → Q = RetQ G (some (.int z)) X I' L (0, 0)) : Ex G mX11_fits rmX11_fits Q (0, 0) X I L 0 [(0, .ref (gB G + 99)), (1, .int v1), (2, .int v2)] [] := by
  unfold f_X11_fits at hf
  refine ex_iload_n 1 (pc' := 1) dX11_fits_0 rfl rfl rfl ?_
  refine ex_i2l (pc' := 2) dX11_fits_1 rfl ?_
  refine ex_lconst (v := 1) (pc' := 3) dX11_fits_2 lc_1 rfl ?_
  refine ex_ldc2 (v := 6) (pc' := 6) dX11_fits_3 co_X11_137 rfl ?_
  obtain ⟨r1, hq2, hf⟩ := of_bnd1 hf
  refine ex_callS_i (rm' := rmX11_in) (st := []) (pc' := 9) [.long (Int32.toInt64 v1), .long 1, .long 6] dX11_fits_6 cl_X11_129 (k_X11_in G hq2) rfl rfl rfl (ROOM_of rfl) (Nat.le_of_ble_eq_true rfl) rfl rfl ?_
  refine ex_ifne (tgt := 15) (pc' := 12) dX11_fits_9 (by decide) rfl (fun hc3 => ?_) (fun hc3 => ?_)
  · replace hf := if_t hc3 hf
    refine ex_bipush (v := (-2)) (pc' := 14) dX11_fits_12 bp_m2 rfl ?_
    exact ex_iret dX11_fits_14 rfl (hR _ _ (Option.some.inj hf).symm)
  · replace hf := if_f hc3 hf
    refine ex_iload_n 2 (pc' := 16) dX11_fits_15 rfl rfl rfl ?_
    refine ex_i2l (pc' := 17) dX11_fits_16 rfl ?_
    refine ex_lconst (v := 0) (pc' := 18) dX11_fits_17 lc_0 rfl ?_
    refine ex_lconst (v := 1) (pc' := 19) dX11_fits_18 lc_1 rfl ?_
    obtain ⟨r4, hq5, hf⟩ := of_bnd1 hf
    refine ex_callS_i (rm' := rmX11_in) (st := []) (pc' := 22) [.long (Int32.toInt64 v2), .long 0, .long 1] dX11_fits_19 cl_X11_129 (k_X11_in G hq5) rfl rfl rfl (ROOM_of rfl) (Nat.le_of_ble_eq_true rfl) rfl rfl ?_
    refine ex_ifne (tgt := 27) (pc' := 25) dX11_fits_22 (by decide) rfl (fun hc6 => ?_) (fun hc6 => ?_)
    · replace hf := if_t hc6 hf
      refine ex_iconst (v := (-1)) (pc' := 26) dX11_fits_25 ic_m1 rfl ?_
      exact ex_iret dX11_fits_26 rfl (hR _ _ (Option.some.inj hf).symm)
    · replace hf := if_f hc6 hf
      refine ex_aload_n 0 (pc' := 28) dX11_fits_27 rfl rfl rfl ?_
      refine ex_iload_n 1 (pc' := 29) dX11_fits_28 rfl rfl rfl ?_
      obtain ⟨I7, hq8, hf⟩ := of_bnd1 hf
      refine ex_callV_v (rm' := rmX11_layAll) (st := []) (pc' := 32) [.int v1] dX11_fits_29 cl_X11_215 (k_X11_layAll G hO hq8) rfl (sh11_k hO) ⟨_, _, rfl⟩ rfl rfl (ROOM_of rfl) (Nat.le_of_ble_eq_true rfl) rfl rfl ?_
      refine ex_iconst (v := 0) (pc' := 33) dX11_fits_32 ic_0 rfl ?_
      refine ex_istore_n (lv' := [(3, .int 0), (0, .ref (gB G + 99)), (1, .int v1), (2, .int v2)]) (pc' := 34) dX11_fits_33 rfl (Nat.le_of_ble_eq_true rfl) rfl rfl ?_
      refine ex_bipush (v := (-5)) (pc' := 36) dX11_fits_34 bp_m5 rfl ?_
      refine ex_istore (lv' := [(4, .int (-5)), (3, .int 0), (0, .ref (gB G + 99)), (1, .int v1), (2, .int v2)]) (pc' := 38) dX11_fits_36 (Nat.le_of_ble_eq_true rfl) rfl rfl ?_
      refine ex_iconst (v := 0) (pc' := 39) dX11_fits_38 ic_0 rfl ?_
      refine ex_istore (lv' := [(5, .int 0), (4, .int (-5)), (3, .int 0), (0, .ref (gB G + 99)), (1, .int v1), (2, .int v2)]) (pc' := 41) dX11_fits_39 (Nat.le_of_ble_eq_true rfl) rfl rfl ?_
      refine ex_sub (lv' := [(0, .ref (gB G + 99)), (2, .int v2), (3, .int 0), (4, .int (-5)), (5, .int 0)]) [3, 5, 2, 1, 0] rfl ?_
      obtain ⟨x21, x22, hq23, hf⟩ := of_bnd2 hf
      refine k_X11_fits_l41 hO (fun x21' x22' he => ?_) _ _ _ _ hq23
      cases he
      refine ex_iload_n 0 (pc' := 149) dX11_fits_148 rfl rfl rfl ?_
      refine ex_ifne (tgt := 156) (pc' := 152) dX11_fits_149 (by decide) rfl (fun hc24 => ?_) (fun hc24 => ?_)
      · replace hf := if_t hc24 hf
        refine ex_iload_n 1 (pc' := 153) dX11_fits_152 rfl rfl rfl ?_
        refine ex_goto (tgt := 158) dX11_fits_153 (by decide) ?_
        exact ex_iret dX11_fits_158 rfl (hR _ _ (Option.some.inj hf).symm)
      · replace hf := if_f hc24 hf
        refine ex_iload 2 (pc' := 158) dX11_fits_156 rfl rfl ?_
        exact ex_iret dX11_fits_158 rfl (hR _ _ (Option.some.inj hf).symm)
set_option maxRecDepth 100000 in
set_option maxHeartbeats 4000000 in
theorem k_X11_fits (G : GX) {X : MX} (hO : shX11 X) {v1 : Int32} {v2 : Int32}  {N : Nat} {I : MI} {L : ML} {z : Int32} {I' : MI} (hf : f_X11_fits N v1 v2 I = some (z, I')) : Con G mX11_fits yX11_fits rmX11_fits (fun B => [.ref (B + 99), .int v1, .int v2]) X I L (some (.int z)) X I' L :=
  Con.of (by decide) rfl (fun h => by cases h) (fun B => Nat.le_of_ble_eq_true rfl) (fun G => kb_X11_fits hO  hf (fun _ _ he => by cases he; rfl))
