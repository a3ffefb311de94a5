-- X11_tape ('RookWordsModel', 'tape', '(III)I')
def rmX11_tape : RM := ((2, 45, 0, 0), false, (some FieldType.int))
def f_X11_tape_b72 (N : Nat) (v1 : Int32) (v4 : Int32) (L : ML) : Option ((Int32 × ML) ⊕ (ML)) := (if v4 < 60 then if inb ((60 * v1) + v4) 360 then letv (upL L 115 (Int32.toNatClampNeg ((60 * v1) + v4)) 0) fun L16 => some (.inl (v4 + 1, L16)) else none else some (.inr L))
set_option maxRecDepth 100000 in
set_option maxHeartbeats 4000000 in
theorem k_X11_tape_b72 {G : GX} {Q : State → Prop} {X : MX} (hO : shX11 X) {v1 : Int32}  {v4 : Int32} {N : Nat} {I : MI} {L : ML} {out : (Int32 × ML) ⊕ (ML)} (hf : f_X11_tape_b72 N v1 v4 L = some out) (hC : ∀ (v4' : Int32) (L' : ML), out = .inl (v4', L') → Ex G mX11_tape rmX11_tape Q (0, 0) X I L' 72 [(0, .ref (gB G + 99)), (1, .int v1), (4, .int v4')] []) (hX : ∀ (L' : ML), out = .inr L' → Ex G mX11_tape rmX11_tape Q (0, 0) X I L' 98 [] []) : Ex G mX11_tape rmX11_tape Q (0, 0) X I L 72 [(0, .ref (gB G + 99)), (1, .int v1), (4, .int v4)] [] := by
  unfold f_X11_tape_b72 at hf
  refine ex_iload 2 (pc' := 74) dX11_tape_72 rfl rfl ?_
  refine ex_bipush (v := 60) (pc' := 76) dX11_tape_74 bp_60 rfl ?_
  refine ex_icmpge (tgt := 98) (pc' := 79) dX11_tape_76 (by decide) rfl (fun hc14 => ?_) (fun hc14 => ?_)
  · replace hf := if_t hc14 hf
    refine ex_aload_n 0 (pc' := 80) dX11_tape_79 rfl rfl rfl ?_
    refine ex_getR (pc' := 83) dX11_tape_80 fl_X11_58 rfl (sh11_k hO) (sh11_F19 hO) rfl ?_
    refine ex_bipush (v := 60) (pc' := 85) dX11_tape_83 bp_60 rfl ?_
    refine ex_iload_n 1 (pc' := 86) dX11_tape_85 rfl rfl rfl ?_
    refine ex_imul (pc' := 87) dX11_tape_86 rfl ?_
    refine ex_iload 2 (pc' := 89) dX11_tape_87 rfl rfl ?_
    refine ex_iadd (pc' := 90) dX11_tape_89 rfl ?_
    refine ex_lconst (v := 0) (pc' := 91) dX11_tape_90 lc_0 rfl ?_
    obtain ⟨hg15, hf⟩ := of_guard hf
    refine ex_last (pc' := 92) dX11_tape_91 (sh11_T19 hO) (inb_in hg15) rfl ?_
    obtain ⟨L16, hL16, hf⟩ := of_let hf
    rw [← hL16]
    refine ex_iincc (lv' := [(4, .int (v4 + 1)), (0, .ref (gB G + 99)), (1, .int v1)]) 2 (pc' := 95) dX11_tape_92 rfl ic_1 (Nat.le_of_ble_eq_true rfl) rfl rfl ?_
    refine ex_goto (tgt := 72) dX11_tape_95 (by decide) ?_
    exact ex_sub [1, 2, 0] rfl (hC _ _ (Option.some.inj hf).symm)
  · replace hf := if_f hc14 hf
    exact ex_sub [] rfl (hX _ (Option.some.inj hf).symm)
def f_X11_tape_l72 (N : Nat) (v1 : Int32) (v4 : Int32) (L : ML) : Option (ML) := loopN (fun s => f_X11_tape_b72 N v1 s.1 s.2) N (v4, L)
set_option maxRecDepth 100000 in
set_option maxHeartbeats 4000000 in
theorem k_X11_tape_l72 {G : GX} {Q : State → Prop} {X : MX} (hO : shX11 X) {v1 : Int32}  {N0 : Nat} {I : MI} {out : (ML)} (hX : ∀ (L' : ML), out = L' → Ex G mX11_tape rmX11_tape Q (0, 0) X I L' 98 [] []) : ∀ (N : Nat) (v4 : Int32) (L : ML), loopN (fun s => f_X11_tape_b72 N0 v1 s.1 s.2) N (v4, L) = some out → Ex G mX11_tape rmX11_tape Q (0, 0) X I L 72 [(0, .ref (gB G + 99)), (1, .int v1), (4, .int v4)] [] := by
  intro N
  induction N with
  | zero => intro v4 L hf; exact absurd (loopN_zero hf) id
  | succ n ih =>
    intro v4 L hf
    rcases loopN_succ hf with ⟨s, hb, hl⟩ | hb
    · obtain ⟨v4', L'⟩ := s
      refine k_X11_tape_b72 hO  hb (fun _ _ he => ?_) (fun _ he => by cases he)
      cases he
      exact ih v4' L' hl
    · exact k_X11_tape_b72 hO  hb (fun _ _ he => by cases he) (fun x0 he => hX x0 (Sum.inr.inj he))
def f_X11_tape_j47 (N : Nat) (v1 : Int32) (v2 : Int32) (v3 : Int32) (I : MI) (L : ML) : Option (Int32 × MI × ML) := if inb v1 6 then letv (upI I 113 (Int32.toNatClampNeg v1) v2) fun I10 => (if v2 < 0 then if inb v1 6 then letv (upI I10 114 (Int32.toNatClampNeg v1) 0) fun I13 => bnd1 (f_X11_tape_l72 N v1 0 L) fun L17 => some (1, I13, L17) else none else if inb v1 6 then letv (upI I10 114 (Int32.toNatClampNeg v1) v3) fun I20 => bnd1 (f_X11_tape_l72 N v1 0 L) fun L21 => some (1, I20, L21) else none) else none
set_option maxRecDepth 100000 in
set_option maxHeartbeats 4000000 in
theorem k_X11_tape_j47 {G : GX} {Q : State → Prop} {X : MX} (hO : shX11 X) {v1 : Int32} {v2 : Int32} {v3 : Int32}  {N : Nat} {I : MI} {L : ML} {out : Int32 × MI × ML} (hf : f_X11_tape_j47 N v1 v2 v3 I L = some out) (hR : ∀ (z : Int32) (I' : MI) (L' : ML), out = (z, I', L') → Q = RetQ G (some (.int z)) X I' L' (0, 0)) : Ex G mX11_tape rmX11_tape Q (0, 0) X I L 47 [(0, .ref (gB G + 99)), (1, .int v1), (2, .int v2), (3, .int v3)] [] := by
  unfold f_X11_tape_j47 at hf
  refine ex_aload_n 0 (pc' := 48) dX11_tape_47 rfl rfl rfl ?_
  refine ex_getR (pc' := 51) dX11_tape_48 fl_X11_52 rfl (sh11_k hO) (sh11_F17 hO) rfl ?_
  refine ex_iload_n 1 (pc' := 52) dX11_tape_51 rfl rfl rfl ?_
  refine ex_iload_n 2 (pc' := 53) dX11_tape_52 rfl rfl rfl ?_
  obtain ⟨hg9, hf⟩ := of_guard hf
  refine ex_iast (pc' := 54) dX11_tape_53 (sh11_T17 hO) (inb_in hg9) rfl ?_
  obtain ⟨I10, hI10, hf⟩ := of_let hf
  rw [← hI10]
  refine ex_aload_n 0 (pc' := 55) dX11_tape_54 rfl rfl rfl ?_
  refine ex_getR (pc' := 58) dX11_tape_55 fl_X11_55 rfl (sh11_k hO) (sh11_F18 hO) rfl ?_
  refine ex_iload_n 1 (pc' := 59) dX11_tape_58 rfl rfl rfl ?_
  refine ex_iload_n 2 (pc' := 60) dX11_tape_59 rfl rfl rfl ?_
  refine ex_ifge (tgt := 67) (pc' := 63) dX11_tape_60 (by decide) rfl (fun hc11 => ?_) (fun hc11 => ?_)
  · replace hf := if_t hc11 hf
    refine ex_iconst (v := 0) (pc' := 64) dX11_tape_63 ic_0 rfl ?_
    refine ex_goto (tgt := 68) dX11_tape_64 (by decide) ?_
    obtain ⟨hg12, hf⟩ := of_guard hf
    refine ex_iast (pc' := 69) dX11_tape_68 (sh11_T18 hO) (inb_in hg12) rfl ?_
    obtain ⟨I13, hI13, hf⟩ := of_let hf
    rw [← hI13]
    refine ex_iconst (v := 0) (pc' := 70) dX11_tape_69 ic_0 rfl ?_
    refine ex_istore (lv' := [(4, .int 0), (0, .ref (gB G + 99)), (1, .int v1), (2, .int v2), (3, .int v3)]) (pc' := 72) dX11_tape_70 (Nat.le_of_ble_eq_true rfl) rfl rfl ?_
    refine ex_sub (lv' := [(0, .ref (gB G + 99)), (1, .int v1), (4, .int 0)]) [1, 2, 0] rfl ?_
    obtain ⟨L17, hq18, hf⟩ := of_bnd1 hf
    refine k_X11_tape_l72 hO (fun L17' he => ?_) _ _ _ hq18
    cases he
    refine ex_iconst (v := 1) (pc' := 99) dX11_tape_98 ic_1 rfl ?_
    exact ex_iret dX11_tape_99 rfl (hR _ _ _ (Option.some.inj hf).symm)
  · replace hf := if_f hc11 hf
    refine ex_iload_n 3 (pc' := 68) dX11_tape_67 rfl rfl rfl ?_
    obtain ⟨hg19, hf⟩ := of_guard hf
    refine ex_iast (pc' := 69) dX11_tape_68 (sh11_T18 hO) (inb_in hg19) rfl ?_
    obtain ⟨I20, hI20, hf⟩ := of_let hf
    rw [← hI20]
    refine ex_iconst (v := 0) (pc' := 70) dX11_tape_69 ic_0 rfl ?_
    refine ex_istore (lv' := [(4, .int 0), (0, .ref (gB G + 99)), (1, .int v1), (2, .int v2), (3, .int v3)]) (pc' := 72) dX11_tape_70 (Nat.le_of_ble_eq_true rfl) rfl rfl ?_
    refine ex_sub (lv' := [(0, .ref (gB G + 99)), (1, .int v1), (4, .int 0)]) [1, 2, 0] rfl ?_
    obtain ⟨L21, hq22, hf⟩ := of_bnd1 hf
    refine k_X11_tape_l72 hO (fun L21' he => ?_) _ _ _ hq22
    cases he
    refine ex_iconst (v := 1) (pc' := 99) dX11_tape_98 ic_1 rfl ?_
    exact ex_iret dX11_tape_99 rfl (hR _ _ _ (Option.some.inj hf).symm)
def f_X11_tape_j36 (N : Nat) (v1 : Int32) (v2 : Int32) (v3 : Int32) (I : MI) (L : ML) : Option (Int32 × MI × ML) := (if v2 < 0 then f_X11_tape_j47 N v1 v2 v3 I L else (if v3 < 0 then some ((-14), I, L) else f_X11_tape_j47 N v1 v2 v3 I L))
set_option maxRecDepth 100000 in
set_option maxHeartbeats 4000000 in
theorem k_X11_tape_j36 {G : GX} {Q : State → Prop} {X : MX} (hO : shX11 X) {v1 : Int32} {v2 : Int32} {v3 : Int32}  {N : Nat} {I : MI} {L : ML} {out : Int32 × MI × ML} (hf : f_X11_tape_j36 N v1 v2 v3 I L = some out) (hR : ∀ (z : Int32) (I' : MI) (L' : ML), out = (z, I', L') → Q = RetQ G (some (.int z)) X I' L' (0, 0)) : Ex G mX11_tape rmX11_tape Q (0, 0) X I L 36 [(0, .ref (gB G + 99)), (1, .int v1), (2, .int v2), (3, .int v3)] [] := by
  unfold f_X11_tape_j36 at hf
  refine ex_iload_n 2 (pc' := 37) dX11_tape_36 rfl rfl rfl ?_
  refine ex_iflt (tgt := 47) (pc' := 40) dX11_tape_37 (by decide) rfl (fun hc8 => ?_) (fun hc8 => ?_)
  · replace hf := if_t hc8 hf
    refine ex_sub [0, 1, 2, 3] rfl (k_X11_tape_j47 hO  hf hR)
  · replace hf := if_f hc8 hf
    refine ex_iload_n 3 (pc' := 41) dX11_tape_40 rfl rfl rfl ?_
    refine ex_ifge (tgt := 47) (pc' := 44) dX11_tape_41 (by decide) rfl (fun hc23 => ?_) (fun hc23 => ?_)
    · replace hf := if_t hc23 hf
      refine ex_bipush (v := (-14)) (pc' := 46) dX11_tape_44 bp_m14 rfl ?_
      exact ex_iret dX11_tape_46 rfl (hR _ _ _ (Option.some.inj hf).symm)
    · replace hf := if_f hc23 hf
      refine ex_sub [0, 1, 2, 3] rfl (k_X11_tape_j47 hO  hf hR)
def f_X11_tape (N : Nat) (v1 : Int32) (v2 : Int32) (v3 : Int32) (I : MI) (L : ML) : Option (Int32 × MI × ML) := bnd1 (f_X11_isSix v1) fun r1 => (if r1 = 0 then some ((-1), I, L) else bnd1 (f_X11_in (Int32.toInt64 v2) (-1) 4) fun r4 => (if r4 = 0 then some ((-2), I, L) else (if v2 < 0 then f_X11_tape_j36 N v1 v2 v3 I L else (if 60 < v3 then some ((-2), I, L) else f_X11_tape_j36 N v1 v2 v3 I L))))
set_option maxRecDepth 100000 in
set_option maxHeartbeats 4000000 in
theorem kb_X11_tape {G : GX} {Q : State → Prop} {X : MX} (hO : shX11 X) {v1 : Int32} {v2 : Int32} {v3 : Int32}  {N : Nat} {I : MI} {L : ML} {out : Int32 × MI × ML} (hf : f_X11_tape N v1 v2 v3 I L = some out) (hR : ∀ (z : Int32) (I' : MI) (L' : ML), out = (z, I', L') → Q = RetQ G (some (.int z)) X I' L' (0, 0)) : Ex G mX11_tape rmX11_tape Q (0, 0) X I L 0 [(0, .ref (gB G + 99)), (1, .int v1), (2, .int v2), (3, .int v3)] [] := by
  unfold f_X11_tape at hf
  refine ex_iload_n 1 (pc' := 1) dX11_tape_0 rfl rfl rfl ?_
  obtain ⟨r1, hq2, hf⟩ := of_bnd1 hf
  refine ex_callS_i (rm' := rmX11_isSix) (st := []) (pc' := 4) [.int v1] dX11_tape_1 cl_X11_133 (k_X11_isSix G hq2) rfl rfl rfl (ROOM_of rfl) (Nat.le_of_ble_eq_true rfl) rfl rfl ?_
  refine ex_ifne (tgt := 9) (pc' := 7) dX11_tape_4 (by decide) rfl (fun hc3 => ?_) (fun hc3 => ?_)
  · replace hf := if_t hc3 hf
    refine ex_iconst (v := (-1)) (pc' := 8) dX11_tape_7 ic_m1 rfl ?_
    exact ex_iret dX11_tape_8 rfl (hR _ _ _ (Option.some.inj hf).symm)
  · replace hf := if_f hc3 hf
    refine ex_iload_n 2 (pc' := 10) dX11_tape_9 rfl rfl rfl ?_
    refine ex_i2l (pc' := 11) dX11_tape_10 rfl ?_
    refine ex_ldc2 (v := (-1)) (pc' := 14) dX11_tape_11 co_X11_223 rfl ?_
    refine ex_ldc2 (v := 4) (pc' := 17) dX11_tape_14 co_X11_218 rfl ?_
    obtain ⟨r4, hq5, hf⟩ := of_bnd1 hf
    refine ex_callS_i (rm' := rmX11_in) (st := []) (pc' := 20) [.long (Int32.toInt64 v2), .long (-1), .long 4] dX11_tape_17 cl_X11_129 (k_X11_in G hq5) rfl rfl rfl (ROOM_of rfl) (Nat.le_of_ble_eq_true rfl) rfl rfl ?_
    refine ex_ifeq (tgt := 33) (pc' := 23) dX11_tape_20 (by decide) rfl (fun hc6 => ?_) (fun hc6 => ?_)
    · replace hf := if_t hc6 hf
      refine ex_bipush (v := (-2)) (pc' := 35) dX11_tape_33 bp_m2 rfl ?_
      exact ex_iret dX11_tape_35 rfl (hR _ _ _ (Option.some.inj hf).symm)
    · replace hf := if_f hc6 hf
      refine ex_iload_n 2 (pc' := 24) dX11_tape_23 rfl rfl rfl ?_
      refine ex_iflt (tgt := 36) (pc' := 27) dX11_tape_24 (by decide) rfl (fun hc7 => ?_) (fun hc7 => ?_)
      · replace hf := if_t hc7 hf
        refine ex_sub [0, 1, 2, 3] rfl (k_X11_tape_j36 hO  hf hR)
      · replace hf := if_f hc7 hf
        refine ex_iload_n 3 (pc' := 28) dX11_tape_27 rfl rfl rfl ?_
        refine ex_bipush (v := 60) (pc' := 30) dX11_tape_28 bp_60 rfl ?_
        refine ex_icmple (tgt := 36) (pc' := 33) dX11_tape_30 (by decide) rfl (fun hc24 => ?_) (fun hc24 => ?_)
        · replace hf := if_t hc24 hf
          refine ex_bipush (v := (-2)) (pc' := 35) dX11_tape_33 bp_m2 rfl ?_
          exact ex_iret dX11_tape_35 rfl (hR _ _ _ (Option.some.inj hf).symm)
        · replace hf := if_f hc24 hf
          refine ex_sub [0, 1, 2, 3] rfl (k_X11_tape_j36 hO  hf hR)
set_option maxRecDepth 100000 in
set_option maxHeartbeats 4000000 in
theorem k_X11_tape (G : GX) {X : MX} (hO : shX11 X) {v1 : Int32} {v2 : Int32} {v3 : Int32}  {N : Nat} {I : MI} {L : ML} {z : Int32} {I' : MI} {L' : ML} (hf : f_X11_tape N v1 v2 v3 I L = some (z, I', L')) : Con G mX11_tape yX11_tape rmX11_tape (fun B => [.ref (B + 99), .int v1, .int v2, .int v3]) X I L (some (.int z)) X I' L' :=
  Con.of (by decide) rfl (fun h => by cases h) (fun B => Nat.le_of_ble_eq_true rfl) (fun G => kb_X11_tape hO  hf (fun _ _ _ he => by cases he; rfl))
theorem cl_X11_167 : CLV RX11 167 yX11_isTimes mX11_isTimes (some FieldType.boolean) 1 := ⟨⟨lwg_at 1162 (by decide +kernel) rfl, lwg_at 1164 (by decide +kernel) rfl, lwg_at 23 (by decide +kernel) rfl, lwg_at 61 (by decide +kernel) rfl⟩, lwg_at 1165 (by decide +kernel) rfl, ⟨by decide +kernel, by decide +kernel, by decide +kernel⟩⟩
-- X11_times ('RookWordsModel', 'times', '(I)I')
def rmX11_times : RM := ((2, 51, 0, 0), false, (some FieldType.int))
def f_X11_times_b19 (N : Nat) (v1 : Int32) (v2 : Int32) (v3 : Int32) (L : ML) : Option ((Int32 × ML) ⊕ (ML)) := (if v3 < 14 then (if v2 < 13 then (if v3 < 13 then if inb ((13 * v2) + v3) 169 then if inb ((14 * v2) + v3) 196 then letv (upL L 125 (Int32.toNatClampNeg ((14 * v2) + v3)) (L 102 (Int32.toNatClampNeg ((13 * v2) + v3)))) fun L10 => some (.inl (v3 + 1, L10)) else none else none else if inb ((14 * v2) + v3) 196 then letv (upL L 125 (Int32.toNatClampNeg ((14 * v2) + v3)) 0) fun L12 => some (.inl (v3 + 1, L12)) else none) else if inb ((14 * v2) + v3) 196 then letv (upL L 125 (Int32.toNatClampNeg ((14 * v2) + v3)) 0) fun L14 => some (.inl (v3 + 1, L14)) else none) else some (.inr L))
set_option maxRecDepth 100000 in
set_option maxHeartbeats 4000000 in
theorem k_X11_times_b19 {G : GX} {Q : State → Prop} {X : MX} (hO : shX11 X) {v1 : Int32} {v2 : Int32}  {v3 : Int32} {N : Nat} {I : MI} {L : ML} {out : (Int32 × ML) ⊕ (ML)} (hf : f_X11_times_b19 N v1 v2 v3 L = some out) (hC : ∀ (v3' : Int32) (L' : ML), out = .inl (v3', L') → Ex G mX11_times rmX11_times Q (0, 0) X I L' 19 [(0, .ref (gB G + 99)), (1, .int v1), (2, .int v2), (3, .int v3')] []) (hX : ∀ (L' : ML), out = .inr L' → Ex G mX11_times rmX11_times Q (0, 0) X I L' 69 [(0, .ref (gB G + 99)), (1, .int v1), (2, .int v2)] []) : Ex G mX11_times rmX11_times Q (0, 0) X I L 19 [(0, .ref (gB G + 99)), (1, .int v1), (2, .int v2), (3, .int v3)] [] := by
  unfold f_X11_times_b19 at hf
  refine ex_iload_n 3 (pc' := 20) dX11_times_19 rfl rfl rfl ?_
  refine ex_bipush (v := 14) (pc' := 22) dX11_times_20 bp_14 rfl ?_
  refine ex_icmpge (tgt := 69) (pc' := 25) dX11_times_22 (by decide) rfl (fun hc5 => ?_) (fun hc5 => ?_)
  · replace hf := if_t hc5 hf
    refine ex_aload_n 0 (pc' := 26) dX11_times_25 rfl rfl rfl ?_
    refine ex_getR (pc' := 29) dX11_times_26 fl_X11_88 rfl (sh11_k hO) (sh11_F31 hO) rfl ?_
    refine ex_bipush (v := 14) (pc' := 31) dX11_times_29 bp_14 rfl ?_
    refine ex_iload_n 2 (pc' := 32) dX11_times_31 rfl rfl rfl ?_
    refine ex_imul (pc' := 33) dX11_times_32 rfl ?_
    refine ex_iload_n 3 (pc' := 34) dX11_times_33 rfl rfl rfl ?_
    refine ex_iadd (pc' := 35) dX11_times_34 rfl ?_
    refine ex_iload_n 2 (pc' := 36) dX11_times_35 rfl rfl rfl ?_
    refine ex_bipush (v := 13) (pc' := 38) dX11_times_36 bp_13 rfl ?_
    refine ex_icmpge (tgt := 61) (pc' := 41) dX11_times_38 (by decide) rfl (fun hc6 => ?_) (fun hc6 => ?_)
    · replace hf := if_t hc6 hf
      refine ex_iload_n 3 (pc' := 42) dX11_times_41 rfl rfl rfl ?_
      refine ex_bipush (v := 13) (pc' := 44) dX11_times_42 bp_13 rfl ?_
      refine ex_icmpge (tgt := 61) (pc' := 47) dX11_times_44 (by decide) rfl (fun hc7 => ?_) (fun hc7 => ?_)
      · replace hf := if_t hc7 hf
        refine ex_aload_n 0 (pc' := 48) dX11_times_47 rfl rfl rfl ?_
        refine ex_getR (pc' := 51) dX11_times_48 fl_X11_18 rfl (sh11_k hO) (sh11_F2 hO) rfl ?_
        refine ex_bipush (v := 13) (pc' := 53) dX11_times_51 bp_13 rfl ?_
        refine ex_iload_n 2 (pc' := 54) dX11_times_53 rfl rfl rfl ?_
        refine ex_imul (pc' := 55) dX11_times_54 rfl ?_
        refine ex_iload_n 3 (pc' := 56) dX11_times_55 rfl rfl rfl ?_
        refine ex_iadd (pc' := 57) dX11_times_56 rfl ?_
        obtain ⟨hg8, hf⟩ := of_guard hf
        refine ex_lald (pc' := 58) dX11_times_57 (sh11_T2 hO) (inb_in hg8) rfl ?_
        refine ex_goto (tgt := 62) dX11_times_58 (by decide) ?_
        obtain ⟨hg9, hf⟩ := of_guard hf
        refine ex_last (pc' := 63) dX11_times_62 (sh11_T31 hO) (inb_in hg9) rfl ?_
        obtain ⟨L10, hL10, hf⟩ := of_let hf
        rw [← hL10]
        refine ex_iincc (lv' := [(3, .int (v3 + 1)), (0, .ref (gB G + 99)), (1, .int v1), (2, .int v2)]) 3 (pc' := 66) dX11_times_63 rfl ic_1 (Nat.le_of_ble_eq_true rfl) rfl rfl ?_
        refine ex_goto (tgt := 19) dX11_times_66 (by decide) ?_
        exact ex_sub [1, 2, 3, 0] rfl (hC _ _ (Option.some.inj hf).symm)
      · replace hf := if_f hc7 hf
        refine ex_lconst (v := 0) (pc' := 62) dX11_times_61 lc_0 rfl ?_
        obtain ⟨hg11, hf⟩ := of_guard hf
        refine ex_last (pc' := 63) dX11_times_62 (sh11_T31 hO) (inb_in hg11) rfl ?_
        obtain ⟨L12, hL12, hf⟩ := of_let hf
        rw [← hL12]
        refine ex_iincc (lv' := [(3, .int (v3 + 1)), (0, .ref (gB G + 99)), (1, .int v1), (2, .int v2)]) 3 (pc' := 66) dX11_times_63 rfl ic_1 (Nat.le_of_ble_eq_true rfl) rfl rfl ?_
        refine ex_goto (tgt := 19) dX11_times_66 (by decide) ?_
        exact ex_sub [1, 2, 3, 0] rfl (hC _ _ (Option.some.inj hf).symm)
    · replace hf := if_f hc6 hf
      refine ex_lconst (v := 0) (pc' := 62) dX11_times_61 lc_0 rfl ?_
      obtain ⟨hg13, hf⟩ := of_guard hf
      refine ex_last (pc' := 63) dX11_times_62 (sh11_T31 hO) (inb_in hg13) rfl ?_
      obtain ⟨L14, hL14, hf⟩ := of_let hf
      rw [← hL14]
      refine ex_iincc (lv' := [(3, .int (v3 + 1)), (0, .ref (gB G + 99)), (1, .int v1), (2, .int v2)]) 3 (pc' := 66) dX11_times_63 rfl ic_1 (Nat.le_of_ble_eq_true rfl) rfl rfl ?_
      refine ex_goto (tgt := 19) dX11_times_66 (by decide) ?_
      exact ex_sub [1, 2, 3, 0] rfl (hC _ _ (Option.some.inj hf).symm)
  · replace hf := if_f hc5 hf
    exact ex_sub [0, 1, 2] rfl (hX _ (Option.some.inj hf).symm)
def f_X11_times_l19 (N : Nat) (v1 : Int32) (v2 : Int32) (v3 : Int32) (L : ML) : Option (ML) := loopN (fun s => f_X11_times_b19 N v1 v2 s.1 s.2) N (v3, L)
set_option maxRecDepth 100000 in
set_option maxHeartbeats 4000000 in
theorem k_X11_times_l19 {G : GX} {Q : State → Prop} {X : MX} (hO : shX11 X) {v1 : Int32} {v2 : Int32}  {N0 : Nat} {I : MI} {out : (ML)} (hX : ∀ (L' : ML), out = L' → Ex G mX11_times rmX11_times Q (0, 0) X I L' 69 [(0, .ref (gB G + 99)), (1, .int v1), (2, .int v2)] []) : ∀ (N : Nat) (v3 : Int32) (L : ML), loopN (fun s => f_X11_times_b19 N0 v1 v2 s.1 s.2) N (v3, L) = some out → Ex G mX11_times rmX11_times Q (0, 0) X I L 19 [(0, .ref (gB G + 99)), (1, .int v1), (2, .int v2), (3, .int v3)] [] := by
  intro N
  induction N with
  | zero => intro v3 L hf; exact absurd (loopN_zero hf) id
  | succ n ih =>
    intro v3 L hf
    rcases loopN_succ hf with ⟨s, hb, hl⟩ | hb
    · obtain ⟨v3', L'⟩ := s
      refine k_X11_times_b19 hO  hb (fun _ _ he => ?_) (fun _ he => by cases he)
      cases he
      exact ih v3' L' hl
    · exact k_X11_times_b19 hO  hb (fun _ _ he => by cases he) (fun x0 he => hX x0 (Sum.inr.inj he))
def f_X11_times_b11 (N : Nat) (v1 : Int32) (v2 : Int32) (L : ML) : Option ((Int32 × ML) ⊕ (ML)) := (if v2 < 14 then bnd1 (f_X11_times_l19 N v1 v2 0 L) fun L15 => some (.inl (v2 + 1, L15)) else some (.inr L))
set_option maxRecDepth 100000 in
set_option maxHeartbeats 4000000 in
theorem k_X11_times_b11 {G : GX} {Q : State → Prop} {X : MX} (hO : shX11 X) {v1 : Int32}  {v2 : Int32} {N : Nat} {I : MI} {L : ML} {out : (Int32 × ML) ⊕ (ML)} (hf : f_X11_times_b11 N v1 v2 L = some out) (hC : ∀ (v2' : Int32) (L' : ML), out = .inl (v2', L') → Ex G mX11_times rmX11_times Q (0, 0) X I L' 11 [(0, .ref (gB G + 99)), (1, .int v1), (2, .int v2')] []) (hX : ∀ (L' : ML), out = .inr L' → Ex G mX11_times rmX11_times Q (0, 0) X I L' 75 [(0, .ref (gB G + 99)), (1, .int v1)] []) : Ex G mX11_times rmX11_times Q (0, 0) X I L 11 [(0, .ref (gB G + 99)), (1, .int v1), (2, .int v2)] [] := by
  unfold f_X11_times_b11 at hf
  refine ex_iload_n 2 (pc' := 12) dX11_times_11 rfl rfl rfl ?_
  refine ex_bipush (v := 14) (pc' := 14) dX11_times_12 bp_14 rfl ?_
  refine ex_icmpge (tgt := 75) (pc' := 17) dX11_times_14 (by decide) rfl (fun hc4 => ?_) (fun hc4 => ?_)
  · replace hf := if_t hc4 hf
    refine ex_iconst (v := 0) (pc' := 18) dX11_times_17 ic_0 rfl ?_
    refine ex_istore_n (lv' := [(3, .int 0), (0, .ref (gB G + 99)), (1, .int v1), (2, .int v2)]) (pc' := 19) dX11_times_18 rfl (Nat.le_of_ble_eq_true rfl) rfl rfl ?_
    refine ex_sub (lv' := [(0, .ref (gB G + 99)), (1, .int v1), (2, .int v2), (3, .int 0)]) [1, 2, 3, 0] rfl ?_
    obtain ⟨L15, hq16, hf⟩ := of_bnd1 hf
    refine k_X11_times_l19 hO (fun L15' he => ?_) _ _ _ hq16
    cases he
    refine ex_iincc (lv' := [(2, .int (v2 + 1)), (0, .ref (gB G + 99)), (1, .int v1)]) 2 (pc' := 72) dX11_times_69 rfl ic_1 (Nat.le_of_ble_eq_true rfl) rfl rfl ?_
    refine ex_goto (tgt := 11) dX11_times_72 (by decide) ?_
    exact ex_sub [1, 2, 0] rfl (hC _ _ (Option.some.inj hf).symm)
  · replace hf := if_f hc4 hf
    exact ex_sub [0, 1] rfl (hX _ (Option.some.inj hf).symm)
def f_X11_times_l11 (N : Nat) (v1 : Int32) (v2 : Int32) (L : ML) : Option (ML) := loopN (fun s => f_X11_times_b11 N v1 s.1 s.2) N (v2, L)
set_option maxRecDepth 100000 in
set_option maxHeartbeats 4000000 in
theorem k_X11_times_l11 {G : GX} {Q : State → Prop} {X : MX} (hO : shX11 X) {v1 : Int32}  {N0 : Nat} {I : MI} {out : (ML)} (hX : ∀ (L' : ML), out = L' → Ex G mX11_times rmX11_times Q (0, 0) X I L' 75 [(0, .ref (gB G + 99)), (1, .int v1)] []) : ∀ (N : Nat) (v2 : Int32) (L : ML), loopN (fun s => f_X11_times_b11 N0 v1 s.1 s.2) N (v2, L) = some out → Ex G mX11_times rmX11_times Q (0, 0) X I L 11 [(0, .ref (gB G + 99)), (1, .int v1), (2, .int v2)] [] := by
  intro N
  induction N with
  | zero => intro v2 L hf; exact absurd (loopN_zero hf) id
  | succ n ih =>
    intro v2 L hf
    rcases loopN_succ hf with ⟨s, hb, hl⟩ | hb
    · obtain ⟨v2', L'⟩ := s
      refine k_X11_times_b11 hO  hb (fun _ _ he => ?_) (fun _ he => by cases he)
      cases he
      exact ih v2' L' hl
    · exact k_X11_times_b11 hO  hb (fun _ _ he => by cases he) (fun x0 he => hX x0 (Sum.inr.inj he))
def f_X11_times_b77 (N : Nat) (v1 : Int32) (v2 : Int32) (I : MI) (L : ML) : Option ((Int32 × ML) ⊕ ((ML) ⊕ (Int32 × ML))) := if inb v1 6 then (if v2 < (I 100 (Int32.toNatClampNeg v1)) then if inb ((12 * v1) + v2) 72 then bnd2 (f_X11_isTimes N (I 101 (Int32.toNatClampNeg ((12 * v1) + v2))) L) fun r22 L23 => (if r22 = 0 then some (.inr (.inr ((-6), L23))) else some (.inl (v2 + 1, L23))) else none else some (.inr (.inl L))) else none
set_option maxRecDepth 100000 in
set_option maxHeartbeats 4000000 in
theorem k_X11_times_b77 {G : GX} {Q : State → Prop} {X : MX} (hO : shX11 X) {v1 : Int32}  {v2 : Int32} {N : Nat} {I : MI} {L : ML} {out : (Int32 × ML) ⊕ ((ML) ⊕ (Int32 × ML))} (hf : f_X11_times_b77 N v1 v2 I L = some out) (hC : ∀ (v2' : Int32) (L' : ML), out = .inl (v2', L') → Ex G mX11_times rmX11_times Q (0, 0) X I L' 77 [(0, .ref (gB G + 99)), (1, .int v1), (2, .int v2')] []) (hX : ∀ (L' : ML), out = .inr (.inl L') → Ex G mX11_times rmX11_times Q (0, 0) X I L' 114 [(0, .ref (gB G + 99))] []) (hR : ∀ (z : Int32) (L' : ML), out = .inr (.inr (z, L')) → Q = RetQ G (some (.int z)) X I L' (0, 0)) : Ex G mX11_times rmX11_times Q (0, 0) X I L 77 [(0, .ref (gB G + 99)), (1, .int v1), (2, .int v2)] [] := by
  unfold f_X11_times_b77 at hf
  refine ex_iload_n 2 (pc' := 78) dX11_times_77 rfl rfl rfl ?_
  refine ex_aload_n 0 (pc' := 79) dX11_times_78 rfl rfl rfl ?_
  refine ex_getR (pc' := 82) dX11_times_79 fl_X11_9 rfl (sh11_k hO) (sh11_F0 hO) rfl ?_
  refine ex_iload_n 1 (pc' := 83) dX11_times_82 rfl rfl rfl ?_
  obtain ⟨hg19, hf⟩ := of_guard hf
  refine ex_iald (pc' := 84) dX11_times_83 (sh11_T0 hO) (inb_in hg19) rfl ?_
  refine ex_icmpge (tgt := 114) (pc' := 87) dX11_times_84 (by decide) rfl (fun hc20 => ?_) (fun hc20 => ?_)
  · replace hf := if_t hc20 hf
    refine ex_aload_n 0 (pc' := 88) dX11_times_87 rfl rfl rfl ?_
    refine ex_aload_n 0 (pc' := 89) dX11_times_88 rfl rfl rfl ?_
    refine ex_getR (pc' := 92) dX11_times_89 fl_X11_15 rfl (sh11_k hO) (sh11_F1 hO) rfl ?_
    refine ex_bipush (v := 12) (pc' := 94) dX11_times_92 bp_12 rfl ?_
    refine ex_iload_n 1 (pc' := 95) dX11_times_94 rfl rfl rfl ?_
    refine ex_imul (pc' := 96) dX11_times_95 rfl ?_
    refine ex_iload_n 2 (pc' := 97) dX11_times_96 rfl rfl rfl ?_
    refine ex_iadd (pc' := 98) dX11_times_97 rfl ?_
    obtain ⟨hg21, hf⟩ := of_guard hf
    refine ex_iald (pc' := 99) dX11_times_98 (sh11_T1 hO) (inb_in hg21) rfl ?_
    obtain ⟨r22, L23, hq24, hf⟩ := of_bnd2 hf
    refine ex_callV_i (rm' := rmX11_isTimes) (st := []) (pc' := 102) [.int (I 101 (Int32.toNatClampNeg ((12 * v1) + v2)))] dX11_times_99 cl_X11_167 (k_X11_isTimes G hO hq24) rfl (sh11_k hO) ⟨_, _, rfl⟩ rfl rfl (ROOM_of rfl) (Nat.le_of_ble_eq_true rfl) rfl rfl ?_
    refine ex_ifne (tgt := 108) (pc' := 105) dX11_times_102 (by decide) rfl (fun hc25 => ?_) (fun hc25 => ?_)
    · replace hf := if_t hc25 hf
      refine ex_bipush (v := (-6)) (pc' := 107) dX11_times_105 bp_m6 rfl ?_
      exact ex_iret dX11_times_107 rfl (hR _ _ (Option.some.inj hf).symm)
    · replace hf := if_f hc25 hf
      refine ex_iincc (lv' := [(2, .int (v2 + 1)), (0, .ref (gB G + 99)), (1, .int v1)]) 2 (pc' := 111) dX11_times_108 rfl ic_1 (Nat.le_of_ble_eq_true rfl) rfl rfl ?_
      refine ex_goto (tgt := 77) dX11_times_111 (by decide) ?_
      exact ex_sub [1, 2, 0] rfl (hC _ _ (Option.some.inj hf).symm)
  · replace hf := if_f hc20 hf
    exact ex_sub [0] rfl (hX _ (Option.some.inj hf).symm)
def f_X11_times_l77 (N : Nat) (v1 : Int32) (v2 : Int32) (I : MI) (L : ML) : Option ((ML) ⊕ (Int32 × ML)) := loopN (fun s => f_X11_times_b77 N v1 s.1 I s.2) N (v2, L)
set_option maxRecDepth 100000 in
set_option maxHeartbeats 4000000 in
theorem k_X11_times_l77 {G : GX} {Q : State → Prop} {X : MX} (hO : shX11 X) {v1 : Int32}  {N0 : Nat} {I : MI} {out : ((ML) ⊕ (Int32 × ML))} (hX : ∀ (L' : ML), out = .inl L' → Ex G mX11_times rmX11_times Q (0, 0) X I L' 114 [(0, .ref (gB G + 99))] []) (hR : ∀ (z : Int32) (L' : ML), out = .inr (z, L') → Q = RetQ G (some (.int z)) X I L' (0, 0)) : ∀ (N : Nat) (v2 : Int32) (L : ML), loopN (fun s => f_X11_times_b77 N0 v1 s.1 I s.2) N (v2, L) = some out → Ex G mX11_times rmX11_times Q (0, 0) X I L 77 [(0, .ref (gB G + 99)), (1, .int v1), (2, .int v2)] [] := by
  intro N
  induction N with
  | zero => intro v2 L hf; exact absurd (loopN_zero hf) id
  | succ n ih =>
    intro v2 L hf
    rcases loopN_succ hf with ⟨s, hb, hl⟩ | hb
    · obtain ⟨v2', L'⟩ := s
      refine k_X11_times_b77 hO  hb (fun _ _ he => ?_) (fun _ he => by cases he) (fun _ _ he => by cases he)
      cases he
      exact ih v2' L' hl
    · exact k_X11_times_b77 hO  hb (fun _ _ he => by cases he) (fun x0 he => hX x0 (Sum.inr.inj he)) (fun z0 z1 he => hR z0 z1 (Sum.inr.inj he))
def f_X11_times_b124 (N : Nat) (v2 : Int32) (v3 : Int32) (L : ML) : Option ((Int32 × ML) ⊕ (ML)) := (if v3 < 13 then if inb ((14 * v2) + v3) 196 then if inb ((13 * v2) + v3) 169 then letv (upL L 102 (Int32.toNatClampNeg ((13 * v2) + v3)) (L 125 (Int32.toNatClampNeg ((14 * v2) + v3)))) fun L32 => some (.inl (v3 + 1, L32)) else none else none else some (.inr L))
set_option maxRecDepth 100000 in
set_option maxHeartbeats 4000000 in
theorem k_X11_times_b124 {G : GX} {Q : State → Prop} {X : MX} (hO : shX11 X) {v2 : Int32}  {v3 : Int32} {N : Nat} {I : MI} {L : ML} {out : (Int32 × ML) ⊕ (ML)} (hf : f_X11_times_b124 N v2 v3 L = some out) (hC : ∀ (v3' : Int32) (L' : ML), out = .inl (v3', L') → Ex G mX11_times rmX11_times Q (0, 0) X I L' 124 [(0, .ref (gB G + 99)), (2, .int v2), (3, .int v3')] []) (hX : ∀ (L' : ML), out = .inr L' → Ex G mX11_times rmX11_times Q (0, 0) X I L' 158 [(0, .ref (gB G + 99)), (2, .int v2)] []) : Ex G mX11_times rmX11_times Q (0, 0) X I L 124 [(0, .ref (gB G + 99)), (2, .int v2), (3, .int v3)] [] := by
  unfold f_X11_times_b124 at hf
  refine ex_iload_n 2 (pc' := 125) dX11_times_124 rfl rfl rfl ?_
  refine ex_bipush (v := 13) (pc' := 127) dX11_times_125 bp_13 rfl ?_
  refine ex_icmpge (tgt := 158) (pc' := 130) dX11_times_127 (by decide) rfl (fun hc29 => ?_) (fun hc29 => ?_)
  · replace hf := if_t hc29 hf
    refine ex_aload_n 0 (pc' := 131) dX11_times_130 rfl rfl rfl ?_
    refine ex_getR (pc' := 134) dX11_times_131 fl_X11_18 rfl (sh11_k hO) (sh11_F2 hO) rfl ?_
    refine ex_bipush (v := 13) (pc' := 136) dX11_times_134 bp_13 rfl ?_
    refine ex_iload_n 1 (pc' := 137) dX11_times_136 rfl rfl rfl ?_
    refine ex_imul (pc' := 138) dX11_times_137 rfl ?_
    refine ex_iload_n 2 (pc' := 139) dX11_times_138 rfl rfl rfl ?_
    refine ex_iadd (pc' := 140) dX11_times_139 rfl ?_
    refine ex_aload_n 0 (pc' := 141) dX11_times_140 rfl rfl rfl ?_
    refine ex_getR (pc' := 144) dX11_times_141 fl_X11_88 rfl (sh11_k hO) (sh11_F31 hO) rfl ?_
    refine ex_bipush (v := 14) (pc' := 146) dX11_times_144 bp_14 rfl ?_
    refine ex_iload_n 1 (pc' := 147) dX11_times_146 rfl rfl rfl ?_
    refine ex_imul (pc' := 148) dX11_times_147 rfl ?_
    refine ex_iload_n 2 (pc' := 149) dX11_times_148 rfl rfl rfl ?_
    refine ex_iadd (pc' := 150) dX11_times_149 rfl ?_
    obtain ⟨hg30, hf⟩ := of_guard hf
    refine ex_lald (pc' := 151) dX11_times_150 (sh11_T31 hO) (inb_in hg30) rfl ?_
    obtain ⟨hg31, hf⟩ := of_guard hf
    refine ex_last (pc' := 152) dX11_times_151 (sh11_T2 hO) (inb_in hg31) rfl ?_
    obtain ⟨L32, hL32, hf⟩ := of_let hf
    rw [← hL32]
    refine ex_iincc (lv' := [(3, .int (v3 + 1)), (0, .ref (gB G + 99)), (2, .int v2)]) 2 (pc' := 155) dX11_times_152 rfl ic_1 (Nat.le_of_ble_eq_true rfl) rfl rfl ?_
    refine ex_goto (tgt := 124) dX11_times_155 (by decide) ?_
    exact ex_sub [1, 2, 0] rfl (hC _ _ (Option.some.inj hf).symm)
  · replace hf := if_f hc29 hf
    exact ex_sub [0, 1] rfl (hX _ (Option.some.inj hf).symm)
def f_X11_times_l124 (N : Nat) (v2 : Int32) (v3 : Int32) (L : ML) : Option (ML) := loopN (fun s => f_X11_times_b124 N v2 s.1 s.2) N (v3, L)
set_option maxRecDepth 100000 in
set_option maxHeartbeats 4000000 in
theorem k_X11_times_l124 {G : GX} {Q : State → Prop} {X : MX} (hO : shX11 X) {v2 : Int32}  {N0 : Nat} {I : MI} {out : (ML)} (hX : ∀ (L' : ML), out = L' → Ex G mX11_times rmX11_times Q (0, 0) X I L' 158 [(0, .ref (gB G + 99)), (2, .int v2)] []) : ∀ (N : Nat) (v3 : Int32) (L : ML), loopN (fun s => f_X11_times_b124 N0 v2 s.1 s.2) N (v3, L) = some out → Ex G mX11_times rmX11_times Q (0, 0) X I L 124 [(0, .ref (gB G + 99)), (2, .int v2), (3, .int v3)] [] := by
  intro N
  induction N with
  | zero => intro v3 L hf; exact absurd (loopN_zero hf) id
  | succ n ih =>
    intro v3 L hf
    rcases loopN_succ hf with ⟨s, hb, hl⟩ | hb
    · obtain ⟨v3', L'⟩ := s
      refine k_X11_times_b124 hO  hb (fun _ _ he => ?_) (fun _ he => by cases he)
      cases he
      exact ih v3' L' hl
    · exact k_X11_times_b124 hO  hb (fun _ _ he => by cases he) (fun x0 he => hX x0 (Sum.inr.inj he))
def f_X11_times_b116 (N : Nat)  (v2 : Int32) (L : ML) : Option ((Int32 × ML) ⊕ (ML)) := (if v2 < 13 then bnd1 (f_X11_times_l124 N v2 0 L) fun L33 => some (.inl (v2 + 1, L33)) else some (.inr L))
set_option maxRecDepth 100000 in
set_option maxHeartbeats 4000000 in
theorem k_X11_times_b116 {G : GX} {Q : State → Prop} {X : MX} (hO : shX11 X)   {v2 : Int32} {N : Nat} {I : MI} {L : ML} {out : (Int32 × ML) ⊕ (ML)} (hf : f_X11_times_b116 N v2 L = some out) (hC : ∀ (v2' : Int32) (L' : ML), out = .inl (v2', L') → Ex G mX11_times rmX11_times Q (0, 0) X I L' 116 [(0, .ref (gB G + 99)), (2, .int v2')] []) (hX : ∀ (L' : ML), out = .inr L' → Ex G mX11_times rmX11_times Q (0, 0) X I L' 164 [(0, .ref (gB G + 99))] []) : Ex G mX11_times rmX11_times Q (0, 0) X I L 116 [(0, .ref (gB G + 99)), (2, .int v2)] [] := by
  unfold f_X11_times_b116 at hf
  refine ex_iload_n 1 (pc' := 117) dX11_times_116 rfl rfl rfl ?_
  refine ex_bipush (v := 13) (pc' := 119) dX11_times_117 bp_13 rfl ?_
  refine ex_icmpge (tgt := 164) (pc' := 122) dX11_times_119 (by decide) rfl (fun hc28 => ?_) (fun hc28 => ?_)
  · replace hf := if_t hc28 hf
    refine ex_iconst (v := 0) (pc' := 123) dX11_times_122 ic_0 rfl ?_
    refine ex_istore_n (lv' := [(3, .int 0), (0, .ref (gB G + 99)), (2, .int v2)]) (pc' := 124) dX11_times_123 rfl (Nat.le_of_ble_eq_true rfl) rfl rfl ?_
    refine ex_sub (lv' := [(0, .ref (gB G + 99)), (2, .int v2), (3, .int 0)]) [1, 2, 0] rfl ?_
    obtain ⟨L33, hq34, hf⟩ := of_bnd1 hf
    refine k_X11_times_l124 hO (fun L33' he => ?_) _ _ _ hq34
    cases he
    refine ex_iincc (lv' := [(2, .int (v2 + 1)), (0, .ref (gB G + 99))]) 1 (pc' := 161) dX11_times_158 rfl ic_1 (Nat.le_of_ble_eq_true rfl) rfl rfl ?_
    refine ex_goto (tgt := 116) dX11_times_161 (by decide) ?_
    exact ex_sub [1, 0] rfl (hC _ _ (Option.some.inj hf).symm)
  · replace hf := if_f hc28 hf
    exact ex_sub [0] rfl (hX _ (Option.some.inj hf).symm)
def f_X11_times_l116 (N : Nat)  (v2 : Int32) (L : ML) : Option (ML) := loopN (fun s => f_X11_times_b116 N s.1 s.2) N (v2, L)
set_option maxRecDepth 100000 in
set_option maxHeartbeats 4000000 in
theorem k_X11_times_l116 {G : GX} {Q : State → Prop} {X : MX} (hO : shX11 X)   {N0 : Nat} {I : MI} {out : (ML)} (hX : ∀ (L' : ML), out = L' → Ex G mX11_times rmX11_times Q (0, 0) X I L' 164 [(0, .ref (gB G + 99))] []) : ∀ (N : Nat) (v2 : Int32) (L : ML), loopN (fun s => f_X11_times_b116 N0 s.1 s.2) N (v2, L) = some out → Ex G mX11_times rmX11_times Q (0, 0) X I L 116 [(0, .ref (gB G + 99)), (2, .int v2)] [] := by
  intro N
  induction N with
  | zero => intro v2 L hf; exact absurd (loopN_zero hf) id
  | succ n ih =>
    intro v2 L hf
    rcases loopN_succ hf with ⟨s, hb, hl⟩ | hb
    · obtain ⟨v2', L'⟩ := s
      refine k_X11_times_b116 hO  hb (fun _ _ he => ?_) (fun _ he => by cases he)
      cases he
      exact ih v2' L' hl
    · exact k_X11_times_b116 hO  hb (fun _ _ he => by cases he) (fun x0 he => hX x0 (Sum.inr.inj he))
def f_X11_times (N : Nat) (v1 : Int32) (I : MI) (L : ML) : Option (Int32 × ML) := bnd1 (f_X11_isSix v1) fun r1 => (if r1 = 0 then some ((-1), L) else bnd1 (f_X11_times_l11 N v1 0 L) fun L17 => bns1 (f_X11_times_l77 N v1 0 I L17) (fun L26 => bnd1 (f_X11_times_l116 N 0 L26) fun L35 => bnd1 (f_X11_numbersMany N L35) fun r37 => some (r37, L35)) (fun q39 => some q39))
set_option maxRecDepth 100000 in
set_option maxHeartbeats 4000000 in
theorem kb_X11_times {G : GX} {Q : State → Prop} {X : MX} (hO : shX11 X) {v1 : Int32}  {N : Nat} {I : MI} {L : ML} {out : Int32 × ML} (hf : f_X11_times N v1 I L = some out) (hR : ∀ (z : Int32) (L' : ML), out = (z, L') → Q = RetQ G (some (.int z)) X I L' (0, 0)) : Ex G mX11_times rmX11_times Q (0, 0) X I L 0 [(0, .ref (gB G + 99)), (1, .int v1)] [] := by
  unfold f_X11_times at hf
  refine ex_iload_n 1 (pc' := 1) dX11_times_0 rfl rfl rfl ?_
  obtain ⟨r1, hq2, hf⟩ := of_bnd1 hf
  refine ex_callS_i (rm' := rmX11_isSix) (st := []) (pc' := 4) [.int v1] dX11_times_1 cl_X11_133 (k_X11_isSix G hq2) rfl rfl rfl (ROOM_of rfl) (Nat.le_of_ble_eq_true rfl) rfl rfl ?_
  refine ex_ifne (tgt := 9) (pc' := 7) dX11_times_4 (by decide) rfl (fun hc3 => ?_) (fun hc3 => ?_)
  · replace hf := if_t hc3 hf
    refine ex_iconst (v := (-1)) (pc' := 8) dX11_times_7 ic_m1 rfl ?_
    exact ex_iret dX11_times_8 rfl (hR _ _ (Option.some.inj hf).symm)
  · replace hf := if_f hc3 hf
    refine ex_iconst (v := 0) (pc' := 10) dX11_times_9 ic_0 rfl ?_
    refine ex_istore_n (lv' := [(2, .int 0), (0, .ref (gB G + 99)), (1, .int v1)]) (pc' := 11) dX11_times_10 rfl (Nat.le_of_ble_eq_true rfl) rfl rfl ?_
    refine ex_sub (lv' := [(0, .ref (gB G + 99)), (1, .int v1), (2, .int 0)]) [1, 2, 0] rfl ?_
    obtain ⟨L17, hq18, hf⟩ := of_bnd1 hf
    refine k_X11_times_l11 hO (fun L17' he => ?_) _ _ _ hq18
    cases he
    refine ex_iconst (v := 0) (pc' := 76) dX11_times_75 ic_0 rfl ?_
    refine ex_istore_n (lv' := [(2, .int 0), (0, .ref (gB G + 99)), (1, .int v1)]) (pc' := 77) dX11_times_76 rfl (Nat.le_of_ble_eq_true rfl) rfl rfl ?_
    refine ex_sub (lv' := [(0, .ref (gB G + 99)), (1, .int v1), (2, .int 0)]) [1, 2, 0] rfl ?_
    rcases of_bns1 hf with ⟨L26, hq27, hf⟩ | ⟨q39, hq27, hf⟩
    · refine k_X11_times_l77 hO (fun L26' he => ?_) (fun _ _ he => by cases he) _ _ _ hq27
      cases he
      refine ex_iconst (v := 0) (pc' := 115) dX11_times_114 ic_0 rfl ?_
      refine ex_istore_n (lv' := [(2, .int 0), (0, .ref (gB G + 99))]) (pc' := 116) dX11_times_115 rfl (Nat.le_of_ble_eq_true rfl) rfl rfl ?_
      refine ex_sub (lv' := [(0, .ref (gB G + 99)), (2, .int 0)]) [1, 0] rfl ?_
      obtain ⟨L35, hq36, hf⟩ := of_bnd1 hf
      refine k_X11_times_l116 hO (fun L35' he => ?_) _ _ _ hq36
      cases he
      refine ex_aload_n 0 (pc' := 165) dX11_times_164 rfl rfl rfl ?_
      obtain ⟨r37, hq38, hf⟩ := of_bnd1 hf
      refine ex_callV_i (rm' := rmX11_numbersMany) (st := []) (pc' := 168) [] dX11_times_165 cl_X11_155 (k_X11_numbersMany G hO hq38) rfl (sh11_k hO) ⟨_, _, rfl⟩ rfl rfl (ROOM_of rfl) (Nat.le_of_ble_eq_true rfl) rfl rfl ?_
      exact ex_iret dX11_times_168 rfl (hR _ _ (Option.some.inj hf).symm)
    · refine k_X11_times_l77 hO (fun _ he => by cases he) (fun z0 z1 he => ?_) _ _ _ hq27
      refine hR _ _ ?_
      rw [← Option.some.inj hf]
      cases he
      rfl
set_option maxRecDepth 100000 in
set_option maxHeartbeats 4000000 in
theorem k_X11_times (G : GX) {X : MX} (hO : shX11 X) {v1 : Int32}  {N : Nat} {I : MI} {L : ML} {z : Int32} {L' : ML} (hf : f_X11_times N v1 I L = some (z, L')) : Con G mX11_times yX11_times rmX11_times (fun B => [.ref (B + 99), .int v1]) X I L (some (.int z)) X I L' :=
  Con.of (by decide) rfl (fun h => by cases h) (fun B => Nat.le_of_ble_eq_true rfl) (fun G => kb_X11_times hO  hf (fun _ _ he => by cases he; rfl))
-- X11_told ('RookWordsModel', 'told', '(I)I')
def rmX11_told : RM := ((2, 45, 0, 0), false, (some FieldType.int))
def f_X11_told_b4 (N : Nat) (v1 : Int32) (v2 : Int32) (v3 : Int32) (I : MI) : Option ((Int32 × Int32) ⊕ (Int32)) := (if v3 < 6 then bnd1 (f_X11_cells N v3 I) fun r2 => some (.inl (v2 + r2, v3 + 1)) else some (.inr v2))
set_option maxRecDepth 100000 in
set_option maxHeartbeats 4000000 in
theorem k_X11_told_b4 {G : GX} {Q : State → Prop} {X : MX} (hO : shX11 X) {v1 : Int32}  {v2 : Int32} {v3 : Int32} {N : Nat} {I : MI} {L : ML} {out : (Int32 × Int32) ⊕ (Int32)} (hf : f_X11_told_b4 N v1 v2 v3 I = some out) (hC : ∀ (v2' : Int32) (v3' : Int32), out = .inl (v2', v3') → Ex G mX11_told rmX11_told Q (0, 0) X I L 4 [(0, .ref (gB G + 99)), (1, .int v1), (2, .int v2'), (3, .int v3')] []) (hX : ∀ (w2 : Int32), out = .inr w2 → Ex G mX11_told rmX11_told Q (0, 0) X I L 24 [(0, .ref (gB G + 99)), (1, .int v1), (2, .int w2)] []) : Ex G mX11_told rmX11_told Q (0, 0) X I L 4 [(0, .ref (gB G + 99)), (1, .int v1), (2, .int v2), (3, .int v3)] [] := by
  unfold f_X11_told_b4 at hf
  refine ex_iload_n 3 (pc' := 5) dX11_told_4 rfl rfl rfl ?_
  refine ex_bipush (v := 6) (pc' := 7) dX11_told_5 bp_6 rfl ?_
  refine ex_icmpge (tgt := 24) (pc' := 10) dX11_told_7 (by decide) rfl (fun hc1 => ?_) (fun hc1 => ?_)
  · replace hf := if_t hc1 hf
    refine ex_iload_n 2 (pc' := 11) dX11_told_10 rfl rfl rfl ?_
    refine ex_aload_n 0 (pc' := 12) dX11_told_11 rfl rfl rfl ?_
    refine ex_iload_n 3 (pc' := 13) dX11_told_12 rfl rfl rfl ?_
    obtain ⟨r2, hq3, hf⟩ := of_bnd1 hf
    refine ex_callV_i (rm' := rmX11_cells) (st := [.int v2]) (pc' := 16) [.int v3] dX11_told_13 cl_X11_186 (k_X11_cells G hO hq3) rfl (sh11_k hO) ⟨_, _, rfl⟩ rfl rfl (ROOM_of rfl) (Nat.le_of_ble_eq_true rfl) rfl rfl ?_
    refine ex_iadd (pc' := 17) dX11_told_16 rfl ?_
    refine ex_istore_n (lv' := [(2, .int (v2 + r2)), (0, .ref (gB G + 99)), (1, .int v1), (3, .int v3)]) (pc' := 18) dX11_told_17 rfl (Nat.le_of_ble_eq_true rfl) rfl rfl ?_
    refine ex_iincc (lv' := [(3, .int (v3 + 1)), (2, .int (v2 + r2)), (0, .ref (gB G + 99)), (1, .int v1)]) 3 (pc' := 21) dX11_told_18 rfl ic_1 (Nat.le_of_ble_eq_true rfl) rfl rfl ?_
    refine ex_goto (tgt := 4) dX11_told_21 (by decide) ?_
    exact ex_sub [2, 3, 1, 0] rfl (hC _ _ (Option.some.inj hf).symm)
  · replace hf := if_f hc1 hf
    exact ex_sub [0, 1, 2] rfl (hX _ (Option.some.inj hf).symm)
def f_X11_told_l4 (N : Nat) (v1 : Int32) (v2 : Int32) (v3 : Int32) (I : MI) : Option (Int32) := loopN (fun s => f_X11_told_b4 N v1 s.1 s.2 I) N (v2, v3)
set_option maxRecDepth 100000 in
set_option maxHeartbeats 4000000 in
theorem k_X11_told_l4 {G : GX} {Q : State → Prop} {X : MX} (hO : shX11 X) {v1 : Int32}  {N0 : Nat} {I : MI} {L : ML} {out : (Int32)} (hX : ∀ (w2 : Int32), out = w2 → Ex G mX11_told rmX11_told Q (0, 0) X I L 24 [(0, .ref (gB G + 99)), (1, .int v1), (2, .int w2)] []) : ∀ (N : Nat) (v2 : Int32) (v3 : Int32), loopN (fun s => f_X11_told_b4 N0 v1 s.1 s.2 I) N (v2, v3) = some out → Ex G mX11_told rmX11_told Q (0, 0) X I L 4 [(0, .ref (gB G + 99)), (1, .int v1), (2, .int v2), (3, .int v3)] [] := by
  intro N
  induction N with
  | zero => intro v2 v3 hf; exact absurd (loopN_zero hf) id
  | succ n ih =>
    intro v2 v3 hf
    rcases loopN_succ hf with ⟨s, hb, hl⟩ | hb
    · obtain ⟨v2', v3'⟩ := s
      refine k_X11_told_b4 hO  hb (fun _ _ he => ?_) (fun _ he => by cases he)
      cases he
      exact ih v2' v3' hl
    · exact k_X11_told_b4 hO  hb (fun _ _ he => by cases he) (fun x0 he => hX x0 (Sum.inr.inj he))
def f_X11_told (N : Nat) (v1 : Int32) (I : MI) (L : ML) : Option (Int32) := bnd1 (f_X11_told_l4 N v1 0 0 I) fun x4 => (if v1 = 0 then bnd1 (f_X11_allLetters N I) fun r7 => some r7 else (if v1 = 1 then some x4 else (if v1 = 2 then some (I 99 9) else (if v1 = 3 then some (I 99 13) else (if v1 = 4 then some (I 99 15) else (if v1 = 5 then some (I 99 6) else (if v1 = 6 then bnd1 (f_X11_numbersMany N L) fun r15 => some r15 else some (-2))))))))
set_option maxRecDepth 100000 in
set_option maxHeartbeats 4000000 in
theorem kb_X11_told {G : GX} {Q : State → Prop} {X : MX} (hO : shX11 X) {v1 : Int32}  {N : Nat} {I : MI} {L : ML} {out : Int32} (hf : f_X11_told N v1 I L = some out) (hR : ∀ (z : Int32), out = z → Q = RetQ G (some (.int z)) X I L (0, 0)) : Ex G mX11_told rmX11_told Q (0, 0) X I L 0 [(0, .ref (gB G + 99)), (1, .int v1)] [] := by
  unfold f_X11_told at hf
  refine ex_iconst (v := 0) (pc' := 1) dX11_told_0 ic_0 rfl ?_
  refine ex_istore_n (lv' := [(2, .int 0), (0, .ref (gB G + 99)), (1, .int v1)]) (pc' := 2) dX11_told_1 rfl (Nat.le_of_ble_eq_true rfl) rfl rfl ?_
  refine ex_iconst (v := 0) (pc' := 3) dX11_told_2 ic_0 rfl ?_
  refine ex_istore_n (lv' := [(3, .int 0), (2, .int 0), (0, .ref (gB G + 99)), (1, .int v1)]) (pc' := 4) dX11_told_3 rfl (Nat.le_of_ble_eq_true rfl) rfl rfl ?_
  refine ex_sub (lv' := [(0, .ref (gB G + 99)), (1, .int v1), (2, .int 0), (3, .int 0)]) [2, 3, 1, 0] rfl ?_
  obtain ⟨x4, hq5, hf⟩ := of_bnd1 hf
  refine k_X11_told_l4 hO (fun x4' he => ?_) _ _ _ hq5
  cases he
  refine ex_iload_n 1 (pc' := 25) dX11_told_24 rfl rfl rfl ?_
  by_cases hc6 : v1 = 0
  · replace hf := if_t hc6 hf
    refine ex_tableIn (off := 43) (tgt := 68) dX11_told_25 (by rw [hc6]; decide) (by rw [hc6]; decide) (by rw [hc6]; decide) (by decide) ?_
    refine ex_aload_n 0 (pc' := 69) dX11_told_68 rfl rfl rfl ?_
    obtain ⟨r7, hq8, hf⟩ := of_bnd1 hf
    refine ex_callV_i (rm' := rmX11_allLetters) (st := []) (pc' := 72) [] dX11_told_69 cl_X11_323 (k_X11_allLetters G hO hq8) rfl (sh11_k hO) ⟨_, _, rfl⟩ rfl rfl (ROOM_of rfl) (Nat.le_of_ble_eq_true rfl) rfl rfl ?_
    exact ex_iret dX11_told_72 rfl (hR _ (Option.some.inj hf).symm)
  replace hf := if_f hc6 hf
  by_cases hc9 : v1 = 1
  · replace hf := if_t hc9 hf
    refine ex_tableIn (off := 48) (tgt := 73) dX11_told_25 (by rw [hc9]; decide) (by rw [hc9]; decide) (by rw [hc9]; decide) (by decide) ?_
    refine ex_iload_n 2 (pc' := 74) dX11_told_73 rfl rfl rfl ?_
    exact ex_iret dX11_told_74 rfl (hR _ (Option.some.inj hf).symm)
  replace hf := if_f hc9 hf
  by_cases hc10 : v1 = 2
  · replace hf := if_t hc10 hf
    refine ex_tableIn (off := 50) (tgt := 75) dX11_told_25 (by rw [hc10]; decide) (by rw [hc10]; decide) (by rw [hc10]; decide) (by decide) ?_
    refine ex_aload_n 0 (pc' := 76) dX11_told_75 rfl rfl rfl ?_
    refine ex_getI (pc' := 79) dX11_told_76 fl_X11_175 rfl (sh11_k hO) rfl ?_
    exact ex_iret dX11_told_79 rfl (hR _ (Option.some.inj hf).symm)
  replace hf := if_f hc10 hf
  by_cases hc11 : v1 = 3
  · replace hf := if_t hc11 hf
    refine ex_tableIn (off := 55) (tgt := 80) dX11_told_25 (by rw [hc11]; decide) (by rw [hc11]; decide) (by rw [hc11]; decide) (by decide) ?_
    refine ex_aload_n 0 (pc' := 81) dX11_told_80 rfl rfl rfl ?_
    refine ex_getI (pc' := 84) dX11_told_81 fl_X11_297 rfl (sh11_k hO) rfl ?_
    exact ex_iret dX11_told_84 rfl (hR _ (Option.some.inj hf).symm)
  replace hf := if_f hc11 hf
  by_cases hc12 : v1 = 4
  · replace hf := if_t hc12 hf
    refine ex_tableIn (off := 60) (tgt := 85) dX11_told_25 (by rw [hc12]; decide) (by rw [hc12]; decide) (by rw [hc12]; decide) (by decide) ?_
    refine ex_aload_n 0 (pc' := 86) dX11_told_85 rfl rfl rfl ?_
    refine ex_getI (pc' := 89) dX11_told_86 fl_X11_310 rfl (sh11_k hO) rfl ?_
    exact ex_iret dX11_told_89 rfl (hR _ (Option.some.inj hf).symm)
  replace hf := if_f hc12 hf
  by_cases hc13 : v1 = 5
  · replace hf := if_t hc13 hf
    refine ex_tableIn (off := 65) (tgt := 90) dX11_told_25 (by rw [hc13]; decide) (by rw [hc13]; decide) (by rw [hc13]; decide) (by decide) ?_
    refine ex_aload_n 0 (pc' := 91) dX11_told_90 rfl rfl rfl ?_
    refine ex_getI (pc' := 94) dX11_told_91 fl_X11_234 rfl (sh11_k hO) rfl ?_
    exact ex_iret dX11_told_94 rfl (hR _ (Option.some.inj hf).symm)
  replace hf := if_f hc13 hf
  by_cases hc14 : v1 = 6
  · replace hf := if_t hc14 hf
    refine ex_tableIn (off := 70) (tgt := 95) dX11_told_25 (by rw [hc14]; decide) (by rw [hc14]; decide) (by rw [hc14]; decide) (by decide) ?_
    refine ex_aload_n 0 (pc' := 96) dX11_told_95 rfl rfl rfl ?_
    obtain ⟨r15, hq16, hf⟩ := of_bnd1 hf
    refine ex_callV_i (rm' := rmX11_numbersMany) (st := []) (pc' := 99) [] dX11_told_96 cl_X11_155 (k_X11_numbersMany G hO hq16) rfl (sh11_k hO) ⟨_, _, rfl⟩ rfl rfl (ROOM_of rfl) (Nat.le_of_ble_eq_true rfl) rfl rfl ?_
    exact ex_iret dX11_told_99 rfl (hR _ (Option.some.inj hf).symm)
  replace hf := if_f hc14 hf
  have hc6t := lv_neT (a := 0) hc6 (by decide)
  have hc9t := lv_neT (a := 1) hc9 (by decide)
  have hc10t := lv_neT (a := 2) hc10 (by decide)
  have hc11t := lv_neT (a := 3) hc11 (by decide)
  have hc12t := lv_neT (a := 4) hc12 (by decide)
  have hc13t := lv_neT (a := 5) hc13 (by decide)
  have hc14t := lv_neT (a := 6) hc14 (by decide)
  refine ex_tableOut (tgt := 100) dX11_told_25 (by omega) (by decide) ?_
  refine ex_bipush (v := (-2)) (pc' := 102) dX11_told_100 bp_m2 rfl ?_
  exact ex_iret dX11_told_102 rfl (hR _ (Option.some.inj hf).symm)
set_option maxRecDepth 100000 in
set_option maxHeartbeats 4000000 in
theorem k_X11_told (G : GX) {X : MX} (hO : shX11 X) {v1 : Int32}  {N : Nat} {I : MI} {L : ML} {z : Int32} (hf : f_X11_told N v1 I L = some z) : Con G mX11_told yX11_told rmX11_told (fun B => [.ref (B + 99), .int v1]) X I L (some (.int z)) X I L :=
  Con.of (by decide) rfl (fun h => by cases h) (fun B => Nat.le_of_ble_eq_true rfl) (fun G => kb_X11_told hO  hf (fun _ he => by cases he; rfl))
-- X11_turn ('RookWordsModel', 'turn', '(I)I')
def rmX11_turn : RM := ((2, 45, 0, 0), false, (some FieldType.int))
def f_X11_turn_b18 (N : Nat) (v1 : Int32) (v2 : Int32) (v3 : Int32) (I : MI) : Option ((Int32 × MI) ⊕ (MI)) := (if v3 < v2 then if inb ((((12 * v1) + v2) - 1) - v3) 72 then if inb v3 12 then letv (upI I 128 (Int32.toNatClampNeg v3) (1 - (I 101 (Int32.toNatClampNeg ((((12 * v1) + v2) - 1) - v3))))) fun I8 => some (.inl (v3 + 1, I8)) else none else none else some (.inr I))
set_option maxRecDepth 100000 in
set_option maxHeartbeats 4000000 in
theorem k_X11_turn_b18 {G : GX} {Q : State → Prop} {X : MX} (hO : shX11 X) {v1 : Int32} {v2 : Int32}  {v3 : Int32} {N : Nat} {I : MI} {L : ML} {out : (Int32 × MI) ⊕ (MI)} (hf : f_X11_turn_b18 N v1 v2 v3 I = some out) (hC : ∀ (v3' : Int32) (I' : MI), out = .inl (v3', I') → Ex G mX11_turn rmX11_turn Q (0, 0) X I' L 18 [(0, .ref (gB G + 99)), (1, .int v1), (2, .int v2), (3, .int v3')] []) (hX : ∀ (I' : MI), out = .inr I' → Ex G mX11_turn rmX11_turn Q (0, 0) X I' L 52 [(0, .ref (gB G + 99)), (1, .int v1), (2, .int v2)] []) : Ex G mX11_turn rmX11_turn Q (0, 0) X I L 18 [(0, .ref (gB G + 99)), (1, .int v1), (2, .int v2), (3, .int v3)] [] := by
  unfold f_X11_turn_b18 at hf
  refine ex_iload_n 3 (pc' := 19) dX11_turn_18 rfl rfl rfl ?_
  refine ex_iload_n 2 (pc' := 20) dX11_turn_19 rfl rfl rfl ?_
  refine ex_icmpge (tgt := 52) (pc' := 23) dX11_turn_20 (by decide) rfl (fun hc5 => ?_) (fun hc5 => ?_)
  · replace hf := if_t hc5 hf
    refine ex_aload_n 0 (pc' := 24) dX11_turn_23 rfl rfl rfl ?_
    refine ex_getR (pc' := 27) dX11_turn_24 fl_X11_97 rfl (sh11_k hO) (sh11_F34 hO) rfl ?_
    refine ex_iload_n 3 (pc' := 28) dX11_turn_27 rfl rfl rfl ?_
    refine ex_iconst (v := 1) (pc' := 29) dX11_turn_28 ic_1 rfl ?_
    refine ex_aload_n 0 (pc' := 30) dX11_turn_29 rfl rfl rfl ?_
    refine ex_getR (pc' := 33) dX11_turn_30 fl_X11_15 rfl (sh11_k hO) (sh11_F1 hO) rfl ?_
    refine ex_bipush (v := 12) (pc' := 35) dX11_turn_33 bp_12 rfl ?_
    refine ex_iload_n 1 (pc' := 36) dX11_turn_35 rfl rfl rfl ?_
    refine ex_imul (pc' := 37) dX11_turn_36 rfl ?_
    refine ex_iload_n 2 (pc' := 38) dX11_turn_37 rfl rfl rfl ?_
    refine ex_iadd (pc' := 39) dX11_turn_38 rfl ?_
    refine ex_iconst (v := 1) (pc' := 40) dX11_turn_39 ic_1 rfl ?_
    refine ex_isub (pc' := 41) dX11_turn_40 rfl ?_
    refine ex_iload_n 3 (pc' := 42) dX11_turn_41 rfl rfl rfl ?_
    refine ex_isub (pc' := 43) dX11_turn_42 rfl ?_
    obtain ⟨hg6, hf⟩ := of_guard hf
    refine ex_iald (pc' := 44) dX11_turn_43 (sh11_T1 hO) (inb_in hg6) rfl ?_
    refine ex_isub (pc' := 45) dX11_turn_44 rfl ?_
    obtain ⟨hg7, hf⟩ := of_guard hf
    refine ex_iast (pc' := 46) dX11_turn_45 (sh11_T34 hO) (inb_in hg7) rfl ?_
    obtain ⟨I8, hI8, hf⟩ := of_let hf
    rw [← hI8]
    refine ex_iincc (lv' := [(3, .int (v3 + 1)), (0, .ref (gB G + 99)), (1, .int v1), (2, .int v2)]) 3 (pc' := 49) dX11_turn_46 rfl ic_1 (Nat.le_of_ble_eq_true rfl) rfl rfl ?_
    refine ex_goto (tgt := 18) dX11_turn_49 (by decide) ?_
    exact ex_sub [1, 2, 3, 0] rfl (hC _ _ (Option.some.inj hf).symm)
  · replace hf := if_f hc5 hf
    exact ex_sub [0, 1, 2] rfl (hX _ (Option.some.inj hf).symm)
def f_X11_turn_l18 (N : Nat) (v1 : Int32) (v2 : Int32) (v3 : Int32) (I : MI) : Option (MI) := loopN (fun s => f_X11_turn_b18 N v1 v2 s.1 s.2) N (v3, I)
set_option maxRecDepth 100000 in
set_option maxHeartbeats 4000000 in
theorem k_X11_turn_l18 {G : GX} {Q : State → Prop} {X : MX} (hO : shX11 X) {v1 : Int32} {v2 : Int32}  {N0 : Nat} {L : ML} {out : (MI)} (hX : ∀ (I' : MI), out = I' → Ex G mX11_turn rmX11_turn Q (0, 0) X I' L 52 [(0, .ref (gB G + 99)), (1, .int v1), (2, .int v2)] []) : ∀ (N : Nat) (v3 : Int32) (I : MI), loopN (fun s => f_X11_turn_b18 N0 v1 v2 s.1 s.2) N (v3, I) = some out → Ex G mX11_turn rmX11_turn Q (0, 0) X I L 18 [(0, .ref (gB G + 99)), (1, .int v1), (2, .int v2), (3, .int v3)] [] := by
  intro N
  induction N with
  | zero => intro v3 I hf; exact absurd (loopN_zero hf) id
  | succ n ih =>
    intro v3 I hf
    rcases loopN_succ hf with ⟨s, hb, hl⟩ | hb
    · obtain ⟨v3', I'⟩ := s
      refine k_X11_turn_b18 hO  hb (fun _ _ he => ?_) (fun _ he => by cases he)
      cases he
      exact ih v3' I' hl
    · exact k_X11_turn_b18 hO  hb (fun _ _ he => by cases he) (fun x0 he => hX x0 (Sum.inr.inj he))
def f_X11_turn_b54 (N : Nat) (v1 : Int32) (v2 : Int32) (v3 : Int32) (I : MI) : Option ((Int32 × MI) ⊕ (MI)) := (if v3 < v2 then if inb v3 12 then if inb ((12 * v1) + v3) 72 then letv (upI I 101 (Int32.toNatClampNeg ((12 * v1) + v3)) (I 128 (Int32.toNatClampNeg v3))) fun I14 => some (.inl (v3 + 1, I14)) else none else none else some (.inr I))
set_option maxRecDepth 100000 in
set_option maxHeartbeats 4000000 in
theorem k_X11_turn_b54 {G : GX} {Q : State → Prop} {X : MX} (hO : shX11 X) {v1 : Int32} {v2 : Int32}  {v3 : Int32} {N : Nat} {I : MI} {L : ML} {out : (Int32 × MI) ⊕ (MI)} (hf : f_X11_turn_b54 N v1 v2 v3 I = some out) (hC : ∀ (v3' : Int32) (I' : MI), out = .inl (v3', I') → Ex G mX11_turn rmX11_turn Q (0, 0) X I' L 54 [(0, .ref (gB G + 99)), (1, .int v1), (2, .int v2), (3, .int v3')] []) (hX : ∀ (I' : MI), out = .inr I' → Ex G mX11_turn rmX11_turn Q (0, 0) X I' L 82 [(2, .int v2)] []) : Ex G mX11_turn rmX11_turn Q (0, 0) X I L 54 [(0, .ref (gB G + 99)), (1, .int v1), (2, .int v2), (3, .int v3)] [] := by
  unfold f_X11_turn_b54 at hf
  refine ex_iload_n 3 (pc' := 55) dX11_turn_54 rfl rfl rfl ?_
  refine ex_iload_n 2 (pc' := 56) dX11_turn_55 rfl rfl rfl ?_
  refine ex_icmpge (tgt := 82) (pc' := 59) dX11_turn_56 (by decide) rfl (fun hc11 => ?_) (fun hc11 => ?_)
  · replace hf := if_t hc11 hf
    refine ex_aload_n 0 (pc' := 60) dX11_turn_59 rfl rfl rfl ?_
    refine ex_getR (pc' := 63) dX11_turn_60 fl_X11_15 rfl (sh11_k hO) (sh11_F1 hO) rfl ?_
    refine ex_bipush (v := 12) (pc' := 65) dX11_turn_63 bp_12 rfl ?_
    refine ex_iload_n 1 (pc' := 66) dX11_turn_65 rfl rfl rfl ?_
    refine ex_imul (pc' := 67) dX11_turn_66 rfl ?_
    refine ex_iload_n 3 (pc' := 68) dX11_turn_67 rfl rfl rfl ?_
    refine ex_iadd (pc' := 69) dX11_turn_68 rfl ?_
    refine ex_aload_n 0 (pc' := 70) dX11_turn_69 rfl rfl rfl ?_
    refine ex_getR (pc' := 73) dX11_turn_70 fl_X11_97 rfl (sh11_k hO) (sh11_F34 hO) rfl ?_
    refine ex_iload_n 3 (pc' := 74) dX11_turn_73 rfl rfl rfl ?_
    obtain ⟨hg12, hf⟩ := of_guard hf
    refine ex_iald (pc' := 75) dX11_turn_74 (sh11_T34 hO) (inb_in hg12) rfl ?_
    obtain ⟨hg13, hf⟩ := of_guard hf
    refine ex_iast (pc' := 76) dX11_turn_75 (sh11_T1 hO) (inb_in hg13) rfl ?_
    obtain ⟨I14, hI14, hf⟩ := of_let hf
    rw [← hI14]
    refine ex_iincc (lv' := [(3, .int (v3 + 1)), (0, .ref (gB G + 99)), (1, .int v1), (2, .int v2)]) 3 (pc' := 79) dX11_turn_76 rfl ic_1 (Nat.le_of_ble_eq_true rfl) rfl rfl ?_
    refine ex_goto (tgt := 54) dX11_turn_79 (by decide) ?_
    exact ex_sub [1, 2, 3, 0] rfl (hC _ _ (Option.some.inj hf).symm)
  · replace hf := if_f hc11 hf
    exact ex_sub [2] rfl (hX _ (Option.some.inj hf).symm)
def f_X11_turn_l54 (N : Nat) (v1 : Int32) (v2 : Int32) (v3 : Int32) (I : MI) : Option (MI) := loopN (fun s => f_X11_turn_b54 N v1 v2 s.1 s.2) N (v3, I)
set_option maxRecDepth 100000 in
set_option maxHeartbeats 4000000 in
theorem k_X11_turn_l54 {G : GX} {Q : State → Prop} {X : MX} (hO : shX11 X) {v1 : Int32} {v2 : Int32}  {N0 : Nat} {L : ML} {out : (MI)} (hX : ∀ (I' : MI), out = I' → Ex G mX11_turn rmX11_turn Q (0, 0) X I' L 82 [(2, .int v2)] []) : ∀ (N : Nat) (v3 : Int32) (I : MI), loopN (fun s => f_X11_turn_b54 N0 v1 v2 s.1 s.2) N (v3, I) = some out → Ex G mX11_turn rmX11_turn Q (0, 0) X I L 54 [(0, .ref (gB G + 99)), (1, .int v1), (2, .int v2), (3, .int v3)] [] := by
  intro N
  induction N with
  | zero => intro v3 I hf; exact absurd (loopN_zero hf) id
  | succ n ih =>
    intro v3 I hf
    rcases loopN_succ hf with ⟨s, hb, hl⟩ | hb
    · obtain ⟨v3', I'⟩ := s
      refine k_X11_turn_b54 hO  hb (fun _ _ he => ?_) (fun _ he => by cases he)
      cases he
      exact ih v3' I' hl
    · exact k_X11_turn_b54 hO  hb (fun _ _ he => by cases he) (fun x0 he => hX x0 (Sum.inr.inj he))
def f_X11_turn (N : Nat) (v1 : Int32) (I : MI) : Option (Int32 × MI) := bnd1 (f_X11_isSix v1) fun r1 => (if r1 = 0 then some ((-1), I) else if inb v1 6 then bnd1 (f_X11_turn_l18 N v1 (I 100 (Int32.toNatClampNeg v1)) 0 I) fun I9 => bnd1 (f_X11_turn_l54 N v1 (I 100 (Int32.toNatClampNeg v1)) 0 I9) fun I15 => some (I 100 (Int32.toNatClampNeg v1), I15) else none)
set_option maxRecDepth 100000 in
set_option maxHeartbeats 4000000 in
theorem kb_X11_turn {G : GX} {Q : State → Prop} {X : MX} (hO : shX11 X) {v1 : Int32}  {N : Nat} {I : MI} {L : ML} {out : Int32 × MI} (hf : f_X11_turn N v1 I = some out) (hR : ∀ (z : Int32) (I' : MI), out = (z, I') → Q = RetQ G (some (.int z)) X I' L (0, 0)) : Ex G mX11_turn rmX11_turn Q (0, 0) X I L 0 [(0, .ref (gB G + 99)), (1, .int v1)] [] := by
  unfold f_X11_turn at hf
  refine ex_iload_n 1 (pc' := 1) dX11_turn_0 rfl rfl rfl ?_
  obtain ⟨r1, hq2, hf⟩ := of_bnd1 hf
  refine ex_callS_i (rm' := rmX11_isSix) (st := []) (pc' := 4) [.int v1] dX11_turn_1 cl_X11_133 (k_X11_isSix G hq2) rfl rfl rfl (ROOM_of rfl) (Nat.le_of_ble_eq_true rfl) rfl rfl ?_
  refine ex_ifne (tgt := 9) (pc' := 7) dX11_turn_4 (by decide) rfl (fun hc3 => ?_) (fun hc3 => ?_)
  · replace hf := if_t hc3 hf
    refine ex_iconst (v := (-1)) (pc' := 8) dX11_turn_7 ic_m1 rfl ?_
    exact ex_iret dX11_turn_8 rfl (hR _ _ (Option.some.inj hf).symm)
  · replace hf := if_f hc3 hf
    refine ex_aload_n 0 (pc' := 10) dX11_turn_9 rfl rfl rfl ?_
    refine ex_getR (pc' := 13) dX11_turn_10 fl_X11_9 rfl (sh11_k hO) (sh11_F0 hO) rfl ?_
    refine ex_iload_n 1 (pc' := 14) dX11_turn_13 rfl rfl rfl ?_
    obtain ⟨hg4, hf⟩ := of_guard hf
    refine ex_iald (pc' := 15) dX11_turn_14 (sh11_T0 hO) (inb_in hg4) rfl ?_
    refine ex_istore_n (lv' := [(2, .int (I 100 (Int32.toNatClampNeg v1))), (0, .ref (gB G + 99)), (1, .int v1)]) (pc' := 16) dX11_turn_15 rfl (Nat.le_of_ble_eq_true rfl) rfl rfl ?_
    refine ex_iconst (v := 0) (pc' := 17) dX11_turn_16 ic_0 rfl ?_
    refine ex_istore_n (lv' := [(3, .int 0), (2, .int (I 100 (Int32.toNatClampNeg v1))), (0, .ref (gB G + 99)), (1, .int v1)]) (pc' := 18) dX11_turn_17 rfl (Nat.le_of_ble_eq_true rfl) rfl rfl ?_
    refine ex_sub (lv' := [(0, .ref (gB G + 99)), (1, .int v1), (2, .int (I 100 (Int32.toNatClampNeg v1))), (3, .int 0)]) [2, 3, 1, 0] rfl ?_
    obtain ⟨I9, hq10, hf⟩ := of_bnd1 hf
    refine k_X11_turn_l18 hO (fun I9' he => ?_) _ _ _ hq10
    cases he
    refine ex_iconst (v := 0) (pc' := 53) dX11_turn_52 ic_0 rfl ?_
    refine ex_istore_n (lv' := [(3, .int 0), (0, .ref (gB G + 99)), (1, .int v1), (2, .int (I 100 (Int32.toNatClampNeg v1)))]) (pc' := 54) dX11_turn_53 rfl (Nat.le_of_ble_eq_true rfl) rfl rfl ?_
    refine ex_sub (lv' := [(0, .ref (gB G + 99)), (1, .int v1), (2, .int (I 100 (Int32.toNatClampNeg v1))), (3, .int 0)]) [1, 2, 3, 0] rfl ?_
    obtain ⟨I15, hq16, hf⟩ := of_bnd1 hf
    refine k_X11_turn_l54 hO (fun I15' he => ?_) _ _ _ hq16
    cases he
    refine ex_iload_n 0 (pc' := 83) dX11_turn_82 rfl rfl rfl ?_
    exact ex_iret dX11_turn_83 rfl (hR _ _ (Option.some.inj hf).symm)
set_option maxRecDepth 100000 in
set_option maxHeartbeats 4000000 in
theorem k_X11_turn (G : GX) {X : MX} (hO : shX11 X) {v1 : Int32}  {N : Nat} {I : MI} {L : ML} {z : Int32} {I' : MI} (hf : f_X11_turn N v1 I = some (z, I')) : Con G mX11_turn yX11_turn rmX11_turn (fun B => [.ref (B + 99), .int v1]) X I L (some (.int z)) X I' L :=
  Con.of (by decide) rfl (fun h => by cases h) (fun B => Nat.le_of_ble_eq_true rfl) (fun G => kb_X11_turn hO  hf (fun _ _ he => by cases he; rfl))
-- X11_turned ('RookWordsModel', 'turned', '(I)I')
def rmX11_turned : RM := ((2, 45, 0, 0), false, (some FieldType.int))
def f_X11_turned_b33 (N : Nat) (v1 : Int32) (v2 : Int32) (v3 : Int32) (v4 : Int32) (I : MI) : Option ((Int32 × MI) ⊕ (MI)) := (if v4 < v2 then if inb v3 12 then bnd1 (f_X11_has v1 v4 v3 I) fun r10 => (if r10 = 0 then if inb v3 12 then letv (upI I 128 (Int32.toNatClampNeg v3) ((I 128 (Int32.toNatClampNeg v3)) ||| 0)) fun I14 => some (.inl (v4 + 1, I14)) else none else if inb v3 12 then letv (upI I 128 (Int32.toNatClampNeg v3) ((I 128 (Int32.toNatClampNeg v3)) ||| (jshl 1 v4))) fun I16 => some (.inl (v4 + 1, I16)) else none) else none else some (.inr I))
set_option maxRecDepth 100000 in
set_option maxHeartbeats 4000000 in
theorem k_X11_turned_b33 {G : GX} {Q : State → Prop} {X : MX} (hO : shX11 X) {v1 : Int32} {v2 : Int32} {v3 : Int32}  {v4 : Int32} {N : Nat} {I : MI} {L : ML} {out : (Int32 × MI) ⊕ (MI)} (hf : f_X11_turned_b33 N v1 v2 v3 v4 I = some out) (hC : ∀ (v4' : Int32) (I' : MI), out = .inl (v4', I') → Ex G mX11_turned rmX11_turned Q (0, 0) X I' L 33 [(0, .ref (gB G + 99)), (1, .int v1), (2, .int v2), (3, .int v3), (4, .int v4')] []) (hX : ∀ (I' : MI), out = .inr I' → Ex G mX11_turned rmX11_turned Q (0, 0) X I' L 73 [(0, .ref (gB G + 99)), (1, .int v1), (2, .int v2), (3, .int v3)] []) : Ex G mX11_turned rmX11_turned Q (0, 0) X I L 33 [(0, .ref (gB G + 99)), (1, .int v1), (2, .int v2), (3, .int v3), (4, .int v4)] [] := by
  unfold f_X11_turned_b33 at hf
  refine ex_iload 4 (pc' := 35) dX11_turned_33 rfl rfl ?_
  refine ex_iload_n 2 (pc' := 36) dX11_turned_35 rfl rfl rfl ?_
  refine ex_icmpge (tgt := 73) (pc' := 39) dX11_turned_36 (by decide) rfl (fun hc8 => ?_) (fun hc8 => ?_)
  · replace hf := if_t hc8 hf
    refine ex_aload_n 0 (pc' := 40) dX11_turned_39 rfl rfl rfl ?_
    refine ex_getR (pc' := 43) dX11_turned_40 fl_X11_97 rfl (sh11_k hO) (sh11_F34 hO) rfl ?_
    refine ex_iload_n 3 (pc' := 44) dX11_turned_43 rfl rfl rfl ?_
    refine ex_dup2 (pc' := 45) dX11_turned_44 rfl rfl rfl ?_
    obtain ⟨hg9, hf⟩ := of_guard hf
    refine ex_iald (pc' := 46) dX11_turned_45 (sh11_T34 hO) (inb_in hg9) rfl ?_
    refine ex_aload_n 0 (pc' := 47) dX11_turned_46 rfl rfl rfl ?_
    refine ex_iload_n 1 (pc' := 48) dX11_turned_47 rfl rfl rfl ?_
    refine ex_iload 4 (pc' := 50) dX11_turned_48 rfl rfl ?_
    refine ex_iload_n 3 (pc' := 51) dX11_turned_50 rfl rfl rfl ?_
    obtain ⟨r10, hq11, hf⟩ := of_bnd1 hf
    refine ex_callV_i (rm' := rmX11_has) (st := [.int (I 128 (Int32.toNatClampNeg v3)), .int v3, .ref (gB G + 128)]) (pc' := 54) [.int v1, .int v4, .int v3] dX11_turned_51 cl_X11_189 (k_X11_has G hO hq11) rfl (sh11_k hO) ⟨_, _, rfl⟩ rfl rfl (ROOM_of rfl) (Nat.le_of_ble_eq_true rfl) rfl rfl ?_
    refine ex_ifeq (tgt := 64) (pc' := 57) dX11_turned_54 (by decide) rfl (fun hc12 => ?_) (fun hc12 => ?_)
    · replace hf := if_t hc12 hf
      refine ex_iconst (v := 0) (pc' := 65) dX11_turned_64 ic_0 rfl ?_
      refine ex_ior (pc' := 66) dX11_turned_65 rfl ?_
      obtain ⟨hg13, hf⟩ := of_guard hf
      refine ex_iast (pc' := 67) dX11_turned_66 (sh11_T34 hO) (inb_in hg13) rfl ?_
      obtain ⟨I14, hI14, hf⟩ := of_let hf
      rw [← hI14]
      refine ex_iincc (lv' := [(4, .int (v4 + 1)), (0, .ref (gB G + 99)), (1, .int v1), (2, .int v2), (3, .int v3)]) 4 (pc' := 70) dX11_turned_67 rfl ic_1 (Nat.le_of_ble_eq_true rfl) rfl rfl ?_
      refine ex_goto (tgt := 33) dX11_turned_70 (by decide) ?_
      exact ex_sub [1, 2, 3, 4, 0] rfl (hC _ _ (Option.some.inj hf).symm)
    · replace hf := if_f hc12 hf
      refine ex_iconst (v := 1) (pc' := 58) dX11_turned_57 ic_1 rfl ?_
      refine ex_iload 4 (pc' := 60) dX11_turned_58 rfl rfl ?_
      refine ex_ishl (pc' := 61) dX11_turned_60 rfl ?_
      refine ex_goto (tgt := 65) dX11_turned_61 (by decide) ?_
      refine ex_ior (pc' := 66) dX11_turned_65 rfl ?_
      obtain ⟨hg15, hf⟩ := of_guard hf
      refine ex_iast (pc' := 67) dX11_turned_66 (sh11_T34 hO) (inb_in hg15) rfl ?_
      obtain ⟨I16, hI16, hf⟩ := of_let hf
      rw [← hI16]
      refine ex_iincc (lv' := [(4, .int (v4 + 1)), (0, .ref (gB G + 99)), (1, .int v1), (2, .int v2), (3, .int v3)]) 4 (pc' := 70) dX11_turned_67 rfl ic_1 (Nat.le_of_ble_eq_true rfl) rfl rfl ?_
      refine ex_goto (tgt := 33) dX11_turned_70 (by decide) ?_
      exact ex_sub [1, 2, 3, 4, 0] rfl (hC _ _ (Option.some.inj hf).symm)
  · replace hf := if_f hc8 hf
    exact ex_sub [0, 1, 2, 3] rfl (hX _ (Option.some.inj hf).symm)
def f_X11_turned_l33 (N : Nat) (v1 : Int32) (v2 : Int32) (v3 : Int32) (v4 : Int32) (I : MI) : Option (MI) := loopN (fun s => f_X11_turned_b33 N v1 v2 v3 s.1 s.2) N (v4, I)
set_option maxRecDepth 100000 in
set_option maxHeartbeats 4000000 in
theorem k_X11_turned_l33 {G : GX} {Q : State → Prop} {X : MX} (hO : shX11 X) {v1 : Int32} {v2 : Int32} {v3 : Int32}  {N0 : Nat} {L : ML} {out : (MI)} (hX : ∀ (I' : MI), out = I' → Ex G mX11_turned rmX11_turned Q (0, 0) X I' L 73 [(0, .ref (gB G + 99)), (1, .int v1), (2, .int v2), (3, .int v3)] []) : ∀ (N : Nat) (v4 : Int32) (I : MI), loopN (fun s => f_X11_turned_b33 N0 v1 v2 v3 s.1 s.2) N (v4, I) = some out → Ex G mX11_turned rmX11_turned Q (0, 0) X I L 33 [(0, .ref (gB G + 99)), (1, .int v1), (2, .int v2), (3, .int v3), (4, .int v4)] [] := by
  intro N
  induction N with
  | zero => intro v4 I hf; exact absurd (loopN_zero hf) id
  | succ n ih =>
    intro v4 I hf
    rcases loopN_succ hf with ⟨s, hb, hl⟩ | hb
    · obtain ⟨v4', I'⟩ := s
      refine k_X11_turned_b33 hO  hb (fun _ _ he => ?_) (fun _ he => by cases he)
      cases he
      exact ih v4' I' hl
    · exact k_X11_turned_b33 hO  hb (fun _ _ he => by cases he) (fun x0 he => hX x0 (Sum.inr.inj he))
def f_X11_turned_b18 (N : Nat) (v1 : Int32) (v2 : Int32) (v3 : Int32) (I : MI) : Option ((Int32 × MI) ⊕ (MI)) := (if v3 < v2 then if inb v3 12 then letv (upI I 128 (Int32.toNatClampNeg v3) 0) fun I7 => bnd1 (f_X11_turned_l33 N v1 v2 v3 0 I7) fun I17 => some (.inl (v3 + 1, I17)) else none else some (.inr I))
set_option maxRecDepth 100000 in
set_option maxHeartbeats 4000000 in
theorem k_X11_turned_b18 {G : GX} {Q : State → Prop} {X : MX} (hO : shX11 X) {v1 : Int32} {v2 : Int32}  {v3 : Int32} {N : Nat} {I : MI} {L : ML} {out : (Int32 × MI) ⊕ (MI)} (hf : f_X11_turned_b18 N v1 v2 v3 I = some out) (hC : ∀ (v3' : Int32) (I' : MI), out = .inl (v3', I') → Ex G mX11_turned rmX11_turned Q (0, 0) X I' L 18 [(0, .ref (gB G + 99)), (1, .int v1), (2, .int v2), (3, .int v3')] []) (hX : ∀ (I' : MI), out = .inr I' → Ex G mX11_turned rmX11_turned Q (0, 0) X I' L 79 [(0, .ref (gB G + 99)), (1, .int v1), (2, .int v2)] []) : Ex G mX11_turned rmX11_turned Q (0, 0) X I L 18 [(0, .ref (gB G + 99)), (1, .int v1), (2, .int v2), (3, .int v3)] [] := by
  unfold f_X11_turned_b18 at hf
  refine ex_iload_n 3 (pc' := 19) dX11_turned_18 rfl rfl rfl ?_
  refine ex_iload_n 2 (pc' := 20) dX11_turned_19 rfl rfl rfl ?_
  refine ex_icmpge (tgt := 79) (pc' := 23) dX11_turned_20 (by decide) rfl (fun hc5 => ?_) (fun hc5 => ?_)
  · replace hf := if_t hc5 hf
    refine ex_aload_n 0 (pc' := 24) dX11_turned_23 rfl rfl rfl ?_
    refine ex_getR (pc' := 27) dX11_turned_24 fl_X11_97 rfl (sh11_k hO) (sh11_F34 hO) rfl ?_
    refine ex_iload_n 3 (pc' := 28) dX11_turned_27 rfl rfl rfl ?_
    refine ex_iconst (v := 0) (pc' := 29) dX11_turned_28 ic_0 rfl ?_
    obtain ⟨hg6, hf⟩ := of_guard hf
    refine ex_iast (pc' := 30) dX11_turned_29 (sh11_T34 hO) (inb_in hg6) rfl ?_
    obtain ⟨I7, hI7, hf⟩ := of_let hf
    rw [← hI7]
    refine ex_iconst (v := 0) (pc' := 31) dX11_turned_30 ic_0 rfl ?_
    refine ex_istore (lv' := [(4, .int 0), (0, .ref (gB G + 99)), (1, .int v1), (2, .int v2), (3, .int v3)]) (pc' := 33) dX11_turned_31 (Nat.le_of_ble_eq_true rfl) rfl rfl ?_
    refine ex_sub (lv' := [(0, .ref (gB G + 99)), (1, .int v1), (2, .int v2), (3, .int v3), (4, .int 0)]) [1, 2, 3, 4, 0] rfl ?_
    obtain ⟨I17, hq18, hf⟩ := of_bnd1 hf
    refine k_X11_turned_l33 hO (fun I17' he => ?_) _ _ _ hq18
    cases he
    refine ex_iincc (lv' := [(3, .int (v3 + 1)), (0, .ref (gB G + 99)), (1, .int v1), (2, .int v2)]) 3 (pc' := 76) dX11_turned_73 rfl ic_1 (Nat.le_of_ble_eq_true rfl) rfl rfl ?_
    refine ex_goto (tgt := 18) dX11_turned_76 (by decide) ?_
    exact ex_sub [1, 2, 3, 0] rfl (hC _ _ (Option.some.inj hf).symm)
  · replace hf := if_f hc5 hf
    exact ex_sub [0, 1, 2] rfl (hX _ (Option.some.inj hf).symm)
def f_X11_turned_l18 (N : Nat) (v1 : Int32) (v2 : Int32) (v3 : Int32) (I : MI) : Option (MI) := loopN (fun s => f_X11_turned_b18 N v1 v2 s.1 s.2) N (v3, I)
set_option maxRecDepth 100000 in
set_option maxHeartbeats 4000000 in
theorem k_X11_turned_l18 {G : GX} {Q : State → Prop} {X : MX} (hO : shX11 X) {v1 : Int32} {v2 : Int32}  {N0 : Nat} {L : ML} {out : (MI)} (hX : ∀ (I' : MI), out = I' → Ex G mX11_turned rmX11_turned Q (0, 0) X I' L 79 [(0, .ref (gB G + 99)), (1, .int v1), (2, .int v2)] []) : ∀ (N : Nat) (v3 : Int32) (I : MI), loopN (fun s => f_X11_turned_b18 N0 v1 v2 s.1 s.2) N (v3, I) = some out → Ex G mX11_turned rmX11_turned Q (0, 0) X I L 18 [(0, .ref (gB G + 99)), (1, .int v1), (2, .int v2), (3, .int v3)] [] := by
  intro N
  induction N with
  | zero => intro v3 I hf; exact absurd (loopN_zero hf) id
  | succ n ih =>
    intro v3 I hf
    rcases loopN_succ hf with ⟨s, hb, hl⟩ | hb
    · obtain ⟨v3', I'⟩ := s
      refine k_X11_turned_b18 hO  hb (fun _ _ he => ?_) (fun _ he => by cases he)
      cases he
      exact ih v3' I' hl
    · exact k_X11_turned_b18 hO  hb (fun _ _ he => by cases he) (fun x0 he => hX x0 (Sum.inr.inj he))
def f_X11_turned_b81 (N : Nat) (v1 : Int32) (v2 : Int32) (v3 : Int32) (I : MI) : Option ((Int32 × MI) ⊕ (MI)) := (if v3 < v2 then if inb v3 12 then if inb ((6 * v1) + v3) 36 then letv (upI I 104 (Int32.toNatClampNeg ((6 * v1) + v3)) (I 128 (Int32.toNatClampNeg v3))) fun I24 => some (.inl (v3 + 1, I24)) else none else none else some (.inr I))
set_option maxRecDepth 100000 in
set_option maxHeartbeats 4000000 in
theorem k_X11_turned_b81 {G : GX} {Q : State → Prop} {X : MX} (hO : shX11 X) {v1 : Int32} {v2 : Int32}  {v3 : Int32} {N : Nat} {I : MI} {L : ML} {out : (Int32 × MI) ⊕ (MI)} (hf : f_X11_turned_b81 N v1 v2 v3 I = some out) (hC : ∀ (v3' : Int32) (I' : MI), out = .inl (v3', I') → Ex G mX11_turned rmX11_turned Q (0, 0) X I' L 81 [(0, .ref (gB G + 99)), (1, .int v1), (2, .int v2), (3, .int v3')] []) (hX : ∀ (I' : MI), out = .inr I' → Ex G mX11_turned rmX11_turned Q (0, 0) X I' L 109 [(0, .ref (gB G + 99)), (1, .int v1)] []) : Ex G mX11_turned rmX11_turned Q (0, 0) X I L 81 [(0, .ref (gB G + 99)), (1, .int v1), (2, .int v2), (3, .int v3)] [] := by
  unfold f_X11_turned_b81 at hf
  refine ex_iload_n 3 (pc' := 82) dX11_turned_81 rfl rfl rfl ?_
  refine ex_iload_n 2 (pc' := 83) dX11_turned_82 rfl rfl rfl ?_
  refine ex_icmpge (tgt := 109) (pc' := 86) dX11_turned_83 (by decide) rfl (fun hc21 => ?_) (fun hc21 => ?_)
  · replace hf := if_t hc21 hf
    refine ex_aload_n 0 (pc' := 87) dX11_turned_86 rfl rfl rfl ?_
    refine ex_getR (pc' := 90) dX11_turned_87 fl_X11_25 rfl (sh11_k hO) (sh11_F4 hO) rfl ?_
    refine ex_bipush (v := 6) (pc' := 92) dX11_turned_90 bp_6 rfl ?_
    refine ex_iload_n 1 (pc' := 93) dX11_turned_92 rfl rfl rfl ?_
    refine ex_imul (pc' := 94) dX11_turned_93 rfl ?_
    refine ex_iload_n 3 (pc' := 95) dX11_turned_94 rfl rfl rfl ?_
    refine ex_iadd (pc' := 96) dX11_turned_95 rfl ?_
    refine ex_aload_n 0 (pc' := 97) dX11_turned_96 rfl rfl rfl ?_
    refine ex_getR (pc' := 100) dX11_turned_97 fl_X11_97 rfl (sh11_k hO) (sh11_F34 hO) rfl ?_
    refine ex_iload_n 3 (pc' := 101) dX11_turned_100 rfl rfl rfl ?_
    obtain ⟨hg22, hf⟩ := of_guard hf
    refine ex_iald (pc' := 102) dX11_turned_101 (sh11_T34 hO) (inb_in hg22) rfl ?_
    obtain ⟨hg23, hf⟩ := of_guard hf
    refine ex_iast (pc' := 103) dX11_turned_102 (sh11_T4 hO) (inb_in hg23) rfl ?_
    obtain ⟨I24, hI24, hf⟩ := of_let hf
    rw [← hI24]
    refine ex_iincc (lv' := [(3, .int (v3 + 1)), (0, .ref (gB G + 99)), (1, .int v1), (2, .int v2)]) 3 (pc' := 106) dX11_turned_103 rfl ic_1 (Nat.le_of_ble_eq_true rfl) rfl rfl ?_
    refine ex_goto (tgt := 81) dX11_turned_106 (by decide) ?_
    exact ex_sub [1, 2, 3, 0] rfl (hC _ _ (Option.some.inj hf).symm)
  · replace hf := if_f hc21 hf
    exact ex_sub [0, 1] rfl (hX _ (Option.some.inj hf).symm)
def f_X11_turned_l81 (N : Nat) (v1 : Int32) (v2 : Int32) (v3 : Int32) (I : MI) : Option (MI) := loopN (fun s => f_X11_turned_b81 N v1 v2 s.1 s.2) N (v3, I)
set_option maxRecDepth 100000 in
set_option maxHeartbeats 4000000 in
theorem k_X11_turned_l81 {G : GX} {Q : State → Prop} {X : MX} (hO : shX11 X) {v1 : Int32} {v2 : Int32}  {N0 : Nat} {L : ML} {out : (MI)} (hX : ∀ (I' : MI), out = I' → Ex G mX11_turned rmX11_turned Q (0, 0) X I' L 109 [(0, .ref (gB G + 99)), (1, .int v1)] []) : ∀ (N : Nat) (v3 : Int32) (I : MI), loopN (fun s => f_X11_turned_b81 N0 v1 v2 s.1 s.2) N (v3, I) = some out → Ex G mX11_turned rmX11_turned Q (0, 0) X I L 81 [(0, .ref (gB G + 99)), (1, .int v1), (2, .int v2), (3, .int v3)] [] := by
  intro N
  induction N with
  | zero => intro v3 I hf; exact absurd (loopN_zero hf) id
  | succ n ih =>
    intro v3 I hf
    rcases loopN_succ hf with ⟨s, hb, hl⟩ | hb
    · obtain ⟨v3', I'⟩ := s
      refine k_X11_turned_b81 hO  hb (fun _ _ he => ?_) (fun _ he => by cases he)
      cases he
      exact ih v3' I' hl
    · exact k_X11_turned_b81 hO  hb (fun _ _ he => by cases he) (fun x0 he => hX x0 (Sum.inr.inj he))
def f_X11_turned (N : Nat) (v1 : Int32) (I : MI) : Option (Int32 × MI) := bnd1 (f_X11_isSix v1) fun r1 => (if r1 = 0 then some ((-1), I) else if inb v1 6 then bnd1 (f_X11_turned_l18 N v1 (I 103 (Int32.toNatClampNeg v1)) 0 I) fun I19 => bnd1 (f_X11_turned_l81 N v1 (I 103 (Int32.toNatClampNeg v1)) 0 I19) fun I25 => letv (upI I25 99 9 0) fun I27 => bnd1 (f_X11_cells N v1 I27) fun r28 => some (r28, I27) else none)
set_option maxRecDepth 100000 in
set_option maxHeartbeats 4000000 in
theorem kb_X11_turned {G : GX} {Q : State → Prop} {X : MX} (hO : shX11 X) {v1 : Int32}  {N : Nat} {I : MI} {L : ML} {out : Int32 × MI} (hf : f_X11_turned N v1 I = some out) (hR : ∀ (z : Int32) (I' : MI), out = (z, I') → Q = RetQ G (some (.int z)) X I' L (0, 0)) : Ex G mX11_turned rmX11_turned Q (0, 0) X I L 0 [(0, .ref (gB G + 99)), (1, .int v1)] [] := by
  unfold f_X11_turned at hf
  refine ex_iload_n 1 (pc' := 1) dX11_turned_0 rfl rfl rfl ?_
  obtain ⟨r1, hq2, hf⟩ := of_bnd1 hf
  refine ex_callS_i (rm' := rmX11_isSix) (st := []) (pc' := 4) [.int v1] dX11_turned_1 cl_X11_133 (k_X11_isSix G hq2) rfl rfl rfl (ROOM_of rfl) (Nat.le_of_ble_eq_true rfl) rfl rfl ?_
  refine ex_ifne (tgt := 9) (pc' := 7) dX11_turned_4 (by decide) rfl (fun hc3 => ?_) (fun hc3 => ?_)
  · replace hf := if_t hc3 hf
    refine ex_iconst (v := (-1)) (pc' := 8) dX11_turned_7 ic_m1 rfl ?_
    exact ex_iret dX11_turned_8 rfl (hR _ _ (Option.some.inj hf).symm)
  · replace hf := if_f hc3 hf
    refine ex_aload_n 0 (pc' := 10) dX11_turned_9 rfl rfl rfl ?_
    refine ex_getR (pc' := 13) dX11_turned_10 fl_X11_22 rfl (sh11_k hO) (sh11_F3 hO) rfl ?_
    refine ex_iload_n 1 (pc' := 14) dX11_turned_13 rfl rfl rfl ?_
    obtain ⟨hg4, hf⟩ := of_guard hf
    refine ex_iald (pc' := 15) dX11_turned_14 (sh11_T3 hO) (inb_in hg4) rfl ?_
    refine ex_istore_n (lv' := [(2, .int (I 103 (Int32.toNatClampNeg v1))), (0, .ref (gB G + 99)), (1, .int v1)]) (pc' := 16) dX11_turned_15 rfl (Nat.le_of_ble_eq_true rfl) rfl rfl ?_
    refine ex_iconst (v := 0) (pc' := 17) dX11_turned_16 ic_0 rfl ?_
    refine ex_istore_n (lv' := [(3, .int 0), (2, .int (I 103 (Int32.toNatClampNeg v1))), (0, .ref (gB G + 99)), (1, .int v1)]) (pc' := 18) dX11_turned_17 rfl (Nat.le_of_ble_eq_true rfl) rfl rfl ?_
    refine ex_sub (lv' := [(0, .ref (gB G + 99)), (1, .int v1), (2, .int (I 103 (Int32.toNatClampNeg v1))), (3, .int 0)]) [2, 3, 1, 0] rfl ?_
    obtain ⟨I19, hq20, hf⟩ := of_bnd1 hf
    refine k_X11_turned_l18 hO (fun I19' he => ?_) _ _ _ hq20
    cases he
    refine ex_iconst (v := 0) (pc' := 80) dX11_turned_79 ic_0 rfl ?_
    refine ex_istore_n (lv' := [(3, .int 0), (0, .ref (gB G + 99)), (1, .int v1), (2, .int (I 103 (Int32.toNatClampNeg v1)))]) (pc' := 81) dX11_turned_80 rfl (Nat.le_of_ble_eq_true rfl) rfl rfl ?_
    refine ex_sub (lv' := [(0, .ref (gB G + 99)), (1, .int v1), (2, .int (I 103 (Int32.toNatClampNeg v1))), (3, .int 0)]) [1, 2, 3, 0] rfl ?_
    obtain ⟨I25, hq26, hf⟩ := of_bnd1 hf
    refine k_X11_turned_l81 hO (fun I25' he => ?_) _ _ _ hq26
    cases he
    refine ex_aload_n 0 (pc' := 110) dX11_turned_109 rfl rfl rfl ?_
    refine ex_iconst (v := 0) (pc' := 111) dX11_turned_110 ic_0 rfl ?_
    refine ex_putI (pc' := 114) dX11_turned_111 fl_X11_175 rfl (sh11_k hO) rfl ?_
    obtain ⟨I27, hI27, hf⟩ := of_let hf
    rw [← hI27]
    refine ex_aload_n 0 (pc' := 115) dX11_turned_114 rfl rfl rfl ?_
    refine ex_iload_n 1 (pc' := 116) dX11_turned_115 rfl rfl rfl ?_
    obtain ⟨r28, hq29, hf⟩ := of_bnd1 hf
    refine ex_callV_i (rm' := rmX11_cells) (st := []) (pc' := 119) [.int v1] dX11_turned_116 cl_X11_186 (k_X11_cells G hO hq29) rfl (sh11_k hO) ⟨_, _, rfl⟩ rfl rfl (ROOM_of rfl) (Nat.le_of_ble_eq_true rfl) rfl rfl ?_
    exact ex_iret dX11_turned_119 rfl (hR _ _ (Option.some.inj hf).symm)
set_option maxRecDepth 100000 in
set_option maxHeartbeats 4000000 in
theorem k_X11_turned (G : GX) {X : MX} (hO : shX11 X) {v1 : Int32}  {N : Nat} {I : MI} {L : ML} {z : Int32} {I' : MI} (hf : f_X11_turned N v1 I = some (z, I')) : Con G mX11_turned yX11_turned rmX11_turned (fun B => [.ref (B + 99), .int v1]) X I L (some (.int z)) X I' L :=
  Con.of (by decide) rfl (fun h => by cases h) (fun B => Nat.le_of_ble_eq_true rfl) (fun G => kb_X11_turned hO  hf (fun _ _ he => by cases he; rfl))
-- X11_undo ('RookWordsModel', 'undo', '()I')
def rmX11_undo : RM := ((0, 0, 0, 0), false, (some FieldType.int))
def f_X11_undo  (I : MI) : Option (Int32 × MI) := (if (I 99 9) = 0 then some ((-3), I) else letv (upI I 99 9 ((I 99 9) - 1)) fun I2 => if inb (I2 99 9) 10 then (if (I2 108 (Int32.toNatClampNeg (I2 99 9))) < 0 then if inb (I2 99 9) 10 then if inb (I2 99 9) 10 then if inb (I2 109 (Int32.toNatClampNeg (I2 99 9))) 36 then letv (upI I2 105 (Int32.toNatClampNeg (I2 109 (Int32.toNatClampNeg (I2 99 9)))) (I2 110 (Int32.toNatClampNeg (I2 99 9)))) fun I8 => some (I8 99 9, I8) else none else none else none else if inb (I2 99 9) 10 then if inb (I2 99 9) 10 then if inb (I2 99 9) 10 then if inb ((6 * (I2 108 (Int32.toNatClampNeg (I2 99 9)))) + (I2 109 (Int32.toNatClampNeg (I2 99 9)))) 36 then letv (upI I2 104 (Int32.toNatClampNeg ((6 * (I2 108 (Int32.toNatClampNeg (I2 99 9)))) + (I2 109 (Int32.toNatClampNeg (I2 99 9))))) (I2 110 (Int32.toNatClampNeg (I2 99 9)))) fun I13 => some (I13 99 9, I13) else none else none else none else none) else none)
set_option maxRecDepth 100000 in
set_option maxHeartbeats 4000000 in
theorem kb_X11_undo {G : GX} {Q : State → Prop} {X : MX} (hO : shX11 X)   {I : MI} {L : ML} {out : Int32 × MI} (hf : f_X11_undo I = some out) (hR : ∀ (z : Int32) (I' : MI), out = (z, I') → Q = RetQ G (some (.int z)) X I' L (0, 0)) : Ex G mX11_undo rmX11_undo Q (0, 0) X I L 0 [(0, .ref (gB G + 99))] [] := by
  unfold f_X11_undo at hf
  refine ex_aload_n 0 (pc' := 1) dX11_undo_0 rfl rfl rfl ?_
  refine ex_getI (pc' := 4) dX11_undo_1 fl_X11_175 rfl (sh11_k hO) rfl ?_
  refine ex_ifne (tgt := 10) (pc' := 7) dX11_undo_4 (by decide) rfl (fun hc1 => ?_) (fun hc1 => ?_)
  · replace hf := if_t hc1 hf
    refine ex_bipush (v := (-3)) (pc' := 9) dX11_undo_7 bp_m3 rfl ?_
    exact ex_iret dX11_undo_9 rfl (hR _ _ (Option.some.inj hf).symm)
  · replace hf := if_f hc1 hf
    refine ex_aload_n 0 (pc' := 11) dX11_undo_10 rfl rfl rfl ?_
    refine ex_dup (pc' := 12) dX11_undo_11 rfl rfl ?_
    refine ex_getI (pc' := 15) dX11_undo_12 fl_X11_175 rfl (sh11_k hO) rfl ?_
    refine ex_iconst (v := 1) (pc' := 16) dX11_undo_15 ic_1 rfl ?_
    refine ex_isub (pc' := 17) dX11_undo_16 rfl ?_
    refine ex_putI (pc' := 20) dX11_undo_17 fl_X11_175 rfl (sh11_k hO) rfl ?_
    obtain ⟨I2, hI2, hf⟩ := of_let hf
    rw [← hI2]
    refine ex_aload_n 0 (pc' := 21) dX11_undo_20 rfl rfl rfl ?_
    refine ex_getR (pc' := 24) dX11_undo_21 fl_X11_37 rfl (sh11_k hO) (sh11_F10 hO) rfl ?_
    refine ex_aload_n 0 (pc' := 25) dX11_undo_24 rfl rfl rfl ?_
    refine ex_getI (pc' := 28) dX11_undo_25 fl_X11_175 rfl (sh11_k hO) rfl ?_
    obtain ⟨hg3, hf⟩ := of_guard hf
    refine ex_iald (pc' := 29) dX11_undo_28 (sh11_T10 hO) (inb_in hg3) rfl ?_
    refine ex_ifge (tgt := 58) (pc' := 32) dX11_undo_29 (by decide) rfl (fun hc4 => ?_) (fun hc4 => ?_)
    · replace hf := if_t hc4 hf
      refine ex_aload_n 0 (pc' := 33) dX11_undo_32 rfl rfl rfl ?_
      refine ex_getR (pc' := 36) dX11_undo_33 fl_X11_28 rfl (sh11_k hO) (sh11_F5 hO) rfl ?_
      refine ex_aload_n 0 (pc' := 37) dX11_undo_36 rfl rfl rfl ?_
      refine ex_getR (pc' := 40) dX11_undo_37 fl_X11_40 rfl (sh11_k hO) (sh11_F11 hO) rfl ?_
      refine ex_aload_n 0 (pc' := 41) dX11_undo_40 rfl rfl rfl ?_
      refine ex_getI (pc' := 44) dX11_undo_41 fl_X11_175 rfl (sh11_k hO) rfl ?_
      obtain ⟨hg5, hf⟩ := of_guard hf
      refine ex_iald (pc' := 45) dX11_undo_44 (sh11_T11 hO) (inb_in hg5) rfl ?_
      refine ex_aload_n 0 (pc' := 46) dX11_undo_45 rfl rfl rfl ?_
      refine ex_getR (pc' := 49) dX11_undo_46 fl_X11_43 rfl (sh11_k hO) (sh11_F12 hO) rfl ?_
      refine ex_aload_n 0 (pc' := 50) dX11_undo_49 rfl rfl rfl ?_
      refine ex_getI (pc' := 53) dX11_undo_50 fl_X11_175 rfl (sh11_k hO) rfl ?_
      obtain ⟨hg6, hf⟩ := of_guard hf
      refine ex_iald (pc' := 54) dX11_undo_53 (sh11_T12 hO) (inb_in hg6) rfl ?_
      obtain ⟨hg7, hf⟩ := of_guard hf
      refine ex_iast (pc' := 55) dX11_undo_54 (sh11_T5 hO) (inb_in hg7) rfl ?_
      obtain ⟨I8, hI8, hf⟩ := of_let hf
      rw [← hI8]
      refine ex_goto (tgt := 94) dX11_undo_55 (by decide) ?_
      refine ex_aload_n 0 (pc' := 95) dX11_undo_94 rfl rfl rfl ?_
      refine ex_getI (pc' := 98) dX11_undo_95 fl_X11_175 rfl (sh11_k hO) rfl ?_
      exact ex_iret dX11_undo_98 rfl (hR _ _ (Option.some.inj hf).symm)
    · replace hf := if_f hc4 hf
      refine ex_aload_n 0 (pc' := 59) dX11_undo_58 rfl rfl rfl ?_
      refine ex_getR (pc' := 62) dX11_undo_59 fl_X11_25 rfl (sh11_k hO) (sh11_F4 hO) rfl ?_
      refine ex_bipush (v := 6) (pc' := 64) dX11_undo_62 bp_6 rfl ?_
      refine ex_aload_n 0 (pc' := 65) dX11_undo_64 rfl rfl rfl ?_
      refine ex_getR (pc' := 68) dX11_undo_65 fl_X11_37 rfl (sh11_k hO) (sh11_F10 hO) rfl ?_
      refine ex_aload_n 0 (pc' := 69) dX11_undo_68 rfl rfl rfl ?_
      refine ex_getI (pc' := 72) dX11_undo_69 fl_X11_175 rfl (sh11_k hO) rfl ?_
      obtain ⟨hg9, hf⟩ := of_guard hf
      refine ex_iald (pc' := 73) dX11_undo_72 (sh11_T10 hO) (inb_in hg9) rfl ?_
      refine ex_imul (pc' := 74) dX11_undo_73 rfl ?_
      refine ex_aload_n 0 (pc' := 75) dX11_undo_74 rfl rfl rfl ?_
      refine ex_getR (pc' := 78) dX11_undo_75 fl_X11_40 rfl (sh11_k hO) (sh11_F11 hO) rfl ?_
      refine ex_aload_n 0 (pc' := 79) dX11_undo_78 rfl rfl rfl ?_
      refine ex_getI (pc' := 82) dX11_undo_79 fl_X11_175 rfl (sh11_k hO) rfl ?_
      obtain ⟨hg10, hf⟩ := of_guard hf
      refine ex_iald (pc' := 83) dX11_undo_82 (sh11_T11 hO) (inb_in hg10) rfl ?_
      refine ex_iadd (pc' := 84) dX11_undo_83 rfl ?_
      refine ex_aload_n 0 (pc' := 85) dX11_undo_84 rfl rfl rfl ?_
      refine ex_getR (pc' := 88) dX11_undo_85 fl_X11_43 rfl (sh11_k hO) (sh11_F12 hO) rfl ?_
      refine ex_aload_n 0 (pc' := 89) dX11_undo_88 rfl rfl rfl ?_
      refine ex_getI (pc' := 92) dX11_undo_89 fl_X11_175 rfl (sh11_k hO) rfl ?_
      obtain ⟨hg11, hf⟩ := of_guard hf
      refine ex_iald (pc' := 93) dX11_undo_92 (sh11_T12 hO) (inb_in hg11) rfl ?_
      obtain ⟨hg12, hf⟩ := of_guard hf
      refine ex_iast (pc' := 94) dX11_undo_93 (sh11_T4 hO) (inb_in hg12) rfl ?_
      obtain ⟨I13, hI13, hf⟩ := of_let hf
      rw [← hI13]
      refine ex_aload_n 0 (pc' := 95) dX11_undo_94 rfl rfl rfl ?_
      refine ex_getI (pc' := 98) dX11_undo_95 fl_X11_175 rfl (sh11_k hO) rfl ?_
      exact ex_iret dX11_undo_98 rfl (hR _ _ (Option.some.inj hf).symm)
set_option maxRecDepth 100000 in
set_option maxHeartbeats 4000000 in
theorem k_X11_undo (G : GX) {X : MX} (hO : shX11 X)   {I : MI} {L : ML} {z : Int32} {I' : MI} (hf : f_X11_undo I = some (z, I')) : Con G mX11_undo yX11_undo rmX11_undo (fun B => [.ref (B + 99)]) X I L (some (.int z)) X I' L :=
  Con.of (by decide) rfl (fun h => by cases h) (fun B => Nat.le_of_ble_eq_true rfl) (fun G => kb_X11_undo hO  hf (fun _ _ he => by cases he; rfl))
theorem co_X11_239 : Cond.constantLong RX11 239 (9) ∈ lwg := lwg_at 1309 (by decide +kernel) rfl
-- X11_weight ('RookWordsModel', 'weight', '(III)I')
def rmX11_weight : RM := ((2, 45, 0, 0), false, (some FieldType.int))
def f_X11_weight (N : Nat) (v1 : Int32) (v2 : Int32) (v3 : Int32) (I : MI) : Option (Int32 × MI) := bnd1 (f_X11_isSix v1) fun r1 => (if r1 = 0 then some ((-1), I) else bnd1 (f_X11_isSix v2) fun r4 => (if r4 = 0 then some ((-1), I) else bnd1 (f_X11_in (Int32.toInt64 v3) 0 9) fun r7 => (if r7 = 0 then some ((-2), I) else if inb ((6 * v1) + v2) 36 then letv (I 105 (Int32.toNatClampNeg ((6 * v1) + v2))) fun x11 => (if x11 = v3 then some (x11, I) else bnd1 (f_X11_keep N (-1) ((6 * v1) + v2) x11 I) fun I13 => if inb ((6 * v1) + v2) 36 then letv (upI I13 105 (Int32.toNatClampNeg ((6 * v1) + v2)) v3) fun I16 => some (x11, I16) else none) else none)))
set_option maxRecDepth 100000 in
set_option maxHeartbeats 4000000 in
theorem kb_X11_weight {G : GX} {Q : State → Prop} {X : MX} (hO : shX11 X) {v1 : Int32} {v2 : Int32} {v3 : Int32}  {N : Nat} {I : MI} {L : ML} {out : Int32 × MI} (hf : f_X11_weight N v1 v2 v3 I = some out) (hR : ∀ (z : Int32) (I' : MI), out = (z, I') → Q = RetQ G (some (.int z)) X I' L (0, 0)) : Ex G mX11_weight rmX11_weight Q (0, 0) X I L 0 [(0, .ref (gB G + 99)), (1, .int v1), (2, .int v2), (3, .int v3)] [] := by
  unfold f_X11_weight at hf
  refine ex_iload_n 1 (pc' := 1) dX11_weight_0 rfl rfl rfl ?_
  obtain ⟨r1, hq2, hf⟩ := of_bnd1 hf
  refine ex_callS_i (rm' := rmX11_isSix) (st := []) (pc' := 4) [.int v1] dX11_weight_1 cl_X11_133 (k_X11_isSix G hq2) rfl rfl rfl (ROOM_of rfl) (Nat.le_of_ble_eq_true rfl) rfl rfl ?_
  refine ex_ifeq (tgt := 14) (pc' := 7) dX11_weight_4 (by decide) rfl (fun hc3 => ?_) (fun hc3 => ?_)
  · replace hf := if_t hc3 hf
    refine ex_iconst (v := (-1)) (pc' := 15) dX11_weight_14 ic_m1 rfl ?_
    exact ex_iret dX11_weight_15 rfl (hR _ _ (Option.some.inj hf).symm)
  · replace hf := if_f hc3 hf
    refine ex_iload_n 2 (pc' := 8) dX11_weight_7 rfl rfl rfl ?_
    obtain ⟨r4, hq5, hf⟩ := of_bnd1 hf
    refine ex_callS_i (rm' := rmX11_isSix) (st := []) (pc' := 11) [.int v2] dX11_weight_8 cl_X11_133 (k_X11_isSix G hq5) rfl rfl rfl (ROOM_of rfl) (Nat.le_of_ble_eq_true rfl) rfl rfl ?_
    refine ex_ifne (tgt := 16) (pc' := 14) dX11_weight_11 (by decide) rfl (fun hc6 => ?_) (fun hc6 => ?_)
    · replace hf := if_t hc6 hf
      refine ex_iconst (v := (-1)) (pc' := 15) dX11_weight_14 ic_m1 rfl ?_
      exact ex_iret dX11_weight_15 rfl (hR _ _ (Option.some.inj hf).symm)
    · replace hf := if_f hc6 hf
      refine ex_iload_n 3 (pc' := 17) dX11_weight_16 rfl rfl rfl ?_
      refine ex_i2l (pc' := 18) dX11_weight_17 rfl ?_
      refine ex_lconst (v := 0) (pc' := 19) dX11_weight_18 lc_0 rfl ?_
      refine ex_ldc2 (v := 9) (pc' := 22) dX11_weight_19 co_X11_239 rfl ?_
      obtain ⟨r7, hq8, hf⟩ := of_bnd1 hf
      refine ex_callS_i (rm' := rmX11_in) (st := []) (pc' := 25) [.long (Int32.toInt64 v3), .long 0, .long 9] dX11_weight_22 cl_X11_129 (k_X11_in G hq8) rfl rfl rfl (ROOM_of rfl) (Nat.le_of_ble_eq_true rfl) rfl rfl ?_
      refine ex_ifne (tgt := 31) (pc' := 28) dX11_weight_25 (by decide) rfl (fun hc9 => ?_) (fun hc9 => ?_)
      · replace hf := if_t hc9 hf
        refine ex_bipush (v := (-2)) (pc' := 30) dX11_weight_28 bp_m2 rfl ?_
        exact ex_iret dX11_weight_30 rfl (hR _ _ (Option.some.inj hf).symm)
      · replace hf := if_f hc9 hf
        refine ex_aload_n 0 (pc' := 32) dX11_weight_31 rfl rfl rfl ?_
        refine ex_getR (pc' := 35) dX11_weight_32 fl_X11_28 rfl (sh11_k hO) (sh11_F5 hO) rfl ?_
        refine ex_bipush (v := 6) (pc' := 37) dX11_weight_35 bp_6 rfl ?_
        refine ex_iload_n 1 (pc' := 38) dX11_weight_37 rfl rfl rfl ?_
        refine ex_imul (pc' := 39) dX11_weight_38 rfl ?_
        refine ex_iload_n 2 (pc' := 40) dX11_weight_39 rfl rfl rfl ?_
        refine ex_iadd (pc' := 41) dX11_weight_40 rfl ?_
        obtain ⟨hg10, hf⟩ := of_guard hf
        refine ex_iald (pc' := 42) dX11_weight_41 (sh11_T5 hO) (inb_in hg10) rfl ?_
        obtain ⟨x11, hx11, hf⟩ := of_let hf
        rw [← hx11]
        refine ex_istore (lv' := [(4, .int x11), (0, .ref (gB G + 99)), (1, .int v1), (2, .int v2), (3, .int v3)]) (pc' := 44) dX11_weight_42 (Nat.le_of_ble_eq_true rfl) rfl rfl ?_
        refine ex_iload 0 (pc' := 46) dX11_weight_44 rfl rfl ?_
        refine ex_iload_n 4 (pc' := 47) dX11_weight_46 rfl rfl rfl ?_
        refine ex_icmpeq (tgt := 75) (pc' := 50) dX11_weight_47 (by decide) rfl (fun hc12 => ?_) (fun hc12 => ?_)
        · replace hf := if_t hc12 hf
          refine ex_iload 0 (pc' := 77) dX11_weight_75 rfl rfl ?_
          exact ex_iret dX11_weight_77 rfl (hR _ _ (Option.some.inj hf).symm)
        · replace hf := if_f hc12 hf
          refine ex_aload_n 1 (pc' := 51) dX11_weight_50 rfl rfl rfl ?_
          refine ex_iconst (v := (-1)) (pc' := 52) dX11_weight_51 ic_m1 rfl ?_
          refine ex_bipush (v := 6) (pc' := 54) dX11_weight_52 bp_6 rfl ?_
          refine ex_iload_n 2 (pc' := 55) dX11_weight_54 rfl rfl rfl ?_
          refine ex_imul (pc' := 56) dX11_weight_55 rfl ?_
          refine ex_iload_n 3 (pc' := 57) dX11_weight_56 rfl rfl rfl ?_
          refine ex_iadd (pc' := 58) dX11_weight_57 rfl ?_
          refine ex_iload 0 (pc' := 60) dX11_weight_58 rfl rfl ?_
          obtain ⟨I13, hq14, hf⟩ := of_bnd1 hf
          refine ex_callV_v (rm' := rmX11_keep) (st := []) (pc' := 63) [.int (-1), .int ((6 * v1) + v2), .int x11] dX11_weight_60 cl_X11_183 (k_X11_keep G hO hq14) rfl (sh11_k hO) ⟨_, _, rfl⟩ rfl rfl (ROOM_of rfl) (Nat.le_of_ble_eq_true rfl) rfl rfl ?_
          refine ex_aload_n 1 (pc' := 64) dX11_weight_63 rfl rfl rfl ?_
          refine ex_getR (pc' := 67) dX11_weight_64 fl_X11_28 rfl (sh11_k hO) (sh11_F5 hO) rfl ?_
          refine ex_bipush (v := 6) (pc' := 69) dX11_weight_67 bp_6 rfl ?_
          refine ex_iload_n 2 (pc' := 70) dX11_weight_69 rfl rfl rfl ?_
          refine ex_imul (pc' := 71) dX11_weight_70 rfl ?_
          refine ex_iload_n 3 (pc' := 72) dX11_weight_71 rfl rfl rfl ?_
          refine ex_iadd (pc' := 73) dX11_weight_72 rfl ?_
          refine ex_iload_n 4 (pc' := 74) dX11_weight_73 rfl rfl rfl ?_
          obtain ⟨hg15, hf⟩ := of_guard hf
          refine ex_iast (pc' := 75) dX11_weight_74 (sh11_T5 hO) (inb_in hg15) rfl ?_
          obtain ⟨I16, hI16, hf⟩ := of_let hf
          rw [← hI16]
          refine ex_iload 0 (pc' := 77) dX11_weight_75 rfl rfl ?_
          exact ex_iret dX11_weight_77 rfl (hR _ _ (Option.some.inj hf).symm)
set_option maxRecDepth 100000 in
set_option maxHeartbeats 4000000 in
theorem k_X11_weight (G : GX) {X : MX} (hO : shX11 X) {v1 : Int32} {v2 : Int32} {v3 : Int32}  {N : Nat} {I : MI} {L : ML} {z : Int32} {I' : MI} (hf : f_X11_weight N v1 v2 v3 I = some (z, I')) : Con G mX11_weight yX11_weight rmX11_weight (fun B => [.ref (B + 99), .int v1, .int v2, .int v3]) X I L (some (.int z)) X I' L :=
  Con.of (by decide) rfl (fun h => by cases h) (fun B => Nat.le_of_ble_eq_true rfl) (fun G => kb_X11_weight hO  hf (fun _ _ he => by cases he; rfl))
-- X11_word ('RookWordsModel', 'word', '(II)I')
def rmX11_word : RM := ((2, 45, 0, 0), false, (some FieldType.int))
def f_X11_word (N : Nat) (v1 : Int32) (v2 : Int32) (I : MI) : Option (Int32) := bnd1 (f_X11_isSix v1) fun r1 => (if r1 = 0 then some (-1) else (if v2 < (-2) then some (-1) else (if v2 < 0 then (if v2 = (-1) then if inb v1 6 then some (I 100 (Int32.toNatClampNeg v1)) else none else bnd1 (f_X11_lettersU N v1 I) fun r8 => some r8) else if inb v1 6 then (if v2 < (I 100 (Int32.toNatClampNeg v1)) then if inb ((12 * v1) + v2) 72 then some (I 101 (Int32.toNatClampNeg ((12 * v1) + v2))) else none else some (-5)) else none)))
set_option maxRecDepth 100000 in
set_option maxHeartbeats 4000000 in
theorem kb_X11_word {G : GX} {Q : State → Prop} {X : MX} (hO : shX11 X) {v1 : Int32} {v2 : Int32}  {N : Nat} {I : MI} {L : ML} {out : Int32} (hf : f_X11_word N v1 v2 I = some out) (hR : ∀ (z : Int32), out = z → Q = RetQ G (some (.int z)) X I L (0, 0)) : Ex G mX11_word rmX11_word Q (0, 0) X I L 0 [(0, .ref (gB G + 99)), (1, .int v1), (2, .int v2)] [] := by
  unfold f_X11_word at hf
  refine ex_iload_n 1 (pc' := 1) dX11_word_0 rfl rfl rfl ?_
  obtain ⟨r1, hq2, hf⟩ := of_bnd1 hf
  refine ex_callS_i (rm' := rmX11_isSix) (st := []) (pc' := 4) [.int v1] dX11_word_1 cl_X11_133 (k_X11_isSix G hq2) rfl rfl rfl (ROOM_of rfl) (Nat.le_of_ble_eq_true rfl) rfl rfl ?_
  refine ex_ifeq (tgt := 13) (pc' := 7) dX11_word_4 (by decide) rfl (fun hc3 => ?_) (fun hc3 => ?_)
  · replace hf := if_t hc3 hf
    refine ex_iconst (v := (-1)) (pc' := 14) dX11_word_13 ic_m1 rfl ?_
    exact ex_iret dX11_word_14 rfl (hR _ (Option.some.inj hf).symm)
  · replace hf := if_f hc3 hf
    refine ex_iload_n 2 (pc' := 8) dX11_word_7 rfl rfl rfl ?_
    refine ex_bipush (v := (-2)) (pc' := 10) dX11_word_8 bp_m2 rfl ?_
    refine ex_icmpge (tgt := 15) (pc' := 13) dX11_word_10 (by decide) rfl (fun hc4 => ?_) (fun hc4 => ?_)
    · replace hf := if_t hc4 hf
      refine ex_iconst (v := (-1)) (pc' := 14) dX11_word_13 ic_m1 rfl ?_
      exact ex_iret dX11_word_14 rfl (hR _ (Option.some.inj hf).symm)
    · replace hf := if_f hc4 hf
      refine ex_iload_n 2 (pc' := 16) dX11_word_15 rfl rfl rfl ?_
      refine ex_ifge (tgt := 39) (pc' := 19) dX11_word_16 (by decide) rfl (fun hc5 => ?_) (fun hc5 => ?_)
      · replace hf := if_t hc5 hf
        refine ex_iload_n 2 (pc' := 20) dX11_word_19 rfl rfl rfl ?_
        refine ex_iconst (v := (-1)) (pc' := 21) dX11_word_20 ic_m1 rfl ?_
        refine ex_icmpne (tgt := 33) (pc' := 24) dX11_word_21 (by decide) rfl (fun hc6 => ?_) (fun hc6 => ?_)
        · replace hf := if_t hc6 hf
          refine ex_aload_n 0 (pc' := 25) dX11_word_24 rfl rfl rfl ?_
          refine ex_getR (pc' := 28) dX11_word_25 fl_X11_9 rfl (sh11_k hO) (sh11_F0 hO) rfl ?_
          refine ex_iload_n 1 (pc' := 29) dX11_word_28 rfl rfl rfl ?_
          obtain ⟨hg7, hf⟩ := of_guard hf
          refine ex_iald (pc' := 30) dX11_word_29 (sh11_T0 hO) (inb_in hg7) rfl ?_
          refine ex_goto (tgt := 38) dX11_word_30 (by decide) ?_
          exact ex_iret dX11_word_38 rfl (hR _ (Option.some.inj hf).symm)
        · replace hf := if_f hc6 hf
          refine ex_aload_n 0 (pc' := 34) dX11_word_33 rfl rfl rfl ?_
          refine ex_iload_n 1 (pc' := 35) dX11_word_34 rfl rfl rfl ?_
          obtain ⟨r8, hq9, hf⟩ := of_bnd1 hf
          refine ex_callV_i (rm' := rmX11_lettersU) (st := []) (pc' := 38) [.int v1] dX11_word_35 cl_X11_143 (k_X11_lettersU G hO hq9) rfl (sh11_k hO) ⟨_, _, rfl⟩ rfl rfl (ROOM_of rfl) (Nat.le_of_ble_eq_true rfl) rfl rfl ?_
          exact ex_iret dX11_word_38 rfl (hR _ (Option.some.inj hf).symm)
      · replace hf := if_f hc5 hf
        refine ex_iload_n 2 (pc' := 40) dX11_word_39 rfl rfl rfl ?_
        refine ex_aload_n 0 (pc' := 41) dX11_word_40 rfl rfl rfl ?_
        refine ex_getR (pc' := 44) dX11_word_41 fl_X11_9 rfl (sh11_k hO) (sh11_F0 hO) rfl ?_
        refine ex_iload_n 1 (pc' := 45) dX11_word_44 rfl rfl rfl ?_
        obtain ⟨hg10, hf⟩ := of_guard hf
        refine ex_iald (pc' := 46) dX11_word_45 (sh11_T0 hO) (inb_in hg10) rfl ?_
        refine ex_icmpge (tgt := 63) (pc' := 49) dX11_word_46 (by decide) rfl (fun hc11 => ?_) (fun hc11 => ?_)
        · replace hf := if_t hc11 hf
          refine ex_aload_n 0 (pc' := 50) dX11_word_49 rfl rfl rfl ?_
          refine ex_getR (pc' := 53) dX11_word_50 fl_X11_15 rfl (sh11_k hO) (sh11_F1 hO) rfl ?_
          refine ex_bipush (v := 12) (pc' := 55) dX11_word_53 bp_12 rfl ?_
          refine ex_iload_n 1 (pc' := 56) dX11_word_55 rfl rfl rfl ?_
          refine ex_imul (pc' := 57) dX11_word_56 rfl ?_
          refine ex_iload_n 2 (pc' := 58) dX11_word_57 rfl rfl rfl ?_
          refine ex_iadd (pc' := 59) dX11_word_58 rfl ?_
          obtain ⟨hg12, hf⟩ := of_guard hf
          refine ex_iald (pc' := 60) dX11_word_59 (sh11_T1 hO) (inb_in hg12) rfl ?_
          refine ex_goto (tgt := 65) dX11_word_60 (by decide) ?_
          exact ex_iret dX11_word_65 rfl (hR _ (Option.some.inj hf).symm)
        · replace hf := if_f hc11 hf
          refine ex_bipush (v := (-5)) (pc' := 65) dX11_word_63 bp_m5 rfl ?_
          exact ex_iret dX11_word_65 rfl (hR _ (Option.some.inj hf).symm)
set_option maxRecDepth 100000 in
set_option maxHeartbeats 4000000 in
theorem k_X11_word (G : GX) {X : MX} (hO : shX11 X) {v1 : Int32} {v2 : Int32}  {N : Nat} {I : MI} {L : ML} {z : Int32} (hf : f_X11_word N v1 v2 I = some z) : Con G mX11_word yX11_word rmX11_word (fun B => [.ref (B + 99), .int v1, .int v2]) X I L (some (.int z)) X I L :=
  Con.of (by decide) rfl (fun h => by cases h) (fun B => Nat.le_of_ble_eq_true rfl) (fun G => kb_X11_word hO  hf (fun _ he => by cases he; rfl))
theorem cl_X11_313 : CLV RX11 313 yX11_lay mX11_lay none 1 := ⟨⟨lwg_at 1394 (by decide +kernel) rfl, lwg_at 1396 (by decide +kernel) rfl, lwg_at 47 (by decide +kernel) rfl, lwg_at 61 (by decide +kernel) rfl⟩, lwg_at 1397 (by decide +kernel) rfl, ⟨by decide +kernel, by decide +kernel, by decide +kernel⟩⟩
-- X11_write ('RookWordsModel', 'write', '(I)I')
def rmX11_write : RM := ((2, 45, 0, 0), false, (some FieldType.int))
def f_X11_write_b28 (N : Nat) (v1 : Int32) (v2 : Int32) (v3 : Int32) (I : MI) : Option ((Int32) ⊕ (Int32)) := (if v3 < 9 then if inb v1 6 then (if (v2 + v3) < (I 100 (Int32.toNatClampNeg v1)) then if inb (((12 * v1) + v2) + v3) 72 then if inb ((12 * v1) + v2) 72 then (if (I 101 (Int32.toNatClampNeg (((12 * v1) + v2) + v3))) = (I 101 (Int32.toNatClampNeg ((12 * v1) + v2))) then some (.inl (v3 + 1)) else some (.inr v3)) else none else none else some (.inr v3)) else none else some (.inr v3))
set_option maxRecDepth 100000 in
set_option maxHeartbeats 4000000 in
theorem k_X11_write_b28 {G : GX} {Q : State → Prop} {X : MX} (hO : shX11 X) {v1 : Int32} {v2 : Int32}  {v3 : Int32} {N : Nat} {I : MI} {L : ML} {out : (Int32) ⊕ (Int32)} (hf : f_X11_write_b28 N v1 v2 v3 I = some out) (hC : ∀ (v3' : Int32), out = .inl v3' → Ex G mX11_write rmX11_write Q (0, 0) X I L 28 [(0, .ref (gB G + 99)), (1, .int v1), (2, .int v2), (3, .int v3')] []) (hX : ∀ (w3 : Int32), out = .inr w3 → Ex G mX11_write rmX11_write Q (0, 0) X I L 79 [(0, .ref (gB G + 99)), (1, .int v1), (2, .int v2), (3, .int w3)] []) : Ex G mX11_write rmX11_write Q (0, 0) X I L 28 [(0, .ref (gB G + 99)), (1, .int v1), (2, .int v2), (3, .int v3)] [] := by
  unfold f_X11_write_b28 at hf
  refine ex_iload_n 3 (pc' := 29) dX11_write_28 rfl rfl rfl ?_
  refine ex_bipush (v := 9) (pc' := 31) dX11_write_29 bp_9 rfl ?_
  refine ex_icmpge (tgt := 79) (pc' := 34) dX11_write_31 (by decide) rfl (fun hc7 => ?_) (fun hc7 => ?_)
  · replace hf := if_t hc7 hf
    refine ex_iload_n 2 (pc' := 35) dX11_write_34 rfl rfl rfl ?_
    refine ex_iload_n 3 (pc' := 36) dX11_write_35 rfl rfl rfl ?_
    refine ex_iadd (pc' := 37) dX11_write_36 rfl ?_
    refine ex_aload_n 0 (pc' := 38) dX11_write_37 rfl rfl rfl ?_
    refine ex_getR (pc' := 41) dX11_write_38 fl_X11_9 rfl (sh11_k hO) (sh11_F0 hO) rfl ?_
    refine ex_iload_n 1 (pc' := 42) dX11_write_41 rfl rfl rfl ?_
    obtain ⟨hg8, hf⟩ := of_guard hf
    refine ex_iald (pc' := 43) dX11_write_42 (sh11_T0 hO) (inb_in hg8) rfl ?_
    refine ex_icmpge (tgt := 79) (pc' := 46) dX11_write_43 (by decide) rfl (fun hc9 => ?_) (fun hc9 => ?_)
    · replace hf := if_t hc9 hf
      refine ex_aload_n 0 (pc' := 47) dX11_write_46 rfl rfl rfl ?_
      refine ex_getR (pc' := 50) dX11_write_47 fl_X11_15 rfl (sh11_k hO) (sh11_F1 hO) rfl ?_
      refine ex_bipush (v := 12) (pc' := 52) dX11_write_50 bp_12 rfl ?_
      refine ex_iload_n 1 (pc' := 53) dX11_write_52 rfl rfl rfl ?_
      refine ex_imul (pc' := 54) dX11_write_53 rfl ?_
      refine ex_iload_n 2 (pc' := 55) dX11_write_54 rfl rfl rfl ?_
      refine ex_iadd (pc' := 56) dX11_write_55 rfl ?_
      refine ex_iload_n 3 (pc' := 57) dX11_write_56 rfl rfl rfl ?_
      refine ex_iadd (pc' := 58) dX11_write_57 rfl ?_
      obtain ⟨hg10, hf⟩ := of_guard hf
      refine ex_iald (pc' := 59) dX11_write_58 (sh11_T1 hO) (inb_in hg10) rfl ?_
      refine ex_aload_n 0 (pc' := 60) dX11_write_59 rfl rfl rfl ?_
      refine ex_getR (pc' := 63) dX11_write_60 fl_X11_15 rfl (sh11_k hO) (sh11_F1 hO) rfl ?_
      refine ex_bipush (v := 12) (pc' := 65) dX11_write_63 bp_12 rfl ?_
      refine ex_iload_n 1 (pc' := 66) dX11_write_65 rfl rfl rfl ?_
      refine ex_imul (pc' := 67) dX11_write_66 rfl ?_
      refine ex_iload_n 2 (pc' := 68) dX11_write_67 rfl rfl rfl ?_
      refine ex_iadd (pc' := 69) dX11_write_68 rfl ?_
      obtain ⟨hg11, hf⟩ := of_guard hf
      refine ex_iald (pc' := 70) dX11_write_69 (sh11_T1 hO) (inb_in hg11) rfl ?_
      refine ex_icmpne (tgt := 79) (pc' := 73) dX11_write_70 (by decide) rfl (fun hc12 => ?_) (fun hc12 => ?_)
      · replace hf := if_t hc12 hf
        refine ex_iincc (lv' := [(3, .int (v3 + 1)), (0, .ref (gB G + 99)), (1, .int v1), (2, .int v2)]) 3 (pc' := 76) dX11_write_73 rfl ic_1 (Nat.le_of_ble_eq_true rfl) rfl rfl ?_
        refine ex_goto (tgt := 28) dX11_write_76 (by decide) ?_
        exact ex_sub [1, 2, 3, 0] rfl (hC _ (Option.some.inj hf).symm)
      · replace hf := if_f hc12 hf
        exact ex_sub [0, 1, 2, 3] rfl (hX _ (Option.some.inj hf).symm)
    · replace hf := if_f hc9 hf
      exact ex_sub [0, 1, 2, 3] rfl (hX _ (Option.some.inj hf).symm)
  · replace hf := if_f hc7 hf
    exact ex_sub [0, 1, 2, 3] rfl (hX _ (Option.some.inj hf).symm)
def f_X11_write_l28 (N : Nat) (v1 : Int32) (v2 : Int32) (v3 : Int32) (I : MI) : Option (Int32) := loopN (fun s => f_X11_write_b28 N v1 v2 s I) N v3
set_option maxRecDepth 100000 in
set_option maxHeartbeats 4000000 in
theorem k_X11_write_l28 {G : GX} {Q : State → Prop} {X : MX} (hO : shX11 X) {v1 : Int32} {v2 : Int32}  {N0 : Nat} {I : MI} {L : ML} {out : (Int32)} (hX : ∀ (w3 : Int32), out = w3 → Ex G mX11_write rmX11_write Q (0, 0) X I L 79 [(0, .ref (gB G + 99)), (1, .int v1), (2, .int v2), (3, .int w3)] []) : ∀ (N : Nat) (v3 : Int32), loopN (fun s => f_X11_write_b28 N0 v1 v2 s I) N v3 = some out → Ex G mX11_write rmX11_write Q (0, 0) X I L 28 [(0, .ref (gB G + 99)), (1, .int v1), (2, .int v2), (3, .int v3)] [] := by
  intro N
  induction N with
  | zero => intro v3 hf; exact absurd (loopN_zero hf) id
  | succ n ih =>
    intro v3 hf
    rcases loopN_succ hf with ⟨s, hb, hl⟩ | hb
    · skip
      refine k_X11_write_b28 hO  hb (fun _ he => ?_) (fun _ he => by cases he)
      cases he
      exact ih s hl
    · exact k_X11_write_b28 hO  hb (fun _ he => by cases he) (fun x0 he => hX x0 (Sum.inr.inj he))
def f_X11_write_b16_j101 (N : Nat) (v1 : Int32) (v2 : Int32) (v3 : Int32) (s0 : Int32) (I : MI) : Option ((Int32 × MI) ⊕ (MI)) := bnd1 (f_X11_lay s0 I) fun I17 => (if 1 < v3 then bnd1 (f_X11_lay (48 + v3) I17) fun I20 => some (.inl (v2 + v3, I20)) else some (.inl (v2 + v3, I17)))
set_option maxRecDepth 100000 in
set_option maxHeartbeats 4000000 in
theorem k_X11_write_b16_j101 {G : GX} {Q : State → Prop} {X : MX} (hO : shX11 X) {v1 : Int32} {v2 : Int32} {v3 : Int32} {s0 : Int32}   {N : Nat} {I : MI} {L : ML} {out : (Int32 × MI) ⊕ (MI)} (hf : f_X11_write_b16_j101 N v1 v2 v3 s0 I = some out) (hC : ∀ (v2' : Int32) (I' : MI), out = .inl (v2', I') → Ex G mX11_write rmX11_write Q (0, 0) X I' L 16 [(0, .ref (gB G + 99)), (1, .int v1), (2, .int v2')] []) (hX : ∀ (I' : MI), out = .inr I' → Ex G mX11_write rmX11_write Q (0, 0) X I' L 124 [(0, .ref (gB G + 99))] []) : Ex G mX11_write rmX11_write Q (0, 0) X I L 101 [(0, .ref (gB G + 99)), (1, .int v1), (2, .int v2), (3, .int v3)] [.int s0, .ref (gB G + 99)] := by
  unfold f_X11_write_b16_j101 at hf
  obtain ⟨I17, hq18, hf⟩ := of_bnd1 hf
  refine ex_callV_v (rm' := rmX11_lay) (st := []) (pc' := 104) [.int s0] dX11_write_101 cl_X11_313 (k_X11_lay G hO hq18) rfl (sh11_k hO) ⟨_, _, rfl⟩ rfl rfl (ROOM_of rfl) (Nat.le_of_ble_eq_true rfl) rfl rfl ?_
  refine ex_iload_n 3 (pc' := 105) dX11_write_104 rfl rfl rfl ?_
  refine ex_iconst (v := 1) (pc' := 106) dX11_write_105 ic_1 rfl ?_
  refine ex_icmple (tgt := 117) (pc' := 109) dX11_write_106 (by decide) rfl (fun hc19 => ?_) (fun hc19 => ?_)
  · replace hf := if_t hc19 hf
    refine ex_aload_n 0 (pc' := 110) dX11_write_109 rfl rfl rfl ?_
    refine ex_bipush (v := 48) (pc' := 112) dX11_write_110 bp_48 rfl ?_
    refine ex_iload_n 3 (pc' := 113) dX11_write_112 rfl rfl rfl ?_
    refine ex_iadd (pc' := 114) dX11_write_113 rfl ?_
    obtain ⟨I20, hq21, hf⟩ := of_bnd1 hf
    refine ex_callV_v (rm' := rmX11_lay) (st := []) (pc' := 117) [.int (48 + v3)] dX11_write_114 cl_X11_313 (k_X11_lay G hO hq21) rfl (sh11_k hO) ⟨_, _, rfl⟩ rfl rfl (ROOM_of rfl) (Nat.le_of_ble_eq_true rfl) rfl rfl ?_
    refine ex_iload_n 2 (pc' := 118) dX11_write_117 rfl rfl rfl ?_
    refine ex_iload_n 3 (pc' := 119) dX11_write_118 rfl rfl rfl ?_
    refine ex_iadd (pc' := 120) dX11_write_119 rfl ?_
    refine ex_istore_n (lv' := [(2, .int (v2 + v3)), (0, .ref (gB G + 99)), (1, .int v1), (3, .int v3)]) (pc' := 121) dX11_write_120 rfl (Nat.le_of_ble_eq_true rfl) rfl rfl ?_
    refine ex_goto (tgt := 16) dX11_write_121 (by decide) ?_
    exact ex_sub [1, 2, 0] rfl (hC _ _ (Option.some.inj hf).symm)
  · replace hf := if_f hc19 hf
    refine ex_iload_n 2 (pc' := 118) dX11_write_117 rfl rfl rfl ?_
    refine ex_iload_n 3 (pc' := 119) dX11_write_118 rfl rfl rfl ?_
    refine ex_iadd (pc' := 120) dX11_write_119 rfl ?_
    refine ex_istore_n (lv' := [(2, .int (v2 + v3)), (0, .ref (gB G + 99)), (1, .int v1), (3, .int v3)]) (pc' := 121) dX11_write_120 rfl (Nat.le_of_ble_eq_true rfl) rfl rfl ?_
    refine ex_goto (tgt := 16) dX11_write_121 (by decide) ?_
    exact ex_sub [1, 2, 0] rfl (hC _ _ (Option.some.inj hf).symm)
def f_X11_write_b16_j79 (N : Nat) (v1 : Int32) (v2 : Int32) (v3 : Int32) (I : MI) : Option ((Int32 × MI) ⊕ (MI)) := if inb ((12 * v1) + v2) 72 then (if (I 101 (Int32.toNatClampNeg ((12 * v1) + v2))) = 0 then f_X11_write_b16_j101 N v1 v2 v3 85 I else f_X11_write_b16_j101 N v1 v2 v3 68 I) else none
set_option maxRecDepth 100000 in
set_option maxHeartbeats 4000000 in
theorem k_X11_write_b16_j79 {G : GX} {Q : State → Prop} {X : MX} (hO : shX11 X) {v1 : Int32} {v2 : Int32} {v3 : Int32}   {N : Nat} {I : MI} {L : ML} {out : (Int32 × MI) ⊕ (MI)} (hf : f_X11_write_b16_j79 N v1 v2 v3 I = some out) (hC : ∀ (v2' : Int32) (I' : MI), out = .inl (v2', I') → Ex G mX11_write rmX11_write Q (0, 0) X I' L 16 [(0, .ref (gB G + 99)), (1, .int v1), (2, .int v2')] []) (hX : ∀ (I' : MI), out = .inr I' → Ex G mX11_write rmX11_write Q (0, 0) X I' L 124 [(0, .ref (gB G + 99))] []) : Ex G mX11_write rmX11_write Q (0, 0) X I L 79 [(0, .ref (gB G + 99)), (1, .int v1), (2, .int v2), (3, .int v3)] [] := by
  unfold f_X11_write_b16_j79 at hf
  refine ex_aload_n 0 (pc' := 80) dX11_write_79 rfl rfl rfl ?_
  refine ex_aload_n 0 (pc' := 81) dX11_write_80 rfl rfl rfl ?_
  refine ex_getR (pc' := 84) dX11_write_81 fl_X11_15 rfl (sh11_k hO) (sh11_F1 hO) rfl ?_
  refine ex_bipush (v := 12) (pc' := 86) dX11_write_84 bp_12 rfl ?_
  refine ex_iload_n 1 (pc' := 87) dX11_write_86 rfl rfl rfl ?_
  refine ex_imul (pc' := 88) dX11_write_87 rfl ?_
  refine ex_iload_n 2 (pc' := 89) dX11_write_88 rfl rfl rfl ?_
  refine ex_iadd (pc' := 90) dX11_write_89 rfl ?_
  obtain ⟨hg15, hf⟩ := of_guard hf
  refine ex_iald (pc' := 91) dX11_write_90 (sh11_T1 hO) (inb_in hg15) rfl ?_
  refine ex_ifne (tgt := 99) (pc' := 94) dX11_write_91 (by decide) rfl (fun hc16 => ?_) (fun hc16 => ?_)
  · replace hf := if_t hc16 hf
    refine ex_bipush (v := 85) (pc' := 96) dX11_write_94 bp_85 rfl ?_
    refine ex_goto (tgt := 101) dX11_write_96 (by decide) ?_
    refine ex_sub [0, 1, 2, 3] rfl (k_X11_write_b16_j101 hO  hf hC hX)
  · replace hf := if_f hc16 hf
    refine ex_bipush (v := 68) (pc' := 101) dX11_write_99 bp_68 rfl ?_
    refine ex_sub [0, 1, 2, 3] rfl (k_X11_write_b16_j101 hO  hf hC hX)
def f_X11_write_b16 (N : Nat) (v1 : Int32) (v2 : Int32) (I : MI) : Option ((Int32 × MI) ⊕ (MI)) := if inb v1 6 then (if v2 < (I 100 (Int32.toNatClampNeg v1)) then bnd1 (f_X11_write_l28 N v1 v2 1 I) fun x13 => f_X11_write_b16_j79 N v1 v2 x13 I else some (.inr I)) else none
set_option maxRecDepth 100000 in
set_option maxHeartbeats 4000000 in
theorem k_X11_write_b16 {G : GX} {Q : State → Prop} {X : MX} (hO : shX11 X) {v1 : Int32}  {v2 : Int32} {N : Nat} {I : MI} {L : ML} {out : (Int32 × MI) ⊕ (MI)} (hf : f_X11_write_b16 N v1 v2 I = some out) (hC : ∀ (v2' : Int32) (I' : MI), out = .inl (v2', I') → Ex G mX11_write rmX11_write Q (0, 0) X I' L 16 [(0, .ref (gB G + 99)), (1, .int v1), (2, .int v2')] []) (hX : ∀ (I' : MI), out = .inr I' → Ex G mX11_write rmX11_write Q (0, 0) X I' L 124 [(0, .ref (gB G + 99))] []) : Ex G mX11_write rmX11_write Q (0, 0) X I L 16 [(0, .ref (gB G + 99)), (1, .int v1), (2, .int v2)] [] := by
  unfold f_X11_write_b16 at hf
  refine ex_iload_n 2 (pc' := 17) dX11_write_16 rfl rfl rfl ?_
  refine ex_aload_n 0 (pc' := 18) dX11_write_17 rfl rfl rfl ?_
  refine ex_getR (pc' := 21) dX11_write_18 fl_X11_9 rfl (sh11_k hO) (sh11_F0 hO) rfl ?_
  refine ex_iload_n 1 (pc' := 22) dX11_write_21 rfl rfl rfl ?_
  obtain ⟨hg5, hf⟩ := of_guard hf
  refine ex_iald (pc' := 23) dX11_write_22 (sh11_T0 hO) (inb_in hg5) rfl ?_
  refine ex_icmpge (tgt := 124) (pc' := 26) dX11_write_23 (by decide) rfl (fun hc6 => ?_) (fun hc6 => ?_)
  · replace hf := if_t hc6 hf
    refine ex_iconst (v := 1) (pc' := 27) dX11_write_26 ic_1 rfl ?_
    refine ex_istore_n (lv' := [(3, .int 1), (0, .ref (gB G + 99)), (1, .int v1), (2, .int v2)]) (pc' := 28) dX11_write_27 rfl (Nat.le_of_ble_eq_true rfl) rfl rfl ?_
    refine ex_sub (lv' := [(0, .ref (gB G + 99)), (1, .int v1), (2, .int v2), (3, .int 1)]) [1, 2, 3, 0] rfl ?_
    obtain ⟨x13, hq14, hf⟩ := of_bnd1 hf
    refine k_X11_write_l28 hO (fun x13' he => ?_) _ _ hq14
    cases he
    refine ex_sub [0, 1, 2, 3] rfl (k_X11_write_b16_j79 hO  hf hC hX)
  · replace hf := if_f hc6 hf
    exact ex_sub [0] rfl (hX _ (Option.some.inj hf).symm)
def f_X11_write_l16 (N : Nat) (v1 : Int32) (v2 : Int32) (I : MI) : Option (MI) := loopN (fun s => f_X11_write_b16 N v1 s.1 s.2) N (v2, I)
set_option maxRecDepth 100000 in
set_option maxHeartbeats 4000000 in
theorem k_X11_write_l16 {G : GX} {Q : State → Prop} {X : MX} (hO : shX11 X) {v1 : Int32}  {N0 : Nat} {L : ML} {out : (MI)} (hX : ∀ (I' : MI), out = I' → Ex G mX11_write rmX11_write Q (0, 0) X I' L 124 [(0, .ref (gB G + 99))] []) : ∀ (N : Nat) (v2 : Int32) (I : MI), loopN (fun s => f_X11_write_b16 N0 v1 s.1 s.2) N (v2, I) = some out → Ex G mX11_write rmX11_write Q (0, 0) X I L 16 [(0, .ref (gB G + 99)), (1, .int v1), (2, .int v2)] [] := by
  intro N
  induction N with
  | zero => intro v2 I hf; exact absurd (loopN_zero hf) id
  | succ n ih =>
    intro v2 I hf
    rcases loopN_succ hf with ⟨s, hb, hl⟩ | hb
    · obtain ⟨v2', I'⟩ := s
      refine k_X11_write_b16 hO  hb (fun _ _ he => ?_) (fun _ he => by cases he)
      cases he
      exact ih v2' I' hl
    · exact k_X11_write_b16 hO  hb (fun _ _ he => by cases he) (fun x0 he => hX x0 (Sum.inr.inj he))
def f_X11_write (N : Nat) (v1 : Int32) (I : MI) : Option (Int32 × MI) := bnd1 (f_X11_isSix v1) fun r1 => (if r1 = 0 then some ((-1), I) else letv (upI I 99 15 0) fun I4 => bnd1 (f_X11_write_l16 N v1 0 I4) fun I22 => some (I22 99 15, I22))
set_option maxRecDepth 100000 in
set_option maxHeartbeats 4000000 in
theorem kb_X11_write {G : GX} {Q : State → Prop} {X : MX} (hO : shX11 X) {v1 : Int32}  {N : Nat} {I : MI} {L : ML} {out : Int32 × MI} (hf : f_X11_write N v1 I = some out) (hR : ∀ (z : Int32) (I' : MI), out = (z, I') → Q = RetQ G (some (.int z)) X I' L (0, 0)) : Ex G mX11_write rmX11_write Q (0, 0) X I L 0 [(0, .ref (gB G + 99)), (1, .int v1)] [] := by
  unfold f_X11_write at hf
  refine ex_iload_n 1 (pc' := 1) dX11_write_0 rfl rfl rfl ?_
  obtain ⟨r1, hq2, hf⟩ := of_bnd1 hf
  refine ex_callS_i (rm' := rmX11_isSix) (st := []) (pc' := 4) [.int v1] dX11_write_1 cl_X11_133 (k_X11_isSix G hq2) rfl rfl rfl (ROOM_of rfl) (Nat.le_of_ble_eq_true rfl) rfl rfl ?_
  refine ex_ifne (tgt := 9) (pc' := 7) dX11_write_4 (by decide) rfl (fun hc3 => ?_) (fun hc3 => ?_)
  · replace hf := if_t hc3 hf
    refine ex_iconst (v := (-1)) (pc' := 8) dX11_write_7 ic_m1 rfl ?_
    exact ex_iret dX11_write_8 rfl (hR _ _ (Option.some.inj hf).symm)
  · replace hf := if_f hc3 hf
    refine ex_aload_n 0 (pc' := 10) dX11_write_9 rfl rfl rfl ?_
    refine ex_iconst (v := 0) (pc' := 11) dX11_write_10 ic_0 rfl ?_
    refine ex_putI (pc' := 14) dX11_write_11 fl_X11_310 rfl (sh11_k hO) rfl ?_
    obtain ⟨I4, hI4, hf⟩ := of_let hf
    rw [← hI4]
    refine ex_iconst (v := 0) (pc' := 15) dX11_write_14 ic_0 rfl ?_
    refine ex_istore_n (lv' := [(2, .int 0), (0, .ref (gB G + 99)), (1, .int v1)]) (pc' := 16) dX11_write_15 rfl (Nat.le_of_ble_eq_true rfl) rfl rfl ?_
    refine ex_sub (lv' := [(0, .ref (gB G + 99)), (1, .int v1), (2, .int 0)]) [1, 2, 0] rfl ?_
    obtain ⟨I22, hq23, hf⟩ := of_bnd1 hf
    refine k_X11_write_l16 hO (fun I22' he => ?_) _ _ _ hq23
    cases he
    refine ex_aload_n 0 (pc' := 125) dX11_write_124 rfl rfl rfl ?_
    refine ex_getI (pc' := 128) dX11_write_125 fl_X11_310 rfl (sh11_k hO) rfl ?_
    exact ex_iret dX11_write_128 rfl (hR _ _ (Option.some.inj hf).symm)
set_option maxRecDepth 100000 in
set_option maxHeartbeats 4000000 in
theorem k_X11_write (G : GX) {X : MX} (hO : shX11 X) {v1 : Int32}  {N : Nat} {I : MI} {L : ML} {z : Int32} {I' : MI} (hf : f_X11_write N v1 I = some (z, I')) : Con G mX11_write yX11_write rmX11_write (fun B => [.ref (B + 99), .int v1]) X I L (some (.int z)) X I' L :=
  Con.of (by decide) rfl (fun h => by cases h) (fun B => Nat.le_of_ble_eq_true rfl) (fun G => kb_X11_write hO  hf (fun _ _ he => by cases he; rfl))
