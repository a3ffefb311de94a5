-- X11_flipped ('RookWordsModel', 'flipped', '(I)I')
def rmX11_flipped : RM := ((2, 45, 0, 0), false, (some FieldType.int))
def f_X11_flipped_b18 (N : Nat) (v1 : Int32) (v2 : Int32) (v3 : Int32) (I : MI) : Option ((Int32 × MI) ⊕ (MI)) := (if v3 < (v2 / 2) then if inb ((6 * v1) + v3) 36 then letv (I 104 (Int32.toNatClampNeg ((6 * v1) + v3))) fun x7 => if inb ((((6 * v1) + v2) - 1) - v3) 36 then if inb ((6 * v1) + v3) 36 then letv (upI I 104 (Int32.toNatClampNeg ((6 * v1) + v3)) (I 104 (Int32.toNatClampNeg ((((6 * v1) + v2) - 1) - v3)))) fun I10 => if inb ((((6 * v1) + v2) - 1) - v3) 36 then letv (upI I10 104 (Int32.toNatClampNeg ((((6 * v1) + v2) - 1) - v3)) x7) fun I12 => some (.inl (v3 + 1, I12)) else none else none else none else none else some (.inr I))
set_option maxRecDepth 100000 in
set_option maxHeartbeats 4000000 in
theorem k_X11_flipped_b18 {G : GX} {Q : State → Prop} {X : MX} (hO : shX11 X) {v1 : Int32} {v2 : Int32}  {v3 : Int32} {N : Nat} {I : MI} {L : ML} {out : (Int32 × MI) ⊕ (MI)} (hf : f_X11_flipped_b18 N v1 v2 v3 I = some out) (hC : ∀ (v3' : Int32) (I' : MI), out = .inl (v3', I') → Ex G mX11_flipped rmX11_flipped Q (0, 0) X I' L 18 [(0, .ref (gB G + 99)), (1, .int v1), (2, .int v2), (3, .int v3')] []) (hX : ∀ (I' : MI), out = .inr I' → Ex G mX11_flipped rmX11_flipped Q (0, 0) X I' L 87 [(0, .ref (gB G + 99)), (1, .int v1)] []) : Ex G mX11_flipped rmX11_flipped Q (0, 0) X I L 18 [(0, .ref (gB G + 99)), (1, .int v1), (2, .int v2), (3, .int v3)] [] := by
  unfold f_X11_flipped_b18 at hf
  refine ex_iload_n 3 (pc' := 19) dX11_flipped_18 rfl rfl rfl ?_
  refine ex_iload_n 2 (pc' := 20) dX11_flipped_19 rfl rfl rfl ?_
  refine ex_iconst (v := 2) (pc' := 21) dX11_flipped_20 ic_2 rfl ?_
  refine ex_idiv (pc' := 22) dX11_flipped_21 (by decide) rfl ?_
  refine ex_icmpge (tgt := 87) (pc' := 25) dX11_flipped_22 (by decide) rfl (fun hc5 => ?_) (fun hc5 => ?_)
  · replace hf := if_t hc5 hf
    refine ex_aload_n 0 (pc' := 26) dX11_flipped_25 rfl rfl rfl ?_
    refine ex_getR (pc' := 29) dX11_flipped_26 fl_X11_25 rfl (sh11_k hO) (sh11_F4 hO) rfl ?_
    refine ex_bipush (v := 6) (pc' := 31) dX11_flipped_29 bp_6 rfl ?_
    refine ex_iload_n 1 (pc' := 32) dX11_flipped_31 rfl rfl rfl ?_
    refine ex_imul (pc' := 33) dX11_flipped_32 rfl ?_
    refine ex_iload_n 3 (pc' := 34) dX11_flipped_33 rfl rfl rfl ?_
    refine ex_iadd (pc' := 35) dX11_flipped_34 rfl ?_
    obtain ⟨hg6, hf⟩ := of_guard hf
    refine ex_iald (pc' := 36) dX11_flipped_35 (sh11_T4 hO) (inb_in hg6) rfl ?_
    obtain ⟨x7, hx7, hf⟩ := of_let hf
    rw [← hx7]
    refine ex_istore (lv' := [(4, .int x7), (0, .ref (gB G + 99)), (1, .int v1), (2, .int v2), (3, .int v3)]) (pc' := 38) dX11_flipped_36 (Nat.le_of_ble_eq_true rfl) rfl rfl ?_
    refine ex_aload_n 1 (pc' := 39) dX11_flipped_38 rfl rfl rfl ?_
    refine ex_getR (pc' := 42) dX11_flipped_39 fl_X11_25 rfl (sh11_k hO) (sh11_F4 hO) rfl ?_
    refine ex_bipush (v := 6) (pc' := 44) dX11_flipped_42 bp_6 rfl ?_
    refine ex_iload_n 2 (pc' := 45) dX11_flipped_44 rfl rfl rfl ?_
    refine ex_imul (pc' := 46) dX11_flipped_45 rfl ?_
    refine ex_iload_n 4 (pc' := 47) dX11_flipped_46 rfl rfl rfl ?_
    refine ex_iadd (pc' := 48) dX11_flipped_47 rfl ?_
    refine ex_aload_n 1 (pc' := 49) dX11_flipped_48 rfl rfl rfl ?_
    refine ex_getR (pc' := 52) dX11_flipped_49 fl_X11_25 rfl (sh11_k hO) (sh11_F4 hO) rfl ?_
    refine ex_bipush (v := 6) (pc' := 54) dX11_flipped_52 bp_6 rfl ?_
    refine ex_iload_n 2 (pc' := 55) dX11_flipped_54 rfl rfl rfl ?_
    refine ex_imul (pc' := 56) dX11_flipped_55 rfl ?_
    refine ex_iload_n 3 (pc' := 57) dX11_flipped_56 rfl rfl rfl ?_
    refine ex_iadd (pc' := 58) dX11_flipped_57 rfl ?_
    refine ex_iconst (v := 1) (pc' := 59) dX11_flipped_58 ic_1 rfl ?_
    refine ex_isub (pc' := 60) dX11_flipped_59 rfl ?_
    refine ex_iload_n 4 (pc' := 61) dX11_flipped_60 rfl rfl rfl ?_
    refine ex_isub (pc' := 62) dX11_flipped_61 rfl ?_
    obtain ⟨hg8, hf⟩ := of_guard hf
    refine ex_iald (pc' := 63) dX11_flipped_62 (sh11_T4 hO) (inb_in hg8) rfl ?_
    obtain ⟨hg9, hf⟩ := of_guard hf
    refine ex_iast (pc' := 64) dX11_flipped_63 (sh11_T4 hO) (inb_in hg9) rfl ?_
    obtain ⟨I10, hI10, hf⟩ := of_let hf
    rw [← hI10]
    refine ex_aload_n 1 (pc' := 65) dX11_flipped_64 rfl rfl rfl ?_
    refine ex_getR (pc' := 68) dX11_flipped_65 fl_X11_25 rfl (sh11_k hO) (sh11_F4 hO) rfl ?_
    refine ex_bipush (v := 6) (pc' := 70) dX11_flipped_68 bp_6 rfl ?_
    refine ex_iload_n 2 (pc' := 71) dX11_flipped_70 rfl rfl rfl ?_
    refine ex_imul (pc' := 72) dX11_flipped_71 rfl ?_
    refine ex_iload_n 3 (pc' := 73) dX11_flipped_72 rfl rfl rfl ?_
    refine ex_iadd (pc' := 74) dX11_flipped_73 rfl ?_
    refine ex_iconst (v := 1) (pc' := 75) dX11_flipped_74 ic_1 rfl ?_
    refine ex_isub (pc' := 76) dX11_flipped_75 rfl ?_
    refine ex_iload_n 4 (pc' := 77) dX11_flipped_76 rfl rfl rfl ?_
    refine ex_isub (pc' := 78) dX11_flipped_77 rfl ?_
    refine ex_iload 0 (pc' := 80) dX11_flipped_78 rfl rfl ?_
    obtain ⟨hg11, hf⟩ := of_guard hf
    refine ex_iast (pc' := 81) dX11_flipped_80 (sh11_T4 hO) (inb_in hg11) rfl ?_
    obtain ⟨I12, hI12, hf⟩ := of_let hf
    rw [← hI12]
    refine ex_iincc (lv' := [(3, .int (v3 + 1)), (4, .int x7), (0, .ref (gB G + 99)), (1, .int v1), (2, .int v2)]) 4 (pc' := 84) dX11_flipped_81 rfl ic_1 (Nat.le_of_ble_eq_true rfl) rfl rfl ?_
    refine ex_goto (tgt := 18) dX11_flipped_84 (by decide) ?_
    exact ex_sub [2, 3, 4, 0] rfl (hC _ _ (Option.some.inj hf).symm)
  · replace hf := if_f hc5 hf
    exact ex_sub [0, 1] rfl (hX _ (Option.some.inj hf).symm)
def f_X11_flipped_l18 (N : Nat) (v1 : Int32) (v2 : Int32) (v3 : Int32) (I : MI) : Option (MI) := loopN (fun s => f_X11_flipped_b18 N v1 v2 s.1 s.2) N (v3, I)
set_option maxRecDepth 100000 in
set_option maxHeartbeats 4000000 in
theorem k_X11_flipped_l18 {G : GX} {Q : State → Prop} {X : MX} (hO : shX11 X) {v1 : Int32} {v2 : Int32}  {N0 : Nat} {L : ML} {out : (MI)} (hX : ∀ (I' : MI), out = I' → Ex G mX11_flipped rmX11_flipped Q (0, 0) X I' L 87 [(0, .ref (gB G + 99)), (1, .int v1)] []) : ∀ (N : Nat) (v3 : Int32) (I : MI), loopN (fun s => f_X11_flipped_b18 N0 v1 v2 s.1 s.2) N (v3, I) = some out → Ex G mX11_flipped rmX11_flipped Q (0, 0) X I L 18 [(0, .ref (gB G + 99)), (1, .int v1), (2, .int v2), (3, .int v3)] [] := by
  intro N
  induction N with
  | zero => intro v3 I hf; exact absurd (loopN_zero hf) id
  | succ n ih =>
    intro v3 I hf
    rcases loopN_succ hf with ⟨s, hb, hl⟩ | hb
    · obtain ⟨v3', I'⟩ := s
      refine k_X11_flipped_b18 hO  hb (fun _ _ he => ?_) (fun _ he => by cases he)
      cases he
      exact ih v3' I' hl
    · exact k_X11_flipped_b18 hO  hb (fun _ _ he => by cases he) (fun x0 he => hX x0 (Sum.inr.inj he))
def f_X11_flipped (N : Nat) (v1 : Int32) (I : MI) : Option (Int32 × MI) := bnd1 (f_X11_isSix v1) fun r1 => (if r1 = 0 then some ((-1), I) else if inb v1 6 then bnd1 (f_X11_flipped_l18 N v1 (I 103 (Int32.toNatClampNeg v1)) 0 I) fun I13 => letv (upI I13 99 9 0) fun I15 => bnd1 (f_X11_cells N v1 I15) fun r16 => some (r16, I15) else none)
set_option maxRecDepth 100000 in
set_option maxHeartbeats 4000000 in
theorem kb_X11_flipped {G : GX} {Q : State → Prop} {X : MX} (hO : shX11 X) {v1 : Int32}  {N : Nat} {I : MI} {L : ML} {out : Int32 × MI} (hf : f_X11_flipped N v1 I = some out) (hR : ∀ (z : Int32) (I' : MI), out = (z, I') → Q = RetQ G (some (.int z)) X I' L (0, 0)) : Ex G mX11_flipped rmX11_flipped Q (0, 0) X I L 0 [(0, .ref (gB G + 99)), (1, .int v1)] [] := by
  unfold f_X11_flipped at hf
  refine ex_iload_n 1 (pc' := 1) dX11_flipped_0 rfl rfl rfl ?_
  obtain ⟨r1, hq2, hf⟩ := of_bnd1 hf
  refine ex_callS_i (rm' := rmX11_isSix) (st := []) (pc' := 4) [.int v1] dX11_flipped_1 cl_X11_133 (k_X11_isSix G hq2) rfl rfl rfl (ROOM_of rfl) (Nat.le_of_ble_eq_true rfl) rfl rfl ?_
  refine ex_ifne (tgt := 9) (pc' := 7) dX11_flipped_4 (by decide) rfl (fun hc3 => ?_) (fun hc3 => ?_)
  · replace hf := if_t hc3 hf
    refine ex_iconst (v := (-1)) (pc' := 8) dX11_flipped_7 ic_m1 rfl ?_
    exact ex_iret dX11_flipped_8 rfl (hR _ _ (Option.some.inj hf).symm)
  · replace hf := if_f hc3 hf
    refine ex_aload_n 0 (pc' := 10) dX11_flipped_9 rfl rfl rfl ?_
    refine ex_getR (pc' := 13) dX11_flipped_10 fl_X11_22 rfl (sh11_k hO) (sh11_F3 hO) rfl ?_
    refine ex_iload_n 1 (pc' := 14) dX11_flipped_13 rfl rfl rfl ?_
    obtain ⟨hg4, hf⟩ := of_guard hf
    refine ex_iald (pc' := 15) dX11_flipped_14 (sh11_T3 hO) (inb_in hg4) rfl ?_
    refine ex_istore_n (lv' := [(2, .int (I 103 (Int32.toNatClampNeg v1))), (0, .ref (gB G + 99)), (1, .int v1)]) (pc' := 16) dX11_flipped_15 rfl (Nat.le_of_ble_eq_true rfl) rfl rfl ?_
    refine ex_iconst (v := 0) (pc' := 17) dX11_flipped_16 ic_0 rfl ?_
    refine ex_istore_n (lv' := [(3, .int 0), (2, .int (I 103 (Int32.toNatClampNeg v1))), (0, .ref (gB G + 99)), (1, .int v1)]) (pc' := 18) dX11_flipped_17 rfl (Nat.le_of_ble_eq_true rfl) rfl rfl ?_
    refine ex_sub (lv' := [(0, .ref (gB G + 99)), (1, .int v1), (2, .int (I 103 (Int32.toNatClampNeg v1))), (3, .int 0)]) [2, 3, 1, 0] rfl ?_
    obtain ⟨I13, hq14, hf⟩ := of_bnd1 hf
    refine k_X11_flipped_l18 hO (fun I13' he => ?_) _ _ _ hq14
    cases he
    refine ex_aload_n 0 (pc' := 88) dX11_flipped_87 rfl rfl rfl ?_
    refine ex_iconst (v := 0) (pc' := 89) dX11_flipped_88 ic_0 rfl ?_
    refine ex_putI (pc' := 92) dX11_flipped_89 fl_X11_175 rfl (sh11_k hO) rfl ?_
    obtain ⟨I15, hI15, hf⟩ := of_let hf
    rw [← hI15]
    refine ex_aload_n 0 (pc' := 93) dX11_flipped_92 rfl rfl rfl ?_
    refine ex_iload_n 1 (pc' := 94) dX11_flipped_93 rfl rfl rfl ?_
    obtain ⟨r16, hq17, hf⟩ := of_bnd1 hf
    refine ex_callV_i (rm' := rmX11_cells) (st := []) (pc' := 97) [.int v1] dX11_flipped_94 cl_X11_186 (k_X11_cells G hO hq17) rfl (sh11_k hO) ⟨_, _, rfl⟩ rfl rfl (ROOM_of rfl) (Nat.le_of_ble_eq_true rfl) rfl rfl ?_
    exact ex_iret dX11_flipped_97 rfl (hR _ _ (Option.some.inj hf).symm)
set_option maxRecDepth 100000 in
set_option maxHeartbeats 4000000 in
theorem k_X11_flipped (G : GX) {X : MX} (hO : shX11 X) {v1 : Int32}  {N : Nat} {I : MI} {L : ML} {z : Int32} {I' : MI} (hf : f_X11_flipped N v1 I = some (z, I')) : Con G mX11_flipped yX11_flipped rmX11_flipped (fun B => [.ref (B + 99), .int v1]) X I L (some (.int z)) X I' L :=
  Con.of (by decide) rfl (fun h => by cases h) (fun B => Nat.le_of_ble_eq_true rfl) (fun G => kb_X11_flipped hO  hf (fun _ _ he => by cases he; rfl))
theorem sp_448 : (Int16.ofInt 448).toInt32 = 448 := by decide
theorem fl_X11_106 : FLD RX11 106 11 37 true := ⟨RX11, TX11, 51, rfl, inX11, by decide, lwg_at 971 (by decide +kernel) rfl, nmX11, tyX11_ok, rfl, rfl⟩
-- X11_layHits ('RookWordsModel', 'layHits', '(I)V')
def rmX11_layHits : RM := ((1, 23, 0, 0), false, none)
def f_X11_layHits_b9 (N : Nat) (v1 : Int32) (v2 : Int32) (v3 : Int32) (I : MI) : Option ((Int32 × MI) ⊕ (MI)) := (if v3 < 448 then (if v3 = 0 then if inb v3 448 then letv (upI I 131 (Int32.toNatClampNeg v3) 1) fun I5 => some (.inl (v3 + 1, I5)) else none else if inb v3 448 then letv (upI I 131 (Int32.toNatClampNeg v3) 0) fun I7 => some (.inl (v3 + 1, I7)) else none) else some (.inr I))
set_option maxRecDepth 100000 in
set_option maxHeartbeats 4000000 in
theorem k_X11_layHits_b9 {G : GX} {Q : State → Prop} {X : MX} (hO : shX11 X) {v1 : Int32} {v2 : Int32}  {v3 : Int32} {N : Nat} {I : MI} {L : ML} {out : (Int32 × MI) ⊕ (MI)} (hf : f_X11_layHits_b9 N v1 v2 v3 I = some out) (hC : ∀ (v3' : Int32) (I' : MI), out = .inl (v3', I') → Ex G mX11_layHits rmX11_layHits Q (0, 0) X I' L 9 [(0, .ref (gB G + 99)), (1, .int v1), (2, .int v2), (3, .int v3')] []) (hX : ∀ (I' : MI), out = .inr I' → Ex G mX11_layHits rmX11_layHits Q (0, 0) X I' L 37 [(0, .ref (gB G + 99)), (1, .int v1), (2, .int v2)] []) : Ex G mX11_layHits rmX11_layHits Q (0, 0) X I L 9 [(0, .ref (gB G + 99)), (1, .int v1), (2, .int v2), (3, .int v3)] [] := by
  unfold f_X11_layHits_b9 at hf
  refine ex_iload_n 3 (pc' := 10) dX11_layHits_9 rfl rfl rfl ?_
  refine ex_sipush (v := 448) (pc' := 13) dX11_layHits_10 sp_448 rfl ?_
  refine ex_icmpge (tgt := 37) (pc' := 16) dX11_layHits_13 (by decide) rfl (fun hc2 => ?_) (fun hc2 => ?_)
  · replace hf := if_t hc2 hf
    refine ex_aload_n 0 (pc' := 17) dX11_layHits_16 rfl rfl rfl ?_
    refine ex_getR (pc' := 20) dX11_layHits_17 fl_X11_106 rfl (sh11_k hO) (sh11_F37 hO) rfl ?_
    refine ex_iload_n 3 (pc' := 21) dX11_layHits_20 rfl rfl rfl ?_
    refine ex_iload_n 3 (pc' := 22) dX11_layHits_21 rfl rfl rfl ?_
    refine ex_ifne (tgt := 29) (pc' := 25) dX11_layHits_22 (by decide) rfl (fun hc3 => ?_) (fun hc3 => ?_)
    · replace hf := if_t hc3 hf
      refine ex_iconst (v := 1) (pc' := 26) dX11_layHits_25 ic_1 rfl ?_
      refine ex_goto (tgt := 30) dX11_layHits_26 (by decide) ?_
      obtain ⟨hg4, hf⟩ := of_guard hf
      refine ex_iast (pc' := 31) dX11_layHits_30 (sh11_T37 hO) (inb_in hg4) rfl ?_
      obtain ⟨I5, hI5, hf⟩ := of_let hf
      rw [← hI5]
      refine ex_iincc (lv' := [(3, .int (v3 + 1)), (0, .ref (gB G + 99)), (1, .int v1), (2, .int v2)]) 3 (pc' := 34) dX11_layHits_31 rfl ic_1 (Nat.le_of_ble_eq_true rfl) rfl rfl ?_
      refine ex_goto (tgt := 9) dX11_layHits_34 (by decide) ?_
      exact ex_sub [1, 2, 3, 0] rfl (hC _ _ (Option.some.inj hf).symm)
    · replace hf := if_f hc3 hf
      refine ex_iconst (v := 0) (pc' := 30) dX11_layHits_29 ic_0 rfl ?_
      obtain ⟨hg6, hf⟩ := of_guard hf
      refine ex_iast (pc' := 31) dX11_layHits_30 (sh11_T37 hO) (inb_in hg6) rfl ?_
      obtain ⟨I7, hI7, hf⟩ := of_let hf
      rw [← hI7]
      refine ex_iincc (lv' := [(3, .int (v3 + 1)), (0, .ref (gB G + 99)), (1, .int v1), (2, .int v2)]) 3 (pc' := 34) dX11_layHits_31 rfl ic_1 (Nat.le_of_ble_eq_true rfl) rfl rfl ?_
      refine ex_goto (tgt := 9) dX11_layHits_34 (by decide) ?_
      exact ex_sub [1, 2, 3, 0] rfl (hC _ _ (Option.some.inj hf).symm)
  · replace hf := if_f hc2 hf
    exact ex_sub [0, 1, 2] rfl (hX _ (Option.some.inj hf).symm)
def f_X11_layHits_l9 (N : Nat) (v1 : Int32) (v2 : Int32) (v3 : Int32) (I : MI) : Option (MI) := loopN (fun s => f_X11_layHits_b9 N v1 v2 s.1 s.2) N (v3, I)
set_option maxRecDepth 100000 in
set_option maxHeartbeats 4000000 in
theorem k_X11_layHits_l9 {G : GX} {Q : State → Prop} {X : MX} (hO : shX11 X) {v1 : Int32} {v2 : Int32}  {N0 : Nat} {L : ML} {out : (MI)} (hX : ∀ (I' : MI), out = I' → Ex G mX11_layHits rmX11_layHits Q (0, 0) X I' L 37 [(0, .ref (gB G + 99)), (1, .int v1), (2, .int v2)] []) : ∀ (N : Nat) (v3 : Int32) (I : MI), loopN (fun s => f_X11_layHits_b9 N0 v1 v2 s.1 s.2) N (v3, I) = some out → Ex G mX11_layHits rmX11_layHits Q (0, 0) X I L 9 [(0, .ref (gB G + 99)), (1, .int v1), (2, .int v2), (3, .int v3)] [] := by
  intro N
  induction N with
  | zero => intro v3 I hf; exact absurd (loopN_zero hf) id
  | succ n ih =>
    intro v3 I hf
    rcases loopN_succ hf with ⟨s, hb, hl⟩ | hb
    · obtain ⟨v3', I'⟩ := s
      refine k_X11_layHits_b9 hO  hb (fun _ _ he => ?_) (fun _ he => by cases he)
      cases he
      exact ih v3' I' hl
    · exact k_X11_layHits_b9 hO  hb (fun _ _ he => by cases he) (fun x0 he => hX x0 (Sum.inr.inj he))
def f_X11_layHits_b96 (N : Nat) (v1 : Int32) (v2 : Int32) (v3 : Int32) (v4 : Int32) (v5 : Int32) (v6 : Int32) (v7 : Int32) (I : MI) : Option ((Int32 × MI) ⊕ (MI)) := (if v7 < 7 then if inb ((7 * v3) + v7) 448 then if inb (((7 * (v3 &&& ((jshl 1 v5) ^^^ (-1)))) + v7) - v6) 448 then if inb ((7 * v3) + v7) 448 then letv (upI I 131 (Int32.toNatClampNeg ((7 * v3) + v7)) ((I 131 (Int32.toNatClampNeg ((7 * v3) + v7))) + (I 131 (Int32.toNatClampNeg (((7 * (v3 &&& ((jshl 1 v5) ^^^ (-1)))) + v7) - v6))))) fun I22 => some (.inl (v7 + 1, I22)) else none else none else none else some (.inr I))
set_option maxRecDepth 100000 in
set_option maxHeartbeats 4000000 in
theorem k_X11_layHits_b96 {G : GX} {Q : State → Prop} {X : MX} (hO : shX11 X) {v1 : Int32} {v2 : Int32} {v3 : Int32} {v4 : Int32} {v5 : Int32} {v6 : Int32}  {v7 : Int32} {N : Nat} {I : MI} {L : ML} {out : (Int32 × MI) ⊕ (MI)} (hf : f_X11_layHits_b96 N v1 v2 v3 v4 v5 v6 v7 I = some out) (hC : ∀ (v7' : Int32) (I' : MI), out = .inl (v7', I') → Ex G mX11_layHits rmX11_layHits Q (0, 0) X I' L 96 [(0, .ref (gB G + 99)), (1, .int v1), (2, .int v2), (3, .int v3), (4, .int v4), (5, .int v5), (6, .int v6), (7, .int v7')] []) (hX : ∀ (I' : MI), out = .inr I' → Ex G mX11_layHits rmX11_layHits Q (0, 0) X I' L 146 [(0, .ref (gB G + 99)), (1, .int v1), (2, .int v2), (3, .int v3), (4, .int v4), (5, .int v5)] []) : Ex G mX11_layHits rmX11_layHits Q (0, 0) X I L 96 [(0, .ref (gB G + 99)), (1, .int v1), (2, .int v2), (3, .int v3), (4, .int v4), (5, .int v5), (6, .int v6), (7, .int v7)] [] := by
  unfold f_X11_layHits_b96 at hf
  refine ex_iload 7 (pc' := 98) dX11_layHits_96 rfl rfl ?_
  refine ex_bipush (v := 7) (pc' := 100) dX11_layHits_98 bp_7 rfl ?_
  refine ex_icmpge (tgt := 146) (pc' := 103) dX11_layHits_100 (by decide) rfl (fun hc18 => ?_) (fun hc18 => ?_)
  · replace hf := if_t hc18 hf
    refine ex_aload_n 0 (pc' := 104) dX11_layHits_103 rfl rfl rfl ?_
    refine ex_getR (pc' := 107) dX11_layHits_104 fl_X11_106 rfl (sh11_k hO) (sh11_F37 hO) rfl ?_
    refine ex_bipush (v := 7) (pc' := 109) dX11_layHits_107 bp_7 rfl ?_
    refine ex_iload_n 3 (pc' := 110) dX11_layHits_109 rfl rfl rfl ?_
    refine ex_imul (pc' := 111) dX11_layHits_110 rfl ?_
    refine ex_iload 7 (pc' := 113) dX11_layHits_111 rfl rfl ?_
    refine ex_iadd (pc' := 114) dX11_layHits_113 rfl ?_
    refine ex_dup2 (pc' := 115) dX11_layHits_114 rfl rfl rfl ?_
    obtain ⟨hg19, hf⟩ := of_guard hf
    refine ex_iald (pc' := 116) dX11_layHits_115 (sh11_T37 hO) (inb_in hg19) rfl ?_
    refine ex_aload_n 0 (pc' := 117) dX11_layHits_116 rfl rfl rfl ?_
    refine ex_getR (pc' := 120) dX11_layHits_117 fl_X11_106 rfl (sh11_k hO) (sh11_F37 hO) rfl ?_
    refine ex_bipush (v := 7) (pc' := 122) dX11_layHits_120 bp_7 rfl ?_
    refine ex_iload_n 3 (pc' := 123) dX11_layHits_122 rfl rfl rfl ?_
    refine ex_iconst (v := 1) (pc' := 124) dX11_layHits_123 ic_1 rfl ?_
    refine ex_iload 5 (pc' := 126) dX11_layHits_124 rfl rfl ?_
    refine ex_ishl (pc' := 127) dX11_layHits_126 rfl ?_
    refine ex_iconst (v := (-1)) (pc' := 128) dX11_layHits_127 ic_m1 rfl ?_
    refine ex_ixor (pc' := 129) dX11_layHits_128 rfl ?_
    refine ex_iand (pc' := 130) dX11_layHits_129 rfl ?_
    refine ex_imul (pc' := 131) dX11_layHits_130 rfl ?_
    refine ex_iload 7 (pc' := 133) dX11_layHits_131 rfl rfl ?_
    refine ex_iadd (pc' := 134) dX11_layHits_133 rfl ?_
    refine ex_iload 6 (pc' := 136) dX11_layHits_134 rfl rfl ?_
    refine ex_isub (pc' := 137) dX11_layHits_136 rfl ?_
    obtain ⟨hg20, hf⟩ := of_guard hf
    refine ex_iald (pc' := 138) dX11_layHits_137 (sh11_T37 hO) (inb_in hg20) rfl ?_
    refine ex_iadd (pc' := 139) dX11_layHits_138 rfl ?_
    obtain ⟨hg21, hf⟩ := of_guard hf
    refine ex_iast (pc' := 140) dX11_layHits_139 (sh11_T37 hO) (inb_in hg21) rfl ?_
    obtain ⟨I22, hI22, hf⟩ := of_let hf
    rw [← hI22]
    refine ex_iincc (lv' := [(7, .int (v7 + 1)), (0, .ref (gB G + 99)), (1, .int v1), (2, .int v2), (3, .int v3), (4, .int v4), (5, .int v5), (6, .int v6)]) 7 (pc' := 143) dX11_layHits_140 rfl ic_1 (Nat.le_of_ble_eq_true rfl) rfl rfl ?_
    refine ex_goto (tgt := 96) dX11_layHits_143 (by decide) ?_
    exact ex_sub [1, 2, 3, 4, 5, 6, 7, 0] rfl (hC _ _ (Option.some.inj hf).symm)
  · replace hf := if_f hc18 hf
    exact ex_sub [0, 1, 2, 3, 4, 5] rfl (hX _ (Option.some.inj hf).symm)
def f_X11_layHits_l96 (N : Nat) (v1 : Int32) (v2 : Int32) (v3 : Int32) (v4 : Int32) (v5 : Int32) (v6 : Int32) (v7 : Int32) (I : MI) : Option (MI) := loopN (fun s => f_X11_layHits_b96 N v1 v2 v3 v4 v5 v6 s.1 s.2) N (v7, I)
set_option maxRecDepth 100000 in
set_option maxHeartbeats 4000000 in
theorem k_X11_layHits_l96 {G : GX} {Q : State → Prop} {X : MX} (hO : shX11 X) {v1 : Int32} {v2 : Int32} {v3 : Int32} {v4 : Int32} {v5 : Int32} {v6 : Int32}  {N0 : Nat} {L : ML} {out : (MI)} (hX : ∀ (I' : MI), out = I' → Ex G mX11_layHits rmX11_layHits Q (0, 0) X I' L 146 [(0, .ref (gB G + 99)), (1, .int v1), (2, .int v2), (3, .int v3), (4, .int v4), (5, .int v5)] []) : ∀ (N : Nat) (v7 : Int32) (I : MI), loopN (fun s => f_X11_layHits_b96 N0 v1 v2 v3 v4 v5 v6 s.1 s.2) N (v7, I) = some out → Ex G mX11_layHits rmX11_layHits Q (0, 0) X I L 96 [(0, .ref (gB G + 99)), (1, .int v1), (2, .int v2), (3, .int v3), (4, .int v4), (5, .int v5), (6, .int v6), (7, .int v7)] [] := by
  intro N
  induction N with
  | zero => intro v7 I hf; exact absurd (loopN_zero hf) id
  | succ n ih =>
    intro v7 I hf
    rcases loopN_succ hf with ⟨s, hb, hl⟩ | hb
    · obtain ⟨v7', I'⟩ := s
      refine k_X11_layHits_b96 hO  hb (fun _ _ he => ?_) (fun _ he => by cases he)
      cases he
      exact ih v7' I' hl
    · exact k_X11_layHits_b96 hO  hb (fun _ _ he => by cases he) (fun x0 he => hX x0 (Sum.inr.inj he))
def f_X11_layHits_b57 (N : Nat) (v1 : Int32) (v2 : Int32) (v3 : Int32) (v4 : Int32) (v5 : Int32) (I : MI) : Option ((Int32 × MI) ⊕ (MI)) := (if v5 < v2 then (if ((jshr v3 v5) &&& 1) = 1 then bnd1 (f_X11_has v1 v4 v5 I) fun r15 => (if r15 = 0 then bnd1 (f_X11_layHits_l96 N v1 v2 v3 v4 v5 0 0 I) fun I23 => some (.inl (v5 + 1, I23)) else bnd1 (f_X11_layHits_l96 N v1 v2 v3 v4 v5 1 1 I) fun I25 => some (.inl (v5 + 1, I25))) else some (.inl (v5 + 1, I))) else some (.inr I))
set_option maxRecDepth 100000 in
set_option maxHeartbeats 4000000 in
theorem k_X11_layHits_b57 {G : GX} {Q : State → Prop} {X : MX} (hO : shX11 X) {v1 : Int32} {v2 : Int32} {v3 : Int32} {v4 : Int32}  {v5 : Int32} {N : Nat} {I : MI} {L : ML} {out : (Int32 × MI) ⊕ (MI)} (hf : f_X11_layHits_b57 N v1 v2 v3 v4 v5 I = some out) (hC : ∀ (v5' : Int32) (I' : MI), out = .inl (v5', I') → Ex G mX11_layHits rmX11_layHits Q (0, 0) X I' L 57 [(0, .ref (gB G + 99)), (1, .int v1), (2, .int v2), (3, .int v3), (4, .int v4), (5, .int v5')] []) (hX : ∀ (I' : MI), out = .inr I' → Ex G mX11_layHits rmX11_layHits Q (0, 0) X I' L 152 [(0, .ref (gB G + 99)), (1, .int v1), (2, .int v2), (3, .int v3)] []) : Ex G mX11_layHits rmX11_layHits Q (0, 0) X I L 57 [(0, .ref (gB G + 99)), (1, .int v1), (2, .int v2), (3, .int v3), (4, .int v4), (5, .int v5)] [] := by
  unfold f_X11_layHits_b57 at hf
  refine ex_iload 5 (pc' := 59) dX11_layHits_57 rfl rfl ?_
  refine ex_iload_n 2 (pc' := 60) dX11_layHits_59 rfl rfl rfl ?_
  refine ex_icmpge (tgt := 152) (pc' := 63) dX11_layHits_60 (by decide) rfl (fun hc13 => ?_) (fun hc13 => ?_)
  · replace hf := if_t hc13 hf
    refine ex_iload_n 3 (pc' := 64) dX11_layHits_63 rfl rfl rfl ?_
    refine ex_iload 5 (pc' := 66) dX11_layHits_64 rfl rfl ?_
    refine ex_ishr (pc' := 67) dX11_layHits_66 rfl ?_
    refine ex_iconst (v := 1) (pc' := 68) dX11_layHits_67 ic_1 rfl ?_
    refine ex_iand (pc' := 69) dX11_layHits_68 rfl ?_
    refine ex_iconst (v := 1) (pc' := 70) dX11_layHits_69 ic_1 rfl ?_
    refine ex_icmpne (tgt := 146) (pc' := 73) dX11_layHits_70 (by decide) rfl (fun hc14 => ?_) (fun hc14 => ?_)
    · replace hf := if_t hc14 hf
      refine ex_aload_n 0 (pc' := 74) dX11_layHits_73 rfl rfl rfl ?_
      refine ex_iload_n 1 (pc' := 75) dX11_layHits_74 rfl rfl rfl ?_
      refine ex_iload 4 (pc' := 77) dX11_layHits_75 rfl rfl ?_
      refine ex_iload 5 (pc' := 79) dX11_layHits_77 rfl rfl ?_
      obtain ⟨r15, hq16, hf⟩ := of_bnd1 hf
      refine ex_callV_i (rm' := rmX11_has) (st := []) (pc' := 82) [.int v1, .int v4, .int v5] dX11_layHits_79 cl_X11_189 (k_X11_has G hO hq16) rfl (sh11_k hO) ⟨_, _, rfl⟩ rfl rfl (ROOM_of rfl) (Nat.le_of_ble_eq_true rfl) rfl rfl ?_
      refine ex_ifeq (tgt := 89) (pc' := 85) dX11_layHits_82 (by decide) rfl (fun hc17 => ?_) (fun hc17 => ?_)
      · replace hf := if_t hc17 hf
        refine ex_iconst (v := 0) (pc' := 90) dX11_layHits_89 ic_0 rfl ?_
        refine ex_istore (lv' := [(6, .int 0), (0, .ref (gB G + 99)), (1, .int v1), (2, .int v2), (3, .int v3), (4, .int v4), (5, .int v5)]) (pc' := 92) dX11_layHits_90 (Nat.le_of_ble_eq_true rfl) rfl rfl ?_
        refine ex_iload 0 (pc' := 94) dX11_layHits_92 rfl rfl ?_
        refine ex_istore (lv' := [(7, .int 0), (6, .int 0), (0, .ref (gB G + 99)), (1, .int v1), (2, .int v2), (3, .int v3), (4, .int v4), (5, .int v5)]) (pc' := 96) dX11_layHits_94 (Nat.le_of_ble_eq_true rfl) rfl rfl ?_
        refine ex_sub (lv' := [(0, .ref (gB G + 99)), (1, .int v1), (2, .int v2), (3, .int v3), (4, .int v4), (5, .int v5), (6, .int 0), (7, .int 0)]) [2, 3, 4, 5, 6, 7, 1, 0] rfl ?_
        obtain ⟨I23, hq24, hf⟩ := of_bnd1 hf
        refine k_X11_layHits_l96 hO (fun I23' he => ?_) _ _ _ hq24
        cases he
        refine ex_iincc (lv' := [(5, .int (v5 + 1)), (0, .ref (gB G + 99)), (1, .int v1), (2, .int v2), (3, .int v3), (4, .int v4)]) 5 (pc' := 149) dX11_layHits_146 rfl ic_1 (Nat.le_of_ble_eq_true rfl) rfl rfl ?_
        refine ex_goto (tgt := 57) dX11_layHits_149 (by decide) ?_
        exact ex_sub [1, 2, 3, 4, 5, 0] rfl (hC _ _ (Option.some.inj hf).symm)
      · replace hf := if_f hc17 hf
        refine ex_iconst (v := 1) (pc' := 86) dX11_layHits_85 ic_1 rfl ?_
        refine ex_goto (tgt := 90) dX11_layHits_86 (by decide) ?_
        refine ex_istore (lv' := [(6, .int 1), (0, .ref (gB G + 99)), (1, .int v1), (2, .int v2), (3, .int v3), (4, .int v4), (5, .int v5)]) (pc' := 92) dX11_layHits_90 (Nat.le_of_ble_eq_true rfl) rfl rfl ?_
        refine ex_iload 0 (pc' := 94) dX11_layHits_92 rfl rfl ?_
        refine ex_istore (lv' := [(7, .int 1), (6, .int 1), (0, .ref (gB G + 99)), (1, .int v1), (2, .int v2), (3, .int v3), (4, .int v4), (5, .int v5)]) (pc' := 96) dX11_layHits_94 (Nat.le_of_ble_eq_true rfl) rfl rfl ?_
        refine ex_sub (lv' := [(0, .ref (gB G + 99)), (1, .int v1), (2, .int v2), (3, .int v3), (4, .int v4), (5, .int v5), (6, .int 1), (7, .int 1)]) [2, 3, 4, 5, 6, 7, 1, 0] rfl ?_
        obtain ⟨I25, hq26, hf⟩ := of_bnd1 hf
        refine k_X11_layHits_l96 hO (fun I25' he => ?_) _ _ _ hq26
        cases he
        refine ex_iincc (lv' := [(5, .int (v5 + 1)), (0, .ref (gB G + 99)), (1, .int v1), (2, .int v2), (3, .int v3), (4, .int v4)]) 5 (pc' := 149) dX11_layHits_146 rfl ic_1 (Nat.le_of_ble_eq_true rfl) rfl rfl ?_
        refine ex_goto (tgt := 57) dX11_layHits_149 (by decide) ?_
        exact ex_sub [1, 2, 3, 4, 5, 0] rfl (hC _ _ (Option.some.inj hf).symm)
    · replace hf := if_f hc14 hf
      refine ex_iincc (lv' := [(5, .int (v5 + 1)), (0, .ref (gB G + 99)), (1, .int v1), (2, .int v2), (3, .int v3), (4, .int v4)]) 5 (pc' := 149) dX11_layHits_146 rfl ic_1 (Nat.le_of_ble_eq_true rfl) rfl rfl ?_
      refine ex_goto (tgt := 57) dX11_layHits_149 (by decide) ?_
      exact ex_sub [1, 2, 3, 4, 5, 0] rfl (hC _ _ (Option.some.inj hf).symm)
  · replace hf := if_f hc13 hf
    exact ex_sub [0, 1, 2, 3] rfl (hX _ (Option.some.inj hf).symm)
def f_X11_layHits_l57 (N : Nat) (v1 : Int32) (v2 : Int32) (v3 : Int32) (v4 : Int32) (v5 : Int32) (I : MI) : Option (MI) := loopN (fun s => f_X11_layHits_b57 N v1 v2 v3 v4 s.1 s.2) N (v5, I)
set_option maxRecDepth 100000 in
set_option maxHeartbeats 4000000 in
theorem k_X11_layHits_l57 {G : GX} {Q : State → Prop} {X : MX} (hO : shX11 X) {v1 : Int32} {v2 : Int32} {v3 : Int32} {v4 : Int32}  {N0 : Nat} {L : ML} {out : (MI)} (hX : ∀ (I' : MI), out = I' → Ex G mX11_layHits rmX11_layHits Q (0, 0) X I' L 152 [(0, .ref (gB G + 99)), (1, .int v1), (2, .int v2), (3, .int v3)] []) : ∀ (N : Nat) (v5 : Int32) (I : MI), loopN (fun s => f_X11_layHits_b57 N0 v1 v2 v3 v4 s.1 s.2) N (v5, I) = some out → Ex G mX11_layHits rmX11_layHits Q (0, 0) X I L 57 [(0, .ref (gB G + 99)), (1, .int v1), (2, .int v2), (3, .int v3), (4, .int v4), (5, .int v5)] [] := by
  intro N
  induction N with
  | zero => intro v5 I hf; exact absurd (loopN_zero hf) id
  | succ n ih =>
    intro v5 I hf
    rcases loopN_succ hf with ⟨s, hb, hl⟩ | hb
    · obtain ⟨v5', I'⟩ := s
      refine k_X11_layHits_b57 hO  hb (fun _ _ he => ?_) (fun _ he => by cases he)
      cases he
      exact ih v5' I' hl
    · exact k_X11_layHits_b57 hO  hb (fun _ _ he => by cases he) (fun x0 he => hX x0 (Sum.inr.inj he))
def f_X11_layHits_b39 (N : Nat) (v1 : Int32) (v2 : Int32) (v3 : Int32) (I : MI) : Option ((Int32 × MI) ⊕ (MI)) := (if v3 < (jshl 1 v2) then bnd1 (f_X11_ones N v3) fun r11 => bnd1 (f_X11_layHits_l57 N v1 v2 v3 (r11 - 1) 0 I) fun I27 => some (.inl (v3 + 1, I27)) else some (.inr I))
set_option maxRecDepth 100000 in
set_option maxHeartbeats 4000000 in
theorem k_X11_layHits_b39 {G : GX} {Q : State → Prop} {X : MX} (hO : shX11 X) {v1 : Int32} {v2 : Int32}  {v3 : Int32} {N : Nat} {I : MI} {L : ML} {out : (Int32 × MI) ⊕ (MI)} (hf : f_X11_layHits_b39 N v1 v2 v3 I = some out) (hC : ∀ (v3' : Int32) (I' : MI), out = .inl (v3', I') → Ex G mX11_layHits rmX11_layHits Q (0, 0) X I' L 39 [(0, .ref (gB G + 99)), (1, .int v1), (2, .int v2), (3, .int v3')] []) (hX : ∀ (I' : MI), out = .inr I' → Ex G mX11_layHits rmX11_layHits Q (0, 0) X I' L 158 [] []) : Ex G mX11_layHits rmX11_layHits Q (0, 0) X I L 39 [(0, .ref (gB G + 99)), (1, .int v1), (2, .int v2), (3, .int v3)] [] := by
  unfold f_X11_layHits_b39 at hf
  refine ex_iload_n 3 (pc' := 40) dX11_layHits_39 rfl rfl rfl ?_
  refine ex_iconst (v := 1) (pc' := 41) dX11_layHits_40 ic_1 rfl ?_
  refine ex_iload_n 2 (pc' := 42) dX11_layHits_41 rfl rfl rfl ?_
  refine ex_ishl (pc' := 43) dX11_layHits_42 rfl ?_
  refine ex_icmpge (tgt := 158) (pc' := 46) dX11_layHits_43 (by decide) rfl (fun hc10 => ?_) (fun hc10 => ?_)
  · replace hf := if_t hc10 hf
    refine ex_iload_n 3 (pc' := 47) dX11_layHits_46 rfl rfl rfl ?_
    obtain ⟨r11, hq12, hf⟩ := of_bnd1 hf
    refine ex_callS_i (rm' := rmX11_ones) (st := []) (pc' := 50) [.int v3] dX11_layHits_47 cl_X11_172 (k_X11_ones G hq12) rfl rfl rfl (ROOM_of rfl) (Nat.le_of_ble_eq_true rfl) rfl rfl ?_
    refine ex_iconst (v := 1) (pc' := 51) dX11_layHits_50 ic_1 rfl ?_
    refine ex_isub (pc' := 52) dX11_layHits_51 rfl ?_
    refine ex_istore (lv' := [(4, .int (r11 - 1)), (0, .ref (gB G + 99)), (1, .int v1), (2, .int v2), (3, .int v3)]) (pc' := 54) dX11_layHits_52 (Nat.le_of_ble_eq_true rfl) rfl rfl ?_
    refine ex_iconst (v := 0) (pc' := 55) dX11_layHits_54 ic_0 rfl ?_
    refine ex_istore (lv' := [(5, .int 0), (4, .int (r11 - 1)), (0, .ref (gB G + 99)), (1, .int v1), (2, .int v2), (3, .int v3)]) (pc' := 57) dX11_layHits_55 (Nat.le_of_ble_eq_true rfl) rfl rfl ?_
    refine ex_sub (lv' := [(0, .ref (gB G + 99)), (1, .int v1), (2, .int v2), (3, .int v3), (4, .int (r11 - 1)), (5, .int 0)]) [2, 3, 4, 5, 1, 0] rfl ?_
    obtain ⟨I27, hq28, hf⟩ := of_bnd1 hf
    refine k_X11_layHits_l57 hO (fun I27' he => ?_) _ _ _ hq28
    cases he
    refine ex_iincc (lv' := [(3, .int (v3 + 1)), (0, .ref (gB G + 99)), (1, .int v1), (2, .int v2)]) 3 (pc' := 155) dX11_layHits_152 rfl ic_1 (Nat.le_of_ble_eq_true rfl) rfl rfl ?_
    refine ex_goto (tgt := 39) dX11_layHits_155 (by decide) ?_
    exact ex_sub [1, 2, 3, 0] rfl (hC _ _ (Option.some.inj hf).symm)
  · replace hf := if_f hc10 hf
    exact ex_sub [] rfl (hX _ (Option.some.inj hf).symm)
def f_X11_layHits_l39 (N : Nat) (v1 : Int32) (v2 : Int32) (v3 : Int32) (I : MI) : Option (MI) := loopN (fun s => f_X11_layHits_b39 N v1 v2 s.1 s.2) N (v3, I)
set_option maxRecDepth 100000 in
set_option maxHeartbeats 4000000 in
theorem k_X11_layHits_l39 {G : GX} {Q : State → Prop} {X : MX} (hO : shX11 X) {v1 : Int32} {v2 : Int32}  {N0 : Nat} {L : ML} {out : (MI)} (hX : ∀ (I' : MI), out = I' → Ex G mX11_layHits rmX11_layHits Q (0, 0) X I' L 158 [] []) : ∀ (N : Nat) (v3 : Int32) (I : MI), loopN (fun s => f_X11_layHits_b39 N0 v1 v2 s.1 s.2) N (v3, I) = some out → Ex G mX11_layHits rmX11_layHits Q (0, 0) X I L 39 [(0, .ref (gB G + 99)), (1, .int v1), (2, .int v2), (3, .int v3)] [] := by
  intro N
  induction N with
  | zero => intro v3 I hf; exact absurd (loopN_zero hf) id
  | succ n ih =>
    intro v3 I hf
    rcases loopN_succ hf with ⟨s, hb, hl⟩ | hb
    · obtain ⟨v3', I'⟩ := s
      refine k_X11_layHits_b39 hO  hb (fun _ _ he => ?_) (fun _ he => by cases he)
      cases he
      exact ih v3' I' hl
    · exact k_X11_layHits_b39 hO  hb (fun _ _ he => by cases he) (fun x0 he => hX x0 (Sum.inr.inj he))
def f_X11_layHits (N : Nat) (v1 : Int32) (I : MI) : Option (MI) := if inb v1 6 then bnd1 (f_X11_layHits_l9 N v1 (I 103 (Int32.toNatClampNeg v1)) 0 I) fun I8 => bnd1 (f_X11_layHits_l39 N v1 (I 103 (Int32.toNatClampNeg v1)) 1 I8) fun I29 => some I29 else none
set_option maxRecDepth 100000 in
set_option maxHeartbeats 4000000 in
theorem kb_X11_layHits {G : GX} {Q : State → Prop} {X : MX} (hO : shX11 X) {v1 : Int32}  {N : Nat} {I : MI} {L : ML} {out : MI} (hf : f_X11_layHits N v1 I = some out) (hR : ∀ (I' : MI), out = I' → Q = RetQ G none X I' L (0, 0)) : Ex G mX11_layHits rmX11_layHits Q (0, 0) X I L 0 [(0, .ref (gB G + 99)), (1, .int v1)] [] := by
  unfold f_X11_layHits at hf
  refine ex_aload_n 0 (pc' := 1) dX11_layHits_0 rfl rfl rfl ?_
  refine ex_getR (pc' := 4) dX11_layHits_1 fl_X11_22 rfl (sh11_k hO) (sh11_F3 hO) rfl ?_
  refine ex_iload_n 1 (pc' := 5) dX11_layHits_4 rfl rfl rfl ?_
  obtain ⟨hg1, hf⟩ := of_guard hf
  refine ex_iald (pc' := 6) dX11_layHits_5 (sh11_T3 hO) (inb_in hg1) rfl ?_
  refine ex_istore_n (lv' := [(2, .int (I 103 (Int32.toNatClampNeg v1))), (0, .ref (gB G + 99)), (1, .int v1)]) (pc' := 7) dX11_layHits_6 rfl (Nat.le_of_ble_eq_true rfl) rfl rfl ?_
  refine ex_iconst (v := 0) (pc' := 8) dX11_layHits_7 ic_0 rfl ?_
  refine ex_istore_n (lv' := [(3, .int 0), (2, .int (I 103 (Int32.toNatClampNeg v1))), (0, .ref (gB G + 99)), (1, .int v1)]) (pc' := 9) dX11_layHits_8 rfl (Nat.le_of_ble_eq_true rfl) rfl rfl ?_
  refine ex_sub (lv' := [(0, .ref (gB G + 99)), (1, .int v1), (2, .int (I 103 (Int32.toNatClampNeg v1))), (3, .int 0)]) [2, 3, 1, 0] rfl ?_
  obtain ⟨I8, hq9, hf⟩ := of_bnd1 hf
  refine k_X11_layHits_l9 hO (fun I8' he => ?_) _ _ _ hq9
  cases he
  refine ex_iconst (v := 1) (pc' := 38) dX11_layHits_37 ic_1 rfl ?_
  refine ex_istore_n (lv' := [(3, .int 1), (0, .ref (gB G + 99)), (1, .int v1), (2, .int (I 103 (Int32.toNatClampNeg v1)))]) (pc' := 39) dX11_layHits_38 rfl (Nat.le_of_ble_eq_true rfl) rfl rfl ?_
  refine ex_sub (lv' := [(0, .ref (gB G + 99)), (1, .int v1), (2, .int (I 103 (Int32.toNatClampNeg v1))), (3, .int 1)]) [1, 2, 3, 0] rfl ?_
  obtain ⟨I29, hq30, hf⟩ := of_bnd1 hf
  refine k_X11_layHits_l39 hO (fun I29' he => ?_) _ _ _ hq30
  cases he
  exact ex_vret dX11_layHits_158 rfl (hR _ (Option.some.inj hf).symm)
set_option maxRecDepth 100000 in
set_option maxHeartbeats 4000000 in
theorem k_X11_layHits (G : GX) {X : MX} (hO : shX11 X) {v1 : Int32}  {N : Nat} {I : MI} {L : ML} {I' : MI} (hf : f_X11_layHits N v1 I = some I') : Con G mX11_layHits yX11_layHits rmX11_layHits (fun B => [.ref (B + 99), .int v1]) X I L none X I' L :=
  Con.of (by decide) rfl (fun h => by cases h) (fun B => Nat.le_of_ble_eq_true rfl) (fun G => kb_X11_layHits hO  hf (fun _ he => by cases he; rfl))
-- X11_hitsOf ('RookWordsModel', 'hitsOf', '(II)I')
def rmX11_hitsOf : RM := ((0, 0, 0, 0), false, (some FieldType.int))
def f_X11_hitsOf (v1 : Int32) (v2 : Int32) (I : MI) : Option (Int32) := (if v2 < 7 then if inb v1 6 then if inb ((7 * ((jshl 1 (I 103 (Int32.toNatClampNeg v1))) - 1)) + v2) 448 then some (I 131 (Int32.toNatClampNeg ((7 * ((jshl 1 (I 103 (Int32.toNatClampNeg v1))) - 1)) + v2))) else none else none else some 0)
set_option maxRecDepth 100000 in
set_option maxHeartbeats 4000000 in
theorem kb_X11_hitsOf {G : GX} {Q : State → Prop} {X : MX} (hO : shX11 X) {v1 : Int32} {v2 : Int32}  {I : MI} {L : ML} {out : Int32} (hf : f_X11_hitsOf v1 v2 I = some out) (hR : ∀ (z : Int32), out = z → Q = RetQ G (some (.int z)) X I L (0, 0)) : Ex G mX11_hitsOf rmX11_hitsOf Q (0, 0) X I L 0 [(0, .ref (gB G + 99)), (1, .int v1), (2, .int v2)] [] := by
  unfold f_X11_hitsOf at hf
  refine ex_iload_n 2 (pc' := 1) dX11_hitsOf_0 rfl rfl rfl ?_
  refine ex_bipush (v := 7) (pc' := 3) dX11_hitsOf_1 bp_7 rfl ?_
  refine ex_icmpge (tgt := 29) (pc' := 6) dX11_hitsOf_3 (by decide) rfl (fun hc1 => ?_) (fun hc1 => ?_)
  · replace hf := if_t hc1 hf
    refine ex_aload_n 0 (pc' := 7) dX11_hitsOf_6 rfl rfl rfl ?_
    refine ex_getR (pc' := 10) dX11_hitsOf_7 fl_X11_106 rfl (sh11_k hO) (sh11_F37 hO) rfl ?_
    refine ex_bipush (v := 7) (pc' := 12) dX11_hitsOf_10 bp_7 rfl ?_
    refine ex_iconst (v := 1) (pc' := 13) dX11_hitsOf_12 ic_1 rfl ?_
    refine ex_aload_n 0 (pc' := 14) dX11_hitsOf_13 rfl rfl rfl ?_
    refine ex_getR (pc' := 17) dX11_hitsOf_14 fl_X11_22 rfl (sh11_k hO) (sh11_F3 hO) rfl ?_
    refine ex_iload_n 1 (pc' := 18) dX11_hitsOf_17 rfl rfl rfl ?_
    obtain ⟨hg2, hf⟩ := of_guard hf
    refine ex_iald (pc' := 19) dX11_hitsOf_18 (sh11_T3 hO) (inb_in hg2) rfl ?_
    refine ex_ishl (pc' := 20) dX11_hitsOf_19 rfl ?_
    refine ex_iconst (v := 1) (pc' := 21) dX11_hitsOf_20 ic_1 rfl ?_
    refine ex_isub (pc' := 22) dX11_hitsOf_21 rfl ?_
    refine ex_imul (pc' := 23) dX11_hitsOf_22 rfl ?_
    refine ex_iload_n 2 (pc' := 24) dX11_hitsOf_23 rfl rfl rfl ?_
    refine ex_iadd (pc' := 25) dX11_hitsOf_24 rfl ?_
    obtain ⟨hg3, hf⟩ := of_guard hf
    refine ex_iald (pc' := 26) dX11_hitsOf_25 (sh11_T37 hO) (inb_in hg3) rfl ?_
    refine ex_goto (tgt := 30) dX11_hitsOf_26 (by decide) ?_
    exact ex_iret dX11_hitsOf_30 rfl (hR _ (Option.some.inj hf).symm)
  · replace hf := if_f hc1 hf
    refine ex_iconst (v := 0) (pc' := 30) dX11_hitsOf_29 ic_0 rfl ?_
    exact ex_iret dX11_hitsOf_30 rfl (hR _ (Option.some.inj hf).symm)
set_option maxRecDepth 100000 in
set_option maxHeartbeats 4000000 in
theorem k_X11_hitsOf (G : GX) {X : MX} (hO : shX11 X) {v1 : Int32} {v2 : Int32}  {I : MI} {L : ML} {z : Int32} (hf : f_X11_hitsOf v1 v2 I = some z) : Con G mX11_hitsOf yX11_hitsOf rmX11_hitsOf (fun B => [.ref (B + 99), .int v1, .int v2]) X I L (some (.int z)) X I L :=
  Con.of (by decide) rfl (fun h => by cases h) (fun B => Nat.le_of_ble_eq_true rfl) (fun G => kb_X11_hitsOf hO  hf (fun _ he => by cases he; rfl))
theorem cl_X11_196 : CLV RX11 196 yX11_layHits mX11_layHits none 1 := ⟨⟨lwg_at 1234 (by decide +kernel) rfl, lwg_at 1236 (by decide +kernel) rfl, lwg_at 29 (by decide +kernel) rfl, lwg_at 61 (by decide +kernel) rfl⟩, lwg_at 1237 (by decide +kernel) rfl, ⟨by decide +kernel, by decide +kernel, by decide +kernel⟩⟩
theorem cl_X11_199 : CLV RX11 199 yX11_hitsOf mX11_hitsOf (some FieldType.int) 2 := ⟨⟨lwg_at 1238 (by decide +kernel) rfl, lwg_at 1240 (by decide +kernel) rfl, lwg_at 30 (by decide +kernel) rfl, lwg_at 61 (by decide +kernel) rfl⟩, lwg_at 1241 (by decide +kernel) rfl, ⟨by decide +kernel, by decide +kernel, by decide +kernel⟩⟩
-- X11_hits ('RookWordsModel', 'hits', '(II)I')
def rmX11_hits : RM := ((2, 50, 0, 0), false, (some FieldType.int))
def f_X11_hits (N : Nat) (v1 : Int32) (v2 : Int32) (I : MI) : Option (Int32 × MI) := bnd1 (f_X11_isSix v1) fun r1 => (if r1 = 0 then some ((-1), I) else (if v2 < 0 then some ((-1), I) else bnd1 (f_X11_layHits N v1 I) fun I5 => bnd1 (f_X11_hitsOf v1 v2 I5) fun r7 => some (r7, I5)))
set_option maxRecDepth 100000 in
set_option maxHeartbeats 4000000 in
theorem kb_X11_hits {G : GX} {Q : State → Prop} {X : MX} (hO : shX11 X) {v1 : Int32} {v2 : Int32}  {N : Nat} {I : MI} {L : ML} {out : Int32 × MI} (hf : f_X11_hits N v1 v2 I = some out) (hR : ∀ (z : Int32) (I' : MI), out = (z, I') → Q = RetQ G (some (.int z)) X I' L (0, 0)) : Ex G mX11_hits rmX11_hits Q (0, 0) X I L 0 [(0, .ref (gB G + 99)), (1, .int v1), (2, .int v2)] [] := by
  unfold f_X11_hits at hf
  refine ex_iload_n 1 (pc' := 1) dX11_hits_0 rfl rfl rfl ?_
  obtain ⟨r1, hq2, hf⟩ := of_bnd1 hf
  refine ex_callS_i (rm' := rmX11_isSix) (st := []) (pc' := 4) [.int v1] dX11_hits_1 cl_X11_133 (k_X11_isSix G hq2) rfl rfl rfl (ROOM_of rfl) (Nat.le_of_ble_eq_true rfl) rfl rfl ?_
  refine ex_ifeq (tgt := 11) (pc' := 7) dX11_hits_4 (by decide) rfl (fun hc3 => ?_) (fun hc3 => ?_)
  · replace hf := if_t hc3 hf
    refine ex_iconst (v := (-1)) (pc' := 12) dX11_hits_11 ic_m1 rfl ?_
    exact ex_iret dX11_hits_12 rfl (hR _ _ (Option.some.inj hf).symm)
  · replace hf := if_f hc3 hf
    refine ex_iload_n 2 (pc' := 8) dX11_hits_7 rfl rfl rfl ?_
    refine ex_ifge (tgt := 13) (pc' := 11) dX11_hits_8 (by decide) rfl (fun hc4 => ?_) (fun hc4 => ?_)
    · replace hf := if_t hc4 hf
      refine ex_iconst (v := (-1)) (pc' := 12) dX11_hits_11 ic_m1 rfl ?_
      exact ex_iret dX11_hits_12 rfl (hR _ _ (Option.some.inj hf).symm)
    · replace hf := if_f hc4 hf
      refine ex_aload_n 0 (pc' := 14) dX11_hits_13 rfl rfl rfl ?_
      refine ex_iload_n 1 (pc' := 15) dX11_hits_14 rfl rfl rfl ?_
      obtain ⟨I5, hq6, hf⟩ := of_bnd1 hf
      refine ex_callV_v (rm' := rmX11_layHits) (st := []) (pc' := 18) [.int v1] dX11_hits_15 cl_X11_196 (k_X11_layHits G hO hq6) rfl (sh11_k hO) ⟨_, _, rfl⟩ rfl rfl (ROOM_of rfl) (Nat.le_of_ble_eq_true rfl) rfl rfl ?_
      refine ex_aload_n 0 (pc' := 19) dX11_hits_18 rfl rfl rfl ?_
      refine ex_iload_n 1 (pc' := 20) dX11_hits_19 rfl rfl rfl ?_
      refine ex_iload_n 2 (pc' := 21) dX11_hits_20 rfl rfl rfl ?_
      obtain ⟨r7, hq8, hf⟩ := of_bnd1 hf
      refine ex_callV_i (rm' := rmX11_hitsOf) (st := []) (pc' := 24) [.int v1, .int v2] dX11_hits_21 cl_X11_199 (k_X11_hitsOf G hO hq8) rfl (sh11_k hO) ⟨_, _, rfl⟩ rfl rfl (ROOM_of rfl) (Nat.le_of_ble_eq_true rfl) rfl rfl ?_
      exact ex_iret dX11_hits_24 rfl (hR _ _ (Option.some.inj hf).symm)
set_option maxRecDepth 100000 in
set_option maxHeartbeats 4000000 in
theorem k_X11_hits (G : GX) {X : MX} (hO : shX11 X) {v1 : Int32} {v2 : Int32}  {N : Nat} {I : MI} {L : ML} {z : Int32} {I' : MI} (hf : f_X11_hits N v1 v2 I = some (z, I')) : Con G mX11_hits yX11_hits rmX11_hits (fun B => [.ref (B + 99), .int v1, .int v2]) X I L (some (.int z)) X I' L :=
  Con.of (by decide) rfl (fun h => by cases h) (fun B => Nat.le_of_ble_eq_true rfl) (fun G => kb_X11_hits hO  hf (fun _ _ he => by cases he; rfl))
theorem fl_X11_316 : FLD RX11 316 11 20 false := ⟨RX11, TX11, 51, rfl, inX11, by decide, lwg_at 954 (by decide +kernel) rfl, nmX11, tyX11_ok, rfl, rfl⟩
theorem fl_X11_61 : FLD RX11 61 11 21 true := ⟨RX11, TX11, 51, rfl, inX11, by decide, lwg_at 955 (by decide +kernel) rfl, nmX11, tyX11_ok, rfl, rfl⟩
theorem fl_X11_70 : FLD RX11 70 11 24 true := ⟨RX11, TX11, 51, rfl, inX11, by decide, lwg_at 958 (by decide +kernel) rfl, nmX11, tyX11_ok, rfl, rfl⟩
theorem bp_72 : (Int8.ofInt 72).toInt32 = 72 := by decide
theorem fl_X11_64 : FLD RX11 64 11 22 true := ⟨RX11, TX11, 51, rfl, inX11, by decide, lwg_at 956 (by decide +kernel) rfl, nmX11, tyX11_ok, rfl, rfl⟩
theorem fl_X11_67 : FLD RX11 67 11 23 true := ⟨RX11, TX11, 51, rfl, inX11, by decide, lwg_at 957 (by decide +kernel) rfl, nmX11, tyX11_ok, rfl, rfl⟩
theorem bp_36 : (Int8.ofInt 36).toInt32 = 36 := by decide
theorem fl_X11_73 : FLD RX11 73 11 25 true := ⟨RX11, TX11, 51, rfl, inX11, by decide, lwg_at 959 (by decide +kernel) rfl, nmX11, tyX11_ok, rfl, rfl⟩
theorem fl_X11_76 : FLD RX11 76 11 26 true := ⟨RX11, TX11, 51, rfl, inX11, by decide, lwg_at 960 (by decide +kernel) rfl, nmX11, tyX11_ok, rfl, rfl⟩
theorem fl_X11_320 : FLD RX11 320 11 27 false := ⟨RX11, TX11, 51, rfl, inX11, by decide, lwg_at 961 (by decide +kernel) rfl, nmX11, tyX11_ok, rfl, rfl⟩
theorem fl_X11_79 : FLD RX11 79 11 28 true := ⟨RX11, TX11, 51, rfl, inX11, by decide, lwg_at 962 (by decide +kernel) rfl, nmX11, tyX11_ok, rfl, rfl⟩
theorem fl_X11_82 : FLD RX11 82 11 29 true := ⟨RX11, TX11, 51, rfl, inX11, by decide, lwg_at 963 (by decide +kernel) rfl, nmX11, tyX11_ok, rfl, rfl⟩
theorem cl_X11_323 : CLV RX11 323 yX11_allLetters mX11_allLetters (some FieldType.int) 0 := ⟨⟨lwg_at 1410 (by decide +kernel) rfl, lwg_at 1412 (by decide +kernel) rfl, lwg_at 48 (by decide +kernel) rfl, lwg_at 61 (by decide +kernel) rfl⟩, lwg_at 1413 (by decide +kernel) rfl, ⟨by decide +kernel, by decide +kernel, by decide +kernel⟩⟩
-- X11_image ('RookWordsModel', 'image', '()I')
def rmX11_image : RM := ((1, 22, 0, 0), false, (some FieldType.int))
def f_X11_image_b7 (N : Nat)  (v1 : Int32) (I : MI) : Option ((Int32 × MI) ⊕ (MI)) := (if v1 < 6 then if inb v1 6 then if inb v1 6 then letv (upI I 116 (Int32.toNatClampNeg v1) (I 100 (Int32.toNatClampNeg v1))) fun I5 => if inb v1 6 then if inb v1 6 then letv (upI I5 119 (Int32.toNatClampNeg v1) (I5 103 (Int32.toNatClampNeg v1))) fun I8 => some (.inl (v1 + 1, I8)) else none else none else none else none else some (.inr I))
set_option maxRecDepth 100000 in
set_option maxHeartbeats 4000000 in
theorem k_X11_image_b7 {G : GX} {Q : State → Prop} {X : MX} (hO : shX11 X)   {v1 : Int32} {N : Nat} {I : MI} {L : ML} {out : (Int32 × MI) ⊕ (MI)} (hf : f_X11_image_b7 N v1 I = some out) (hC : ∀ (v1' : Int32) (I' : MI), out = .inl (v1', I') → Ex G mX11_image rmX11_image Q (0, 0) X I' L 7 [(0, .ref (gB G + 99)), (1, .int v1')] []) (hX : ∀ (I' : MI), out = .inr I' → Ex G mX11_image rmX11_image Q (0, 0) X I' L 43 [(0, .ref (gB G + 99))] []) : Ex G mX11_image rmX11_image Q (0, 0) X I L 7 [(0, .ref (gB G + 99)), (1, .int v1)] [] := by
  unfold f_X11_image_b7 at hf
  refine ex_iload_n 1 (pc' := 8) dX11_image_7 rfl rfl rfl ?_
  refine ex_bipush (v := 6) (pc' := 10) dX11_image_8 bp_6 rfl ?_
  refine ex_icmpge (tgt := 43) (pc' := 13) dX11_image_10 (by decide) rfl (fun hc2 => ?_) (fun hc2 => ?_)
  · replace hf := if_t hc2 hf
    refine ex_aload_n 0 (pc' := 14) dX11_image_13 rfl rfl rfl ?_
    refine ex_getR (pc' := 17) dX11_image_14 fl_X11_61 rfl (sh11_k hO) (sh11_F21 hO) rfl ?_
    refine ex_iload_n 1 (pc' := 18) dX11_image_17 rfl rfl rfl ?_
    refine ex_aload_n 0 (pc' := 19) dX11_image_18 rfl rfl rfl ?_
    refine ex_getR (pc' := 22) dX11_image_19 fl_X11_9 rfl (sh11_k hO) (sh11_F0 hO) rfl ?_
    refine ex_iload_n 1 (pc' := 23) dX11_image_22 rfl rfl rfl ?_
    obtain ⟨hg3, hf⟩ := of_guard hf
    refine ex_iald (pc' := 24) dX11_image_23 (sh11_T0 hO) (inb_in hg3) rfl ?_
    obtain ⟨hg4, hf⟩ := of_guard hf
    refine ex_iast (pc' := 25) dX11_image_24 (sh11_T21 hO) (inb_in hg4) rfl ?_
    obtain ⟨I5, hI5, hf⟩ := of_let hf
    rw [← hI5]
    refine ex_aload_n 0 (pc' := 26) dX11_image_25 rfl rfl rfl ?_
    refine ex_getR (pc' := 29) dX11_image_26 fl_X11_70 rfl (sh11_k hO) (sh11_F24 hO) rfl ?_
    refine ex_iload_n 1 (pc' := 30) dX11_image_29 rfl rfl rfl ?_
    refine ex_aload_n 0 (pc' := 31) dX11_image_30 rfl rfl rfl ?_
    refine ex_getR (pc' := 34) dX11_image_31 fl_X11_22 rfl (sh11_k hO) (sh11_F3 hO) rfl ?_
    refine ex_iload_n 1 (pc' := 35) dX11_image_34 rfl rfl rfl ?_
    obtain ⟨hg6, hf⟩ := of_guard hf
    refine ex_iald (pc' := 36) dX11_image_35 (sh11_T3 hO) (inb_in hg6) rfl ?_
    obtain ⟨hg7, hf⟩ := of_guard hf
    refine ex_iast (pc' := 37) dX11_image_36 (sh11_T24 hO) (inb_in hg7) rfl ?_
    obtain ⟨I8, hI8, hf⟩ := of_let hf
    rw [← hI8]
    refine ex_iincc (lv' := [(1, .int (v1 + 1)), (0, .ref (gB G + 99))]) 1 (pc' := 40) dX11_image_37 rfl ic_1 (Nat.le_of_ble_eq_true rfl) rfl rfl ?_
    refine ex_goto (tgt := 7) dX11_image_40 (by decide) ?_
    exact ex_sub [1, 0] rfl (hC _ _ (Option.some.inj hf).symm)
  · replace hf := if_f hc2 hf
    exact ex_sub [0] rfl (hX _ (Option.some.inj hf).symm)
def f_X11_image_l7 (N : Nat)  (v1 : Int32) (I : MI) : Option (MI) := loopN (fun s => f_X11_image_b7 N s.1 s.2) N (v1, I)
set_option maxRecDepth 100000 in
set_option maxHeartbeats 4000000 in
theorem k_X11_image_l7 {G : GX} {Q : State → Prop} {X : MX} (hO : shX11 X)   {N0 : Nat} {L : ML} {out : (MI)} (hX : ∀ (I' : MI), out = I' → Ex G mX11_image rmX11_image Q (0, 0) X I' L 43 [(0, .ref (gB G + 99))] []) : ∀ (N : Nat) (v1 : Int32) (I : MI), loopN (fun s => f_X11_image_b7 N0 s.1 s.2) N (v1, I) = some out → Ex G mX11_image rmX11_image Q (0, 0) X I L 7 [(0, .ref (gB G + 99)), (1, .int v1)] [] := by
  intro N
  induction N with
  | zero => intro v1 I hf; exact absurd (loopN_zero hf) id
  | succ n ih =>
    intro v1 I hf
    rcases loopN_succ hf with ⟨s, hb, hl⟩ | hb
    · obtain ⟨v1', I'⟩ := s
      refine k_X11_image_b7 hO  hb (fun _ _ he => ?_) (fun _ he => by cases he)
      cases he
      exact ih v1' I' hl
    · exact k_X11_image_b7 hO  hb (fun _ _ he => by cases he) (fun x0 he => hX x0 (Sum.inr.inj he))
def f_X11_image_b45 (N : Nat)  (v1 : Int32) (I : MI) : Option ((Int32 × MI) ⊕ (MI)) := (if v1 < 72 then if inb v1 72 then if inb v1 72 then letv (upI I 117 (Int32.toNatClampNeg v1) (I 101 (Int32.toNatClampNeg v1))) fun I14 => some (.inl (v1 + 1, I14)) else none else none else some (.inr I))
set_option maxRecDepth 100000 in
set_option maxHeartbeats 4000000 in
theorem k_X11_image_b45 {G : GX} {Q : State → Prop} {X : MX} (hO : shX11 X)   {v1 : Int32} {N : Nat} {I : MI} {L : ML} {out : (Int32 × MI) ⊕ (MI)} (hf : f_X11_image_b45 N v1 I = some out) (hC : ∀ (v1' : Int32) (I' : MI), out = .inl (v1', I') → Ex G mX11_image rmX11_image Q (0, 0) X I' L 45 [(0, .ref (gB G + 99)), (1, .int v1')] []) (hX : ∀ (I' : MI), out = .inr I' → Ex G mX11_image rmX11_image Q (0, 0) X I' L 69 [(0, .ref (gB G + 99))] []) : Ex G mX11_image rmX11_image Q (0, 0) X I L 45 [(0, .ref (gB G + 99)), (1, .int v1)] [] := by
  unfold f_X11_image_b45 at hf
  refine ex_iload_n 1 (pc' := 46) dX11_image_45 rfl rfl rfl ?_
  refine ex_bipush (v := 72) (pc' := 48) dX11_image_46 bp_72 rfl ?_
  refine ex_icmpge (tgt := 69) (pc' := 51) dX11_image_48 (by decide) rfl (fun hc11 => ?_) (fun hc11 => ?_)
  · replace hf := if_t hc11 hf
    refine ex_aload_n 0 (pc' := 52) dX11_image_51 rfl rfl rfl ?_
    refine ex_getR (pc' := 55) dX11_image_52 fl_X11_64 rfl (sh11_k hO) (sh11_F22 hO) rfl ?_
    refine ex_iload_n 1 (pc' := 56) dX11_image_55 rfl rfl rfl ?_
    refine ex_aload_n 0 (pc' := 57) dX11_image_56 rfl rfl rfl ?_
    refine ex_getR (pc' := 60) dX11_image_57 fl_X11_15 rfl (sh11_k hO) (sh11_F1 hO) rfl ?_
    refine ex_iload_n 1 (pc' := 61) dX11_image_60 rfl rfl rfl ?_
    obtain ⟨hg12, hf⟩ := of_guard hf
    refine ex_iald (pc' := 62) dX11_image_61 (sh11_T1 hO) (inb_in hg12) rfl ?_
    obtain ⟨hg13, hf⟩ := of_guard hf
    refine ex_iast (pc' := 63) dX11_image_62 (sh11_T22 hO) (inb_in hg13) rfl ?_
    obtain ⟨I14, hI14, hf⟩ := of_let hf
    rw [← hI14]
    refine ex_iincc (lv' := [(1, .int (v1 + 1)), (0, .ref (gB G + 99))]) 1 (pc' := 66) dX11_image_63 rfl ic_1 (Nat.le_of_ble_eq_true rfl) rfl rfl ?_
    refine ex_goto (tgt := 45) dX11_image_66 (by decide) ?_
    exact ex_sub [1, 0] rfl (hC _ _ (Option.some.inj hf).symm)
  · replace hf := if_f hc11 hf
    exact ex_sub [0] rfl (hX _ (Option.some.inj hf).symm)
def f_X11_image_l45 (N : Nat)  (v1 : Int32) (I : MI) : Option (MI) := loopN (fun s => f_X11_image_b45 N s.1 s.2) N (v1, I)
set_option maxRecDepth 100000 in
set_option maxHeartbeats 4000000 in
theorem k_X11_image_l45 {G : GX} {Q : State → Prop} {X : MX} (hO : shX11 X)   {N0 : Nat} {L : ML} {out : (MI)} (hX : ∀ (I' : MI), out = I' → Ex G mX11_image rmX11_image Q (0, 0) X I' L 69 [(0, .ref (gB G + 99))] []) : ∀ (N : Nat) (v1 : Int32) (I : MI), loopN (fun s => f_X11_image_b45 N0 s.1 s.2) N (v1, I) = some out → Ex G mX11_image rmX11_image Q (0, 0) X I L 45 [(0, .ref (gB G + 99)), (1, .int v1)] [] := by
  intro N
  induction N with
  | zero => intro v1 I hf; exact absurd (loopN_zero hf) id
  | succ n ih =>
    intro v1 I hf
    rcases loopN_succ hf with ⟨s, hb, hl⟩ | hb
    · obtain ⟨v1', I'⟩ := s
      refine k_X11_image_b45 hO  hb (fun _ _ he => ?_) (fun _ he => by cases he)
      cases he
      exact ih v1' I' hl
    · exact k_X11_image_b45 hO  hb (fun _ _ he => by cases he) (fun x0 he => hX x0 (Sum.inr.inj he))
def f_X11_image_b71 (N : Nat)  (v1 : Int32) (L : ML) : Option ((Int32 × ML) ⊕ (ML)) := (if v1 < 169 then if inb v1 169 then if inb v1 169 then letv (upL L 118 (Int32.toNatClampNeg v1) (L 102 (Int32.toNatClampNeg v1))) fun L20 => some (.inl (v1 + 1, L20)) else none else none else some (.inr L))
set_option maxRecDepth 100000 in
set_option maxHeartbeats 4000000 in
theorem k_X11_image_b71 {G : GX} {Q : State → Prop} {X : MX} (hO : shX11 X)   {v1 : Int32} {N : Nat} {I : MI} {L : ML} {out : (Int32 × ML) ⊕ (ML)} (hf : f_X11_image_b71 N v1 L = some out) (hC : ∀ (v1' : Int32) (L' : ML), out = .inl (v1', L') → Ex G mX11_image rmX11_image Q (0, 0) X I L' 71 [(0, .ref (gB G + 99)), (1, .int v1')] []) (hX : ∀ (L' : ML), out = .inr L' → Ex G mX11_image rmX11_image Q (0, 0) X I L' 96 [(0, .ref (gB G + 99))] []) : Ex G mX11_image rmX11_image Q (0, 0) X I L 71 [(0, .ref (gB G + 99)), (1, .int v1)] [] := by
  unfold f_X11_image_b71 at hf
  refine ex_iload_n 1 (pc' := 72) dX11_image_71 rfl rfl rfl ?_
  refine ex_sipush (v := 169) (pc' := 75) dX11_image_72 sp_169 rfl ?_
  refine ex_icmpge (tgt := 96) (pc' := 78) dX11_image_75 (by decide) rfl (fun hc17 => ?_) (fun hc17 => ?_)
  · replace hf := if_t hc17 hf
    refine ex_aload_n 0 (pc' := 79) dX11_image_78 rfl rfl rfl ?_
    refine ex_getR (pc' := 82) dX11_image_79 fl_X11_67 rfl (sh11_k hO) (sh11_F23 hO) rfl ?_
    refine ex_iload_n 1 (pc' := 83) dX11_image_82 rfl rfl rfl ?_
    refine ex_aload_n 0 (pc' := 84) dX11_image_83 rfl rfl rfl ?_
    refine ex_getR (pc' := 87) dX11_image_84 fl_X11_18 rfl (sh11_k hO) (sh11_F2 hO) rfl ?_
    refine ex_iload_n 1 (pc' := 88) dX11_image_87 rfl rfl rfl ?_
    obtain ⟨hg18, hf⟩ := of_guard hf
    refine ex_lald (pc' := 89) dX11_image_88 (sh11_T2 hO) (inb_in hg18) rfl ?_
    obtain ⟨hg19, hf⟩ := of_guard hf
    refine ex_last (pc' := 90) dX11_image_89 (sh11_T23 hO) (inb_in hg19) rfl ?_
    obtain ⟨L20, hL20, hf⟩ := of_let hf
    rw [← hL20]
    refine ex_iincc (lv' := [(1, .int (v1 + 1)), (0, .ref (gB G + 99))]) 1 (pc' := 93) dX11_image_90 rfl ic_1 (Nat.le_of_ble_eq_true rfl) rfl rfl ?_
    refine ex_goto (tgt := 71) dX11_image_93 (by decide) ?_
    exact ex_sub [1, 0] rfl (hC _ _ (Option.some.inj hf).symm)
  · replace hf := if_f hc17 hf
    exact ex_sub [0] rfl (hX _ (Option.some.inj hf).symm)
def f_X11_image_l71 (N : Nat)  (v1 : Int32) (L : ML) : Option (ML) := loopN (fun s => f_X11_image_b71 N s.1 s.2) N (v1, L)
set_option maxRecDepth 100000 in
set_option maxHeartbeats 4000000 in
theorem k_X11_image_l71 {G : GX} {Q : State → Prop} {X : MX} (hO : shX11 X)   {N0 : Nat} {I : MI} {out : (ML)} (hX : ∀ (L' : ML), out = L' → Ex G mX11_image rmX11_image Q (0, 0) X I L' 96 [(0, .ref (gB G + 99))] []) : ∀ (N : Nat) (v1 : Int32) (L : ML), loopN (fun s => f_X11_image_b71 N0 s.1 s.2) N (v1, L) = some out → Ex G mX11_image rmX11_image Q (0, 0) X I L 71 [(0, .ref (gB G + 99)), (1, .int v1)] [] := by
  intro N
  induction N with
  | zero => intro v1 L hf; exact absurd (loopN_zero hf) id
  | succ n ih =>
    intro v1 L hf
    rcases loopN_succ hf with ⟨s, hb, hl⟩ | hb
    · obtain ⟨v1', L'⟩ := s
      refine k_X11_image_b71 hO  hb (fun _ _ he => ?_) (fun _ he => by cases he)
      cases he
      exact ih v1' L' hl
    · exact k_X11_image_b71 hO  hb (fun _ _ he => by cases he) (fun x0 he => hX x0 (Sum.inr.inj he))
def f_X11_image_b98 (N : Nat)  (v1 : Int32) (I : MI) : Option ((Int32 × MI) ⊕ (MI)) := (if v1 < 36 then if inb v1 36 then if inb v1 36 then letv (upI I 120 (Int32.toNatClampNeg v1) (I 104 (Int32.toNatClampNeg v1))) fun I26 => if inb v1 36 then if inb v1 36 then letv (upI I26 121 (Int32.toNatClampNeg v1) (I26 105 (Int32.toNatClampNeg v1))) fun I29 => some (.inl (v1 + 1, I29)) else none else none else none else none else some (.inr I))
set_option maxRecDepth 100000 in
set_option maxHeartbeats 4000000 in
theorem k_X11_image_b98 {G : GX} {Q : State → Prop} {X : MX} (hO : shX11 X)   {v1 : Int32} {N : Nat} {I : MI} {L : ML} {out : (Int32 × MI) ⊕ (MI)} (hf : f_X11_image_b98 N v1 I = some out) (hC : ∀ (v1' : Int32) (I' : MI), out = .inl (v1', I') → Ex G mX11_image rmX11_image Q (0, 0) X I' L 98 [(0, .ref (gB G + 99)), (1, .int v1')] []) (hX : ∀ (I' : MI), out = .inr I' → Ex G mX11_image rmX11_image Q (0, 0) X I' L 134 [(0, .ref (gB G + 99))] []) : Ex G mX11_image rmX11_image Q (0, 0) X I L 98 [(0, .ref (gB G + 99)), (1, .int v1)] [] := by
  unfold f_X11_image_b98 at hf
  refine ex_iload_n 1 (pc' := 99) dX11_image_98 rfl rfl rfl ?_
  refine ex_bipush (v := 36) (pc' := 101) dX11_image_99 bp_36 rfl ?_
  refine ex_icmpge (tgt := 134) (pc' := 104) dX11_image_101 (by decide) rfl (fun hc23 => ?_) (fun hc23 => ?_)
  · replace hf := if_t hc23 hf
    refine ex_aload_n 0 (pc' := 105) dX11_image_104 rfl rfl rfl ?_
    refine ex_getR (pc' := 108) dX11_image_105 fl_X11_73 rfl (sh11_k hO) (sh11_F25 hO) rfl ?_
    refine ex_iload_n 1 (pc' := 109) dX11_image_108 rfl rfl rfl ?_
    refine ex_aload_n 0 (pc' := 110) dX11_image_109 rfl rfl rfl ?_
    refine ex_getR (pc' := 113) dX11_image_110 fl_X11_25 rfl (sh11_k hO) (sh11_F4 hO) rfl ?_
    refine ex_iload_n 1 (pc' := 114) dX11_image_113 rfl rfl rfl ?_
    obtain ⟨hg24, hf⟩ := of_guard hf
    refine ex_iald (pc' := 115) dX11_image_114 (sh11_T4 hO) (inb_in hg24) rfl ?_
    obtain ⟨hg25, hf⟩ := of_guard hf
    refine ex_iast (pc' := 116) dX11_image_115 (sh11_T25 hO) (inb_in hg25) rfl ?_
    obtain ⟨I26, hI26, hf⟩ := of_let hf
    rw [← hI26]
    refine ex_aload_n 0 (pc' := 117) dX11_image_116 rfl rfl rfl ?_
    refine ex_getR (pc' := 120) dX11_image_117 fl_X11_76 rfl (sh11_k hO) (sh11_F26 hO) rfl ?_
    refine ex_iload_n 1 (pc' := 121) dX11_image_120 rfl rfl rfl ?_
    refine ex_aload_n 0 (pc' := 122) dX11_image_121 rfl rfl rfl ?_
    refine ex_getR (pc' := 125) dX11_image_122 fl_X11_28 rfl (sh11_k hO) (sh11_F5 hO) rfl ?_
    refine ex_iload_n 1 (pc' := 126) dX11_image_125 rfl rfl rfl ?_
    obtain ⟨hg27, hf⟩ := of_guard hf
    refine ex_iald (pc' := 127) dX11_image_126 (sh11_T5 hO) (inb_in hg27) rfl ?_
    obtain ⟨hg28, hf⟩ := of_guard hf
    refine ex_iast (pc' := 128) dX11_image_127 (sh11_T26 hO) (inb_in hg28) rfl ?_
    obtain ⟨I29, hI29, hf⟩ := of_let hf
    rw [← hI29]
    refine ex_iincc (lv' := [(1, .int (v1 + 1)), (0, .ref (gB G + 99))]) 1 (pc' := 131) dX11_image_128 rfl ic_1 (Nat.le_of_ble_eq_true rfl) rfl rfl ?_
    refine ex_goto (tgt := 98) dX11_image_131 (by decide) ?_
    exact ex_sub [1, 0] rfl (hC _ _ (Option.some.inj hf).symm)
  · replace hf := if_f hc23 hf
    exact ex_sub [0] rfl (hX _ (Option.some.inj hf).symm)
def f_X11_image_l98 (N : Nat)  (v1 : Int32) (I : MI) : Option (MI) := loopN (fun s => f_X11_image_b98 N s.1 s.2) N (v1, I)
set_option maxRecDepth 100000 in
set_option maxHeartbeats 4000000 in
theorem k_X11_image_l98 {G : GX} {Q : State → Prop} {X : MX} (hO : shX11 X)   {N0 : Nat} {L : ML} {out : (MI)} (hX : ∀ (I' : MI), out = I' → Ex G mX11_image rmX11_image Q (0, 0) X I' L 134 [(0, .ref (gB G + 99))] []) : ∀ (N : Nat) (v1 : Int32) (I : MI), loopN (fun s => f_X11_image_b98 N0 s.1 s.2) N (v1, I) = some out → Ex G mX11_image rmX11_image Q (0, 0) X I L 98 [(0, .ref (gB G + 99)), (1, .int v1)] [] := by
  intro N
  induction N with
  | zero => intro v1 I hf; exact absurd (loopN_zero hf) id
  | succ n ih =>
    intro v1 I hf
    rcases loopN_succ hf with ⟨s, hb, hl⟩ | hb
    · obtain ⟨v1', I'⟩ := s
      refine k_X11_image_b98 hO  hb (fun _ _ he => ?_) (fun _ he => by cases he)
      cases he
      exact ih v1' I' hl
    · exact k_X11_image_b98 hO  hb (fun _ _ he => by cases he) (fun x0 he => hX x0 (Sum.inr.inj he))
def f_X11_image_b144 (N : Nat)  (v1 : Int32) (I : MI) : Option ((Int32 × MI) ⊕ (MI)) := (if v1 < 4 then if inb v1 4 then if inb v1 4 then letv (upI I 122 (Int32.toNatClampNeg v1) (I 106 (Int32.toNatClampNeg v1))) fun I36 => if inb v1 4 then if inb v1 4 then letv (upI I36 123 (Int32.toNatClampNeg v1) (I36 107 (Int32.toNatClampNeg v1))) fun I39 => some (.inl (v1 + 1, I39)) else none else none else none else none else some (.inr I))
set_option maxRecDepth 100000 in
set_option maxHeartbeats 4000000 in
theorem k_X11_image_b144 {G : GX} {Q : State → Prop} {X : MX} (hO : shX11 X)   {v1 : Int32} {N : Nat} {I : MI} {L : ML} {out : (Int32 × MI) ⊕ (MI)} (hf : f_X11_image_b144 N v1 I = some out) (hC : ∀ (v1' : Int32) (I' : MI), out = .inl (v1', I') → Ex G mX11_image rmX11_image Q (0, 0) X I' L 144 [(0, .ref (gB G + 99)), (1, .int v1')] []) (hX : ∀ (I' : MI), out = .inr I' → Ex G mX11_image rmX11_image Q (0, 0) X I' L 179 [(0, .ref (gB G + 99))] []) : Ex G mX11_image rmX11_image Q (0, 0) X I L 144 [(0, .ref (gB G + 99)), (1, .int v1)] [] := by
  unfold f_X11_image_b144 at hf
  refine ex_iload_n 1 (pc' := 145) dX11_image_144 rfl rfl rfl ?_
  refine ex_iconst (v := 4) (pc' := 146) dX11_image_145 ic_4 rfl ?_
  refine ex_icmpge (tgt := 179) (pc' := 149) dX11_image_146 (by decide) rfl (fun hc33 => ?_) (fun hc33 => ?_)
  · replace hf := if_t hc33 hf
    refine ex_aload_n 0 (pc' := 150) dX11_image_149 rfl rfl rfl ?_
    refine ex_getR (pc' := 153) dX11_image_150 fl_X11_79 rfl (sh11_k hO) (sh11_F28 hO) rfl ?_
    refine ex_iload_n 1 (pc' := 154) dX11_image_153 rfl rfl rfl ?_
    refine ex_aload_n 0 (pc' := 155) dX11_image_154 rfl rfl rfl ?_
    refine ex_getR (pc' := 158) dX11_image_155 fl_X11_31 rfl (sh11_k hO) (sh11_F7 hO) rfl ?_
    refine ex_iload_n 1 (pc' := 159) dX11_image_158 rfl rfl rfl ?_
    obtain ⟨hg34, hf⟩ := of_guard hf
    refine ex_iald (pc' := 160) dX11_image_159 (sh11_T7 hO) (inb_in hg34) rfl ?_
    obtain ⟨hg35, hf⟩ := of_guard hf
    refine ex_iast (pc' := 161) dX11_image_160 (sh11_T28 hO) (inb_in hg35) rfl ?_
    obtain ⟨I36, hI36, hf⟩ := of_let hf
    rw [← hI36]
    refine ex_aload_n 0 (pc' := 162) dX11_image_161 rfl rfl rfl ?_
    refine ex_getR (pc' := 165) dX11_image_162 fl_X11_82 rfl (sh11_k hO) (sh11_F29 hO) rfl ?_
    refine ex_iload_n 1 (pc' := 166) dX11_image_165 rfl rfl rfl ?_
    refine ex_aload_n 0 (pc' := 167) dX11_image_166 rfl rfl rfl ?_
    refine ex_getR (pc' := 170) dX11_image_167 fl_X11_34 rfl (sh11_k hO) (sh11_F8 hO) rfl ?_
    refine ex_iload_n 1 (pc' := 171) dX11_image_170 rfl rfl rfl ?_
    obtain ⟨hg37, hf⟩ := of_guard hf
    refine ex_iald (pc' := 172) dX11_image_171 (sh11_T8 hO) (inb_in hg37) rfl ?_
    obtain ⟨hg38, hf⟩ := of_guard hf
    refine ex_iast (pc' := 173) dX11_image_172 (sh11_T29 hO) (inb_in hg38) rfl ?_
    obtain ⟨I39, hI39, hf⟩ := of_let hf
    rw [← hI39]
    refine ex_iincc (lv' := [(1, .int (v1 + 1)), (0, .ref (gB G + 99))]) 1 (pc' := 176) dX11_image_173 rfl ic_1 (Nat.le_of_ble_eq_true rfl) rfl rfl ?_
    refine ex_goto (tgt := 144) dX11_image_176 (by decide) ?_
    exact ex_sub [1, 0] rfl (hC _ _ (Option.some.inj hf).symm)
  · replace hf := if_f hc33 hf
    exact ex_sub [0] rfl (hX _ (Option.some.inj hf).symm)
def f_X11_image_l144 (N : Nat)  (v1 : Int32) (I : MI) : Option (MI) := loopN (fun s => f_X11_image_b144 N s.1 s.2) N (v1, I)
set_option maxRecDepth 100000 in
set_option maxHeartbeats 4000000 in
theorem k_X11_image_l144 {G : GX} {Q : State → Prop} {X : MX} (hO : shX11 X)   {N0 : Nat} {L : ML} {out : (MI)} (hX : ∀ (I' : MI), out = I' → Ex G mX11_image rmX11_image Q (0, 0) X I' L 179 [(0, .ref (gB G + 99))] []) : ∀ (N : Nat) (v1 : Int32) (I : MI), loopN (fun s => f_X11_image_b144 N0 s.1 s.2) N (v1, I) = some out → Ex G mX11_image rmX11_image Q (0, 0) X I L 144 [(0, .ref (gB G + 99)), (1, .int v1)] [] := by
  intro N
  induction N with
  | zero => intro v1 I hf; exact absurd (loopN_zero hf) id
  | succ n ih =>
    intro v1 I hf
    rcases loopN_succ hf with ⟨s, hb, hl⟩ | hb
    · obtain ⟨v1', I'⟩ := s
      refine k_X11_image_b144 hO  hb (fun _ _ he => ?_) (fun _ he => by cases he)
      cases he
      exact ih v1' I' hl
    · exact k_X11_image_b144 hO  hb (fun _ _ he => by cases he) (fun x0 he => hX x0 (Sum.inr.inj he))
def f_X11_image (N : Nat)  (I : MI) (L : ML) : Option (Int32 × MI × ML) := letv (upI I 99 20 1) fun I1 => bnd1 (f_X11_image_l7 N 0 I1) fun I9 => bnd1 (f_X11_image_l45 N 0 I9) fun I15 => bnd1 (f_X11_image_l71 N 0 L) fun L21 => bnd1 (f_X11_image_l98 N 0 I15) fun I30 => letv (upI I30 99 27 (I30 99 6)) fun I32 => bnd1 (f_X11_image_l144 N 0 I32) fun I40 => bnd1 (f_X11_allLetters N I40) fun r42 => some (r42, I40, L21)
set_option maxRecDepth 100000 in
set_option maxHeartbeats 4000000 in
theorem kb_X11_image {G : GX} {Q : State → Prop} {X : MX} (hO : shX11 X)   {N : Nat} {I : MI} {L : ML} {out : Int32 × MI × ML} (hf : f_X11_image N I L = some out) (hR : ∀ (z : Int32) (I' : MI) (L' : ML), out = (z, I', L') → Q = RetQ G (some (.int z)) X I' L' (0, 0)) : Ex G mX11_image rmX11_image Q (0, 0) X I L 0 [(0, .ref (gB G + 99))] [] := by
  unfold f_X11_image at hf
  refine ex_aload_n 0 (pc' := 1) dX11_image_0 rfl rfl rfl ?_
  refine ex_iconst (v := 1) (pc' := 2) dX11_image_1 ic_1 rfl ?_
  refine ex_putZ (pc' := 5) dX11_image_2 fl_X11_316 rfl (sh11_k hO) rfl ?_
  obtain ⟨I1, hI1, hf⟩ := of_let hf
  rw [← hI1]
  refine ex_iconst (v := 0) (pc' := 6) dX11_image_5 ic_0 rfl ?_
  refine ex_istore_n (lv' := [(1, .int 0), (0, .ref (gB G + 99))]) (pc' := 7) dX11_image_6 rfl (Nat.le_of_ble_eq_true rfl) rfl rfl ?_
  refine ex_sub (lv' := [(0, .ref (gB G + 99)), (1, .int 0)]) [1, 0] rfl ?_
  obtain ⟨I9, hq10, hf⟩ := of_bnd1 hf
  refine k_X11_image_l7 hO (fun I9' he => ?_) _ _ _ hq10
  cases he
  refine ex_iconst (v := 0) (pc' := 44) dX11_image_43 ic_0 rfl ?_
  refine ex_istore_n (lv' := [(1, .int 0), (0, .ref (gB G + 99))]) (pc' := 45) dX11_image_44 rfl (Nat.le_of_ble_eq_true rfl) rfl rfl ?_
  refine ex_sub (lv' := [(0, .ref (gB G + 99)), (1, .int 0)]) [1, 0] rfl ?_
  obtain ⟨I15, hq16, hf⟩ := of_bnd1 hf
  refine k_X11_image_l45 hO (fun I15' he => ?_) _ _ _ hq16
  cases he
  refine ex_iconst (v := 0) (pc' := 70) dX11_image_69 ic_0 rfl ?_
  refine ex_istore_n (lv' := [(1, .int 0), (0, .ref (gB G + 99))]) (pc' := 71) dX11_image_70 rfl (Nat.le_of_ble_eq_true rfl) rfl rfl ?_
  refine ex_sub (lv' := [(0, .ref (gB G + 99)), (1, .int 0)]) [1, 0] rfl ?_
  obtain ⟨L21, hq22, hf⟩ := of_bnd1 hf
  refine k_X11_image_l71 hO (fun L21' he => ?_) _ _ _ hq22
  cases he
  refine ex_iconst (v := 0) (pc' := 97) dX11_image_96 ic_0 rfl ?_
  refine ex_istore_n (lv' := [(1, .int 0), (0, .ref (gB G + 99))]) (pc' := 98) dX11_image_97 rfl (Nat.le_of_ble_eq_true rfl) rfl rfl ?_
  refine ex_sub (lv' := [(0, .ref (gB G + 99)), (1, .int 0)]) [1, 0] rfl ?_
  obtain ⟨I30, hq31, hf⟩ := of_bnd1 hf
  refine k_X11_image_l98 hO (fun I30' he => ?_) _ _ _ hq31
  cases he
  refine ex_aload_n 0 (pc' := 135) dX11_image_134 rfl rfl rfl ?_
  refine ex_aload_n 0 (pc' := 136) dX11_image_135 rfl rfl rfl ?_
  refine ex_getI (pc' := 139) dX11_image_136 fl_X11_234 rfl (sh11_k hO) rfl ?_
  refine ex_putI (pc' := 142) dX11_image_139 fl_X11_320 rfl (sh11_k hO) rfl ?_
  obtain ⟨I32, hI32, hf⟩ := of_let hf
  rw [← hI32]
  refine ex_iconst (v := 0) (pc' := 143) dX11_image_142 ic_0 rfl ?_
  refine ex_istore_n (lv' := [(1, .int 0), (0, .ref (gB G + 99))]) (pc' := 144) dX11_image_143 rfl (Nat.le_of_ble_eq_true rfl) rfl rfl ?_
  refine ex_sub (lv' := [(0, .ref (gB G + 99)), (1, .int 0)]) [1, 0] rfl ?_
  obtain ⟨I40, hq41, hf⟩ := of_bnd1 hf
  refine k_X11_image_l144 hO (fun I40' he => ?_) _ _ _ hq41
  cases he
  refine ex_aload_n 0 (pc' := 180) dX11_image_179 rfl rfl rfl ?_
  obtain ⟨r42, hq43, hf⟩ := of_bnd1 hf
  refine ex_callV_i (rm' := rmX11_allLetters) (st := []) (pc' := 183) [] dX11_image_180 cl_X11_323 (k_X11_allLetters G hO hq43) rfl (sh11_k hO) ⟨_, _, rfl⟩ rfl rfl (ROOM_of rfl) (Nat.le_of_ble_eq_true rfl) rfl rfl ?_
  exact ex_iret dX11_image_183 rfl (hR _ _ _ (Option.some.inj hf).symm)
set_option maxRecDepth 100000 in
set_option maxHeartbeats 4000000 in
theorem k_X11_image (G : GX) {X : MX} (hO : shX11 X)   {N : Nat} {I : MI} {L : ML} {z : Int32} {I' : MI} {L' : ML} (hf : f_X11_image N I L = some (z, I', L')) : Con G mX11_image yX11_image rmX11_image (fun B => [.ref (B + 99)]) X I L (some (.int z)) X I' L' :=
  Con.of (by decide) rfl (fun h => by cases h) (fun B => Nat.le_of_ble_eq_true rfl) (fun G => kb_X11_image hO  hf (fun _ _ _ he => by cases he; rfl))
theorem sp_196 : (Int16.ofInt 196).toInt32 = 196 := by decide
theorem fl_X11_91 : FLD RX11 91 11 32 true := ⟨RX11, TX11, 51, rfl, inX11, by decide, lwg_at 966 (by decide +kernel) rfl, nmX11, tyX11_ok, rfl, rfl⟩
theorem fl_X11_88 : FLD RX11 88 11 31 true := ⟨RX11, TX11, 51, rfl, inX11, by decide, lwg_at 965 (by decide +kernel) rfl, nmX11, tyX11_ok, rfl, rfl⟩
-- X11_isTimes ('RookWordsModel', 'isTimes', '(I)Z')
def rmX11_isTimes : RM := ((1, 25, 0, 0), false, (some FieldType.boolean))
def f_X11_isTimes_b2 (N : Nat) (v1 : Int32) (v2 : Int32) (L : ML) : Option ((Int32 × ML) ⊕ (ML)) := (if v2 < 196 then if inb v2 196 then letv (upL L 126 (Int32.toNatClampNeg v2) 0) fun L3 => some (.inl (v2 + 1, L3)) else none else some (.inr L))
set_option maxRecDepth 100000 in
set_option maxHeartbeats 4000000 in
theorem k_X11_isTimes_b2 {G : GX} {Q : State → Prop} {X : MX} (hO : shX11 X) {v1 : Int32}  {v2 : Int32} {N : Nat} {I : MI} {L : ML} {out : (Int32 × ML) ⊕ (ML)} (hf : f_X11_isTimes_b2 N v1 v2 L = some out) (hC : ∀ (v2' : Int32) (L' : ML), out = .inl (v2', L') → Ex G mX11_isTimes rmX11_isTimes Q (0, 0) X I L' 2 [(0, .ref (gB G + 99)), (1, .int v1), (2, .int v2')] []) (hX : ∀ (L' : ML), out = .inr L' → Ex G mX11_isTimes rmX11_isTimes Q (0, 0) X I L' 22 [(0, .ref (gB G + 99)), (1, .int v1)] []) : Ex G mX11_isTimes rmX11_isTimes Q (0, 0) X I L 2 [(0, .ref (gB G + 99)), (1, .int v1), (2, .int v2)] [] := by
  unfold f_X11_isTimes_b2 at hf
  refine ex_iload_n 2 (pc' := 3) dX11_isTimes_2 rfl rfl rfl ?_
  refine ex_sipush (v := 196) (pc' := 6) dX11_isTimes_3 sp_196 rfl ?_
  refine ex_icmpge (tgt := 22) (pc' := 9) dX11_isTimes_6 (by decide) rfl (fun hc1 => ?_) (fun hc1 => ?_)
  · replace hf := if_t hc1 hf
    refine ex_aload_n 0 (pc' := 10) dX11_isTimes_9 rfl rfl rfl ?_
    refine ex_getR (pc' := 13) dX11_isTimes_10 fl_X11_91 rfl (sh11_k hO) (sh11_F32 hO) rfl ?_
    refine ex_iload_n 2 (pc' := 14) dX11_isTimes_13 rfl rfl rfl ?_
    refine ex_lconst (v := 0) (pc' := 15) dX11_isTimes_14 lc_0 rfl ?_
    obtain ⟨hg2, hf⟩ := of_guard hf
    refine ex_last (pc' := 16) dX11_isTimes_15 (sh11_T32 hO) (inb_in hg2) rfl ?_
    obtain ⟨L3, hL3, hf⟩ := of_let hf
    rw [← hL3]
    refine ex_iincc (lv' := [(2, .int (v2 + 1)), (0, .ref (gB G + 99)), (1, .int v1)]) 2 (pc' := 19) dX11_isTimes_16 rfl ic_1 (Nat.le_of_ble_eq_true rfl) rfl rfl ?_
    refine ex_goto (tgt := 2) dX11_isTimes_19 (by decide) ?_
    exact ex_sub [1, 2, 0] rfl (hC _ _ (Option.some.inj hf).symm)
  · replace hf := if_f hc1 hf
    exact ex_sub [0, 1] rfl (hX _ (Option.some.inj hf).symm)
def f_X11_isTimes_l2 (N : Nat) (v1 : Int32) (v2 : Int32) (L : ML) : Option (ML) := loopN (fun s => f_X11_isTimes_b2 N v1 s.1 s.2) N (v2, L)
set_option maxRecDepth 100000 in
set_option maxHeartbeats 4000000 in
theorem k_X11_isTimes_l2 {G : GX} {Q : State → Prop} {X : MX} (hO : shX11 X) {v1 : Int32}  {N0 : Nat} {I : MI} {out : (ML)} (hX : ∀ (L' : ML), out = L' → Ex G mX11_isTimes rmX11_isTimes Q (0, 0) X I L' 22 [(0, .ref (gB G + 99)), (1, .int v1)] []) : ∀ (N : Nat) (v2 : Int32) (L : ML), loopN (fun s => f_X11_isTimes_b2 N0 v1 s.1 s.2) N (v2, L) = some out → Ex G mX11_isTimes rmX11_isTimes Q (0, 0) X I L 2 [(0, .ref (gB G + 99)), (1, .int v1), (2, .int v2)] [] := by
  intro N
  induction N with
  | zero => intro v2 L hf; exact absurd (loopN_zero hf) id
  | succ n ih =>
    intro v2 L hf
    rcases loopN_succ hf with ⟨s, hb, hl⟩ | hb
    · obtain ⟨v2', L'⟩ := s
      refine k_X11_isTimes_b2 hO  hb (fun _ _ he => ?_) (fun _ he => by cases he)
      cases he
      exact ih v2' L' hl
    · exact k_X11_isTimes_b2 hO  hb (fun _ _ he => by cases he) (fun x0 he => hX x0 (Sum.inr.inj he))
def f_X11_isTimes_b32 (N : Nat) (v1 : Int32) (v2 : Int32) (v3 : Int32) (L : ML) : Option ((Int32 × ML) ⊕ (ML)) := (if v3 < 13 then if inb ((14 * v2) + v3) 196 then letv (L 125 (Int32.toNatClampNeg ((14 * v2) + v3))) fun x9 => (if v1 = 1 then if inb (((14 * v2) + v3) + 1) 196 then if inb (((14 * v2) + v3) + 1) 196 then letv (upL L 126 (Int32.toNatClampNeg (((14 * v2) + v3) + 1)) ((L 126 (Int32.toNatClampNeg (((14 * v2) + v3) + 1))) + x9)) fun L13 => some (.inl (v3 + 1, L13)) else none else none else if inb ((14 * (v2 + 1)) + v3) 196 then if inb ((14 * (v2 + 1)) + v3) 196 then letv (upL L 126 (Int32.toNatClampNeg ((14 * (v2 + 1)) + v3)) ((L 126 (Int32.toNatClampNeg ((14 * (v2 + 1)) + v3))) + x9)) fun L16 => (if 0 < v3 then if inb (((14 * v2) + v3) - 1) 196 then if inb (((14 * v2) + v3) - 1) 196 then letv (upL L16 126 (Int32.toNatClampNeg (((14 * v2) + v3) - 1)) ((L16 126 (Int32.toNatClampNeg (((14 * v2) + v3) - 1))) + ((Int32.toInt64 v3) * x9))) fun L20 => some (.inl (v3 + 1, L20)) else none else none else some (.inl (v3 + 1, L16))) else none else none) else none else some (.inr L))
set_option maxRecDepth 100000 in
set_option maxHeartbeats 4000000 in
theorem k_X11_isTimes_b32 {G : GX} {Q : State → Prop} {X : MX} (hO : shX11 X) {v1 : Int32} {v2 : Int32}  {v3 : Int32} {N : Nat} {I : MI} {L : ML} {out : (Int32 × ML) ⊕ (ML)} (hf : f_X11_isTimes_b32 N v1 v2 v3 L = some out) (hC : ∀ (v3' : Int32) (L' : ML), out = .inl (v3', L') → Ex G mX11_isTimes rmX11_isTimes Q (0, 0) X I L' 32 [(0, .ref (gB G + 99)), (1, .int v1), (2, .int v2), (3, .int v3')] []) (hX : ∀ (L' : ML), out = .inr L' → Ex G mX11_isTimes rmX11_isTimes Q (0, 0) X I L' 126 [(0, .ref (gB G + 99)), (1, .int v1), (2, .int v2)] []) : Ex G mX11_isTimes rmX11_isTimes Q (0, 0) X I L 32 [(0, .ref (gB G + 99)), (1, .int v1), (2, .int v2), (3, .int v3)] [] := by
  unfold f_X11_isTimes_b32 at hf
  refine ex_iload_n 3 (pc' := 33) dX11_isTimes_32 rfl rfl rfl ?_
  refine ex_bipush (v := 13) (pc' := 35) dX11_isTimes_33 bp_13 rfl ?_
  refine ex_icmpge (tgt := 126) (pc' := 38) dX11_isTimes_35 (by decide) rfl (fun hc7 => ?_) (fun hc7 => ?_)
  · replace hf := if_t hc7 hf
    refine ex_aload_n 0 (pc' := 39) dX11_isTimes_38 rfl rfl rfl ?_
    refine ex_getR (pc' := 42) dX11_isTimes_39 fl_X11_88 rfl (sh11_k hO) (sh11_F31 hO) rfl ?_
    refine ex_bipush (v := 14) (pc' := 44) dX11_isTimes_42 bp_14 rfl ?_
    refine ex_iload_n 2 (pc' := 45) dX11_isTimes_44 rfl rfl rfl ?_
    refine ex_imul (pc' := 46) dX11_isTimes_45 rfl ?_
    refine ex_iload_n 3 (pc' := 47) dX11_isTimes_46 rfl rfl rfl ?_
    refine ex_iadd (pc' := 48) dX11_isTimes_47 rfl ?_
    obtain ⟨hg8, hf⟩ := of_guard hf
    refine ex_lald (pc' := 49) dX11_isTimes_48 (sh11_T31 hO) (inb_in hg8) rfl ?_
    obtain ⟨x9, hx9, hf⟩ := of_let hf
    rw [← hx9]
    refine ex_lstore (lv' := [(4, .long x9), (0, .ref (gB G + 99)), (1, .int v1), (2, .int v2), (3, .int v3)]) (pc' := 51) dX11_isTimes_49 (Nat.le_of_ble_eq_true rfl) rfl rfl ?_
    refine ex_iload_n 2 (pc' := 52) dX11_isTimes_51 rfl rfl rfl ?_
    refine ex_iconst (v := 1) (pc' := 53) dX11_isTimes_52 ic_1 rfl ?_
    refine ex_icmpne (tgt := 77) (pc' := 56) dX11_isTimes_53 (by decide) rfl (fun hc10 => ?_) (fun hc10 => ?_)
    · replace hf := if_t hc10 hf
      refine ex_aload_n 1 (pc' := 57) dX11_isTimes_56 rfl rfl rfl ?_
      refine ex_getR (pc' := 60) dX11_isTimes_57 fl_X11_91 rfl (sh11_k hO) (sh11_F32 hO) rfl ?_
      refine ex_bipush (v := 14) (pc' := 62) dX11_isTimes_60 bp_14 rfl ?_
      refine ex_iload_n 3 (pc' := 63) dX11_isTimes_62 rfl rfl rfl ?_
      refine ex_imul (pc' := 64) dX11_isTimes_63 rfl ?_
      refine ex_iload_n 4 (pc' := 65) dX11_isTimes_64 rfl rfl rfl ?_
      refine ex_iadd (pc' := 66) dX11_isTimes_65 rfl ?_
      refine ex_iconst (v := 1) (pc' := 67) dX11_isTimes_66 ic_1 rfl ?_
      refine ex_iadd (pc' := 68) dX11_isTimes_67 rfl ?_
      refine ex_dup2 (pc' := 69) dX11_isTimes_68 rfl rfl rfl ?_
      obtain ⟨hg11, hf⟩ := of_guard hf
      refine ex_lald (pc' := 70) dX11_isTimes_69 (sh11_T32 hO) (inb_in hg11) rfl ?_
      refine ex_lload 0 (pc' := 72) dX11_isTimes_70 rfl rfl ?_
      refine ex_ladd (pc' := 73) dX11_isTimes_72 rfl ?_
      obtain ⟨hg12, hf⟩ := of_guard hf
      refine ex_last (pc' := 74) dX11_isTimes_73 (sh11_T32 hO) (inb_in hg12) rfl ?_
      obtain ⟨L13, hL13, hf⟩ := of_let hf
      rw [← hL13]
      refine ex_goto (tgt := 120) dX11_isTimes_74 (by decide) ?_
      refine ex_iincc (lv' := [(3, .int (v3 + 1)), (4, .long x9), (0, .ref (gB G + 99)), (1, .int v1), (2, .int v2)]) 4 (pc' := 123) dX11_isTimes_120 rfl ic_1 (Nat.le_of_ble_eq_true rfl) rfl rfl ?_
      refine ex_goto (tgt := 32) dX11_isTimes_123 (by decide) ?_
      exact ex_sub [2, 3, 4, 0] rfl (hC _ _ (Option.some.inj hf).symm)
    · replace hf := if_f hc10 hf
      refine ex_aload_n 1 (pc' := 78) dX11_isTimes_77 rfl rfl rfl ?_
      refine ex_getR (pc' := 81) dX11_isTimes_78 fl_X11_91 rfl (sh11_k hO) (sh11_F32 hO) rfl ?_
      refine ex_bipush (v := 14) (pc' := 83) dX11_isTimes_81 bp_14 rfl ?_
      refine ex_iload_n 3 (pc' := 84) dX11_isTimes_83 rfl rfl rfl ?_
      refine ex_iconst (v := 1) (pc' := 85) dX11_isTimes_84 ic_1 rfl ?_
      refine ex_iadd (pc' := 86) dX11_isTimes_85 rfl ?_
      refine ex_imul (pc' := 87) dX11_isTimes_86 rfl ?_
      refine ex_iload_n 4 (pc' := 88) dX11_isTimes_87 rfl rfl rfl ?_
      refine ex_iadd (pc' := 89) dX11_isTimes_88 rfl ?_
      refine ex_dup2 (pc' := 90) dX11_isTimes_89 rfl rfl rfl ?_
      obtain ⟨hg14, hf⟩ := of_guard hf
      refine ex_lald (pc' := 91) dX11_isTimes_90 (sh11_T32 hO) (inb_in hg14) rfl ?_
      refine ex_lload 0 (pc' := 93) dX11_isTimes_91 rfl rfl ?_
      refine ex_ladd (pc' := 94) dX11_isTimes_93 rfl ?_
      obtain ⟨hg15, hf⟩ := of_guard hf
      refine ex_last (pc' := 95) dX11_isTimes_94 (sh11_T32 hO) (inb_in hg15) rfl ?_
      obtain ⟨L16, hL16, hf⟩ := of_let hf
      rw [← hL16]
      refine ex_iload_n 4 (pc' := 96) dX11_isTimes_95 rfl rfl rfl ?_
      refine ex_ifle (tgt := 120) (pc' := 99) dX11_isTimes_96 (by decide) rfl (fun hc17 => ?_) (fun hc17 => ?_)
      · replace hf := if_t hc17 hf
        refine ex_aload_n 1 (pc' := 100) dX11_isTimes_99 rfl rfl rfl ?_
        refine ex_getR (pc' := 103) dX11_isTimes_100 fl_X11_91 rfl (sh11_k hO) (sh11_F32 hO) rfl ?_
        refine ex_bipush (v := 14) (pc' := 105) dX11_isTimes_103 bp_14 rfl ?_
        refine ex_iload_n 3 (pc' := 106) dX11_isTimes_105 rfl rfl rfl ?_
        refine ex_imul (pc' := 107) dX11_isTimes_106 rfl ?_
        refine ex_iload_n 4 (pc' := 108) dX11_isTimes_107 rfl rfl rfl ?_
        refine ex_iadd (pc' := 109) dX11_isTimes_108 rfl ?_
        refine ex_iconst (v := 1) (pc' := 110) dX11_isTimes_109 ic_1 rfl ?_
        refine ex_isub (pc' := 111) dX11_isTimes_110 rfl ?_
        refine ex_dup2 (pc' := 112) dX11_isTimes_111 rfl rfl rfl ?_
        obtain ⟨hg18, hf⟩ := of_guard hf
        refine ex_lald (pc' := 113) dX11_isTimes_112 (sh11_T32 hO) (inb_in hg18) rfl ?_
        refine ex_iload_n 4 (pc' := 114) dX11_isTimes_113 rfl rfl rfl ?_
        refine ex_i2l (pc' := 115) dX11_isTimes_114 rfl ?_
        refine ex_lload 0 (pc' := 117) dX11_isTimes_115 rfl rfl ?_
        refine ex_lmul (pc' := 118) dX11_isTimes_117 rfl ?_
        refine ex_ladd (pc' := 119) dX11_isTimes_118 rfl ?_
        obtain ⟨hg19, hf⟩ := of_guard hf
        refine ex_last (pc' := 120) dX11_isTimes_119 (sh11_T32 hO) (inb_in hg19) rfl ?_
        obtain ⟨L20, hL20, hf⟩ := of_let hf
        rw [← hL20]
        refine ex_iincc (lv' := [(3, .int (v3 + 1)), (4, .long x9), (0, .ref (gB G + 99)), (1, .int v1), (2, .int v2)]) 4 (pc' := 123) dX11_isTimes_120 rfl ic_1 (Nat.le_of_ble_eq_true rfl) rfl rfl ?_
        refine ex_goto (tgt := 32) dX11_isTimes_123 (by decide) ?_
        exact ex_sub [2, 3, 4, 0] rfl (hC _ _ (Option.some.inj hf).symm)
      · replace hf := if_f hc17 hf
        refine ex_iincc (lv' := [(3, .int (v3 + 1)), (4, .long x9), (0, .ref (gB G + 99)), (1, .int v1), (2, .int v2)]) 4 (pc' := 123) dX11_isTimes_120 rfl ic_1 (Nat.le_of_ble_eq_true rfl) rfl rfl ?_
        refine ex_goto (tgt := 32) dX11_isTimes_123 (by decide) ?_
        exact ex_sub [2, 3, 4, 0] rfl (hC _ _ (Option.some.inj hf).symm)
  · replace hf := if_f hc7 hf
    exact ex_sub [0, 1, 2] rfl (hX _ (Option.some.inj hf).symm)
def f_X11_isTimes_l32 (N : Nat) (v1 : Int32) (v2 : Int32) (v3 : Int32) (L : ML) : Option (ML) := loopN (fun s => f_X11_isTimes_b32 N v1 v2 s.1 s.2) N (v3, L)
set_option maxRecDepth 100000 in
set_option maxHeartbeats 4000000 in
theorem k_X11_isTimes_l32 {G : GX} {Q : State → Prop} {X : MX} (hO : shX11 X) {v1 : Int32} {v2 : Int32}  {N0 : Nat} {I : MI} {out : (ML)} (hX : ∀ (L' : ML), out = L' → Ex G mX11_isTimes rmX11_isTimes Q (0, 0) X I L' 126 [(0, .ref (gB G + 99)), (1, .int v1), (2, .int v2)] []) : ∀ (N : Nat) (v3 : Int32) (L : ML), loopN (fun s => f_X11_isTimes_b32 N0 v1 v2 s.1 s.2) N (v3, L) = some out → Ex G mX11_isTimes rmX11_isTimes Q (0, 0) X I L 32 [(0, .ref (gB G + 99)), (1, .int v1), (2, .int v2), (3, .int v3)] [] := by
  intro N
  induction N with
  | zero => intro v3 L hf; exact absurd (loopN_zero hf) id
  | succ n ih =>
    intro v3 L hf
    rcases loopN_succ hf with ⟨s, hb, hl⟩ | hb
    · obtain ⟨v3', L'⟩ := s
      refine k_X11_isTimes_b32 hO  hb (fun _ _ he => ?_) (fun _ he => by cases he)
      cases he
      exact ih v3' L' hl
    · exact k_X11_isTimes_b32 hO  hb (fun _ _ he => by cases he) (fun x0 he => hX x0 (Sum.inr.inj he))
def f_X11_isTimes_b24 (N : Nat) (v1 : Int32) (v2 : Int32) (L : ML) : Option ((Int32 × ML) ⊕ (ML)) := (if v2 < 13 then bnd1 (f_X11_isTimes_l32 N v1 v2 0 L) fun L21 => some (.inl (v2 + 1, L21)) else some (.inr L))
set_option maxRecDepth 100000 in
set_option maxHeartbeats 4000000 in
theorem k_X11_isTimes_b24 {G : GX} {Q : State → Prop} {X : MX} (hO : shX11 X) {v1 : Int32}  {v2 : Int32} {N : Nat} {I : MI} {L : ML} {out : (Int32 × ML) ⊕ (ML)} (hf : f_X11_isTimes_b24 N v1 v2 L = some out) (hC : ∀ (v2' : Int32) (L' : ML), out = .inl (v2', L') → Ex G mX11_isTimes rmX11_isTimes Q (0, 0) X I L' 24 [(0, .ref (gB G + 99)), (1, .int v1), (2, .int v2')] []) (hX : ∀ (L' : ML), out = .inr L' → Ex G mX11_isTimes rmX11_isTimes Q (0, 0) X I L' 132 [(0, .ref (gB G + 99))] []) : Ex G mX11_isTimes rmX11_isTimes Q (0, 0) X I L 24 [(0, .ref (gB G + 99)), (1, .int v1), (2, .int v2)] [] := by
  unfold f_X11_isTimes_b24 at hf
  refine ex_iload_n 2 (pc' := 25) dX11_isTimes_24 rfl rfl rfl ?_
  refine ex_bipush (v := 13) (pc' := 27) dX11_isTimes_25 bp_13 rfl ?_
  refine ex_icmpge (tgt := 132) (pc' := 30) dX11_isTimes_27 (by decide) rfl (fun hc6 => ?_) (fun hc6 => ?_)
  · replace hf := if_t hc6 hf
    refine ex_iconst (v := 0) (pc' := 31) dX11_isTimes_30 ic_0 rfl ?_
    refine ex_istore_n (lv' := [(3, .int 0), (0, .ref (gB G + 99)), (1, .int v1), (2, .int v2)]) (pc' := 32) dX11_isTimes_31 rfl (Nat.le_of_ble_eq_true rfl) rfl rfl ?_
    refine ex_sub (lv' := [(0, .ref (gB G + 99)), (1, .int v1), (2, .int v2), (3, .int 0)]) [1, 2, 3, 0] rfl ?_
    obtain ⟨L21, hq22, hf⟩ := of_bnd1 hf
    refine k_X11_isTimes_l32 hO (fun L21' he => ?_) _ _ _ hq22
    cases he
    refine ex_iincc (lv' := [(2, .int (v2 + 1)), (0, .ref (gB G + 99)), (1, .int v1)]) 2 (pc' := 129) dX11_isTimes_126 rfl ic_1 (Nat.le_of_ble_eq_true rfl) rfl rfl ?_
    refine ex_goto (tgt := 24) dX11_isTimes_129 (by decide) ?_
    exact ex_sub [1, 2, 0] rfl (hC _ _ (Option.some.inj hf).symm)
  · replace hf := if_f hc6 hf
    exact ex_sub [0] rfl (hX _ (Option.some.inj hf).symm)
def f_X11_isTimes_l24 (N : Nat) (v1 : Int32) (v2 : Int32) (L : ML) : Option (ML) := loopN (fun s => f_X11_isTimes_b24 N v1 s.1 s.2) N (v2, L)
set_option maxRecDepth 100000 in
set_option maxHeartbeats 4000000 in
theorem k_X11_isTimes_l24 {G : GX} {Q : State → Prop} {X : MX} (hO : shX11 X) {v1 : Int32}  {N0 : Nat} {I : MI} {out : (ML)} (hX : ∀ (L' : ML), out = L' → Ex G mX11_isTimes rmX11_isTimes Q (0, 0) X I L' 132 [(0, .ref (gB G + 99))] []) : ∀ (N : Nat) (v2 : Int32) (L : ML), loopN (fun s => f_X11_isTimes_b24 N0 v1 s.1 s.2) N (v2, L) = some out → Ex G mX11_isTimes rmX11_isTimes Q (0, 0) X I L 24 [(0, .ref (gB G + 99)), (1, .int v1), (2, .int v2)] [] := by
  intro N
  induction N with
  | zero => intro v2 L hf; exact absurd (loopN_zero hf) id
  | succ n ih =>
    intro v2 L hf
    rcases loopN_succ hf with ⟨s, hb, hl⟩ | hb
    · obtain ⟨v2', L'⟩ := s
      refine k_X11_isTimes_b24 hO  hb (fun _ _ he => ?_) (fun _ he => by cases he)
      cases he
      exact ih v2' L' hl
    · exact k_X11_isTimes_b24 hO  hb (fun _ _ he => by cases he) (fun x0 he => hX x0 (Sum.inr.inj he))
def f_X11_isTimes_b145_j208 (N : Nat) (v3 : Int32) (v4 : Int32) (v5 : Int64) (L : ML) : Option ((Int32 × Int32 × ML) ⊕ (Int32 × ML)) := if inb ((14 * v3) + v4) 196 then letv (upL L 125 (Int32.toNatClampNeg ((14 * v3) + v4)) v5) fun L31 => some (.inl (0, v4 + 1, L31)) else none
set_option maxRecDepth 100000 in
set_option maxHeartbeats 4000000 in
theorem k_X11_isTimes_b145_j208 {G : GX} {Q : State → Prop} {X : MX} (hO : shX11 X) {v3 : Int32} {v4 : Int32} {v5 : Int64}   {N : Nat} {I : MI} {L : ML} {out : (Int32 × Int32 × ML) ⊕ (Int32 × ML)} (hf : f_X11_isTimes_b145_j208 N v3 v4 v5 L = some out) (hC : ∀ (v2' : Int32) (v4' : Int32) (L' : ML), out = .inl (v2', v4', L') → Ex G mX11_isTimes rmX11_isTimes Q (0, 0) X I L' 145 [(0, .ref (gB G + 99)), (2, .int v2'), (3, .int v3), (4, .int v4')] []) (hX : ∀ (w2 : Int32) (L' : ML), out = .inr (w2, L') → Ex G mX11_isTimes rmX11_isTimes Q (0, 0) X I L' 230 [(0, .ref (gB G + 99)), (2, .int w2), (3, .int v3)] []) : Ex G mX11_isTimes rmX11_isTimes Q (0, 0) X I L 208 [(0, .ref (gB G + 99)), (3, .int v3), (4, .int v4), (5, .long v5)] [] := by
  unfold f_X11_isTimes_b145_j208 at hf
  refine ex_iconst (v := 0) (pc' := 209) dX11_isTimes_208 ic_0 rfl ?_
  refine ex_istore_n (lv' := [(2, .int 0), (0, .ref (gB G + 99)), (3, .int v3), (4, .int v4), (5, .long v5)]) (pc' := 210) dX11_isTimes_209 rfl (Nat.le_of_ble_eq_true rfl) rfl rfl ?_
  refine ex_aload_n 1 (pc' := 211) dX11_isTimes_210 rfl rfl rfl ?_
  refine ex_getR (pc' := 214) dX11_isTimes_211 fl_X11_88 rfl (sh11_k hO) (sh11_F31 hO) rfl ?_
  refine ex_bipush (v := 14) (pc' := 216) dX11_isTimes_214 bp_14 rfl ?_
  refine ex_iload_n 2 (pc' := 217) dX11_isTimes_216 rfl rfl rfl ?_
  refine ex_imul (pc' := 218) dX11_isTimes_217 rfl ?_
  refine ex_iload 3 (pc' := 220) dX11_isTimes_218 rfl rfl ?_
  refine ex_iadd (pc' := 221) dX11_isTimes_220 rfl ?_
  refine ex_lload 4 (pc' := 223) dX11_isTimes_221 rfl rfl ?_
  obtain ⟨hg30, hf⟩ := of_guard hf
  refine ex_last (pc' := 224) dX11_isTimes_223 (sh11_T31 hO) (inb_in hg30) rfl ?_
  obtain ⟨L31, hL31, hf⟩ := of_let hf
  rw [← hL31]
  refine ex_iincc (lv' := [(4, .int (v4 + 1)), (2, .int 0), (0, .ref (gB G + 99)), (3, .int v3), (5, .long v5)]) 3 (pc' := 227) dX11_isTimes_224 rfl ic_1 (Nat.le_of_ble_eq_true rfl) rfl rfl ?_
  refine ex_goto (tgt := 145) dX11_isTimes_227 (by decide) ?_
  exact ex_sub [2, 1, 3, 0] rfl (hC _ _ _ (Option.some.inj hf).symm)
def f_X11_isTimes_b145_j204 (N : Nat) (v3 : Int32) (v4 : Int32) (v5 : Int64) (L : ML) : Option ((Int32 × Int32 × ML) ⊕ (Int32 × ML)) := if inb ((14 * v3) + v4) 196 then letv (upL L 125 (Int32.toNatClampNeg ((14 * v3) + v4)) v5) fun L37 => some (.inl (1, v4 + 1, L37)) else none
set_option maxRecDepth 100000 in
set_option maxHeartbeats 4000000 in
theorem k_X11_isTimes_b145_j204 {G : GX} {Q : State → Prop} {X : MX} (hO : shX11 X) {v3 : Int32} {v4 : Int32} {v5 : Int64}   {N : Nat} {I : MI} {L : ML} {out : (Int32 × Int32 × ML) ⊕ (Int32 × ML)} (hf : f_X11_isTimes_b145_j204 N v3 v4 v5 L = some out) (hC : ∀ (v2' : Int32) (v4' : Int32) (L' : ML), out = .inl (v2', v4', L') → Ex G mX11_isTimes rmX11_isTimes Q (0, 0) X I L' 145 [(0, .ref (gB G + 99)), (2, .int v2'), (3, .int v3), (4, .int v4')] []) (hX : ∀ (w2 : Int32) (L' : ML), out = .inr (w2, L') → Ex G mX11_isTimes rmX11_isTimes Q (0, 0) X I L' 230 [(0, .ref (gB G + 99)), (2, .int w2), (3, .int v3)] []) : Ex G mX11_isTimes rmX11_isTimes Q (0, 0) X I L 204 [(0, .ref (gB G + 99)), (3, .int v3), (4, .int v4), (5, .long v5)] [] := by
  unfold f_X11_isTimes_b145_j204 at hf
  refine ex_iconst (v := 1) (pc' := 205) dX11_isTimes_204 ic_1 rfl ?_
  refine ex_goto (tgt := 209) dX11_isTimes_205 (by decide) ?_
  refine ex_istore_n (lv' := [(2, .int 1), (0, .ref (gB G + 99)), (3, .int v3), (4, .int v4), (5, .long v5)]) (pc' := 210) dX11_isTimes_209 rfl (Nat.le_of_ble_eq_true rfl) rfl rfl ?_
  refine ex_aload_n 1 (pc' := 211) dX11_isTimes_210 rfl rfl rfl ?_
  refine ex_getR (pc' := 214) dX11_isTimes_211 fl_X11_88 rfl (sh11_k hO) (sh11_F31 hO) rfl ?_
  refine ex_bipush (v := 14) (pc' := 216) dX11_isTimes_214 bp_14 rfl ?_
  refine ex_iload_n 2 (pc' := 217) dX11_isTimes_216 rfl rfl rfl ?_
  refine ex_imul (pc' := 218) dX11_isTimes_217 rfl ?_
  refine ex_iload 3 (pc' := 220) dX11_isTimes_218 rfl rfl ?_
  refine ex_iadd (pc' := 221) dX11_isTimes_220 rfl ?_
  refine ex_lload 4 (pc' := 223) dX11_isTimes_221 rfl rfl ?_
  obtain ⟨hg36, hf⟩ := of_guard hf
  refine ex_last (pc' := 224) dX11_isTimes_223 (sh11_T31 hO) (inb_in hg36) rfl ?_
  obtain ⟨L37, hL37, hf⟩ := of_let hf
  rw [← hL37]
  refine ex_iincc (lv' := [(4, .int (v4 + 1)), (2, .int 1), (0, .ref (gB G + 99)), (3, .int v3), (5, .long v5)]) 3 (pc' := 227) dX11_isTimes_224 rfl ic_1 (Nat.le_of_ble_eq_true rfl) rfl rfl ?_
  refine ex_goto (tgt := 145) dX11_isTimes_227 (by decide) ?_
  exact ex_sub [2, 1, 3, 0] rfl (hC _ _ _ (Option.some.inj hf).symm)
def f_X11_isTimes_b145 (N : Nat) (v3 : Int32) (v2 : Int32) (v4 : Int32) (L : ML) : Option ((Int32 × Int32 × ML) ⊕ (Int32 × ML)) := (if v4 < 14 then if inb ((14 * v3) + v4) 196 then letv (L 126 (Int32.toNatClampNeg ((14 * v3) + v4))) fun x28 => (if v2 = 0 then f_X11_isTimes_b145_j208 N v3 v4 x28 L else bnd1 (f_X11_in x28 (-1000000000000000) 1000000000000000) fun r32 => (if r32 = 0 then f_X11_isTimes_b145_j208 N v3 v4 x28 L else (if x28 = 0 then f_X11_isTimes_b145_j204 N v3 v4 x28 L else (if v3 < 13 then (if v4 < 13 then f_X11_isTimes_b145_j204 N v3 v4 x28 L else f_X11_isTimes_b145_j208 N v3 v4 x28 L) else f_X11_isTimes_b145_j208 N v3 v4 x28 L)))) else none else some (.inr (v2, L)))
set_option maxRecDepth 100000 in
set_option maxHeartbeats 4000000 in
theorem k_X11_isTimes_b145 {G : GX} {Q : State → Prop} {X : MX} (hO : shX11 X) {v3 : Int32}  {v2 : Int32} {v4 : Int32} {N : Nat} {I : MI} {L : ML} {out : (Int32 × Int32 × ML) ⊕ (Int32 × ML)} (hf : f_X11_isTimes_b145 N v3 v2 v4 L = some out) (hC : ∀ (v2' : Int32) (v4' : Int32) (L' : ML), out = .inl (v2', v4', L') → Ex G mX11_isTimes rmX11_isTimes Q (0, 0) X I L' 145 [(0, .ref (gB G + 99)), (2, .int v2'), (3, .int v3), (4, .int v4')] []) (hX : ∀ (w2 : Int32) (L' : ML), out = .inr (w2, L') → Ex G mX11_isTimes rmX11_isTimes Q (0, 0) X I L' 230 [(0, .ref (gB G + 99)), (2, .int w2), (3, .int v3)] []) : Ex G mX11_isTimes rmX11_isTimes Q (0, 0) X I L 145 [(0, .ref (gB G + 99)), (2, .int v2), (3, .int v3), (4, .int v4)] [] := by
  unfold f_X11_isTimes_b145 at hf
  refine ex_iload 3 (pc' := 147) dX11_isTimes_145 rfl rfl ?_
  refine ex_bipush (v := 14) (pc' := 149) dX11_isTimes_147 bp_14 rfl ?_
  refine ex_icmpge (tgt := 230) (pc' := 152) dX11_isTimes_149 (by decide) rfl (fun hc26 => ?_) (fun hc26 => ?_)
  · replace hf := if_t hc26 hf
    refine ex_aload_n 0 (pc' := 153) dX11_isTimes_152 rfl rfl rfl ?_
    refine ex_getR (pc' := 156) dX11_isTimes_153 fl_X11_91 rfl (sh11_k hO) (sh11_F32 hO) rfl ?_
    refine ex_bipush (v := 14) (pc' := 158) dX11_isTimes_156 bp_14 rfl ?_
    refine ex_iload_n 2 (pc' := 159) dX11_isTimes_158 rfl rfl rfl ?_
    refine ex_imul (pc' := 160) dX11_isTimes_159 rfl ?_
    refine ex_iload 3 (pc' := 162) dX11_isTimes_160 rfl rfl ?_
    refine ex_iadd (pc' := 163) dX11_isTimes_162 rfl ?_
    obtain ⟨hg27, hf⟩ := of_guard hf
    refine ex_lald (pc' := 164) dX11_isTimes_163 (sh11_T32 hO) (inb_in hg27) rfl ?_
    obtain ⟨x28, hx28, hf⟩ := of_let hf
    rw [← hx28]
    refine ex_lstore (lv' := [(5, .long x28), (0, .ref (gB G + 99)), (2, .int v2), (3, .int v3), (4, .int v4)]) (pc' := 166) dX11_isTimes_164 (Nat.le_of_ble_eq_true rfl) rfl rfl ?_
    refine ex_iload_n 2 (pc' := 167) dX11_isTimes_166 rfl rfl rfl ?_
    refine ex_ifeq (tgt := 208) (pc' := 170) dX11_isTimes_167 (by decide) rfl (fun hc29 => ?_) (fun hc29 => ?_)
    · replace hf := if_t hc29 hf
      refine ex_sub [1, 3, 4, 0] rfl (k_X11_isTimes_b145_j208 hO  hf hC hX)
    · replace hf := if_f hc29 hf
      refine ex_lload 0 (pc' := 172) dX11_isTimes_170 rfl rfl ?_
      refine ex_ldc2 (v := (-1000000000000000)) (pc' := 175) dX11_isTimes_172 co_X11_163 rfl ?_
      refine ex_ldc2 (v := 1000000000000000) (pc' := 178) dX11_isTimes_175 co_X11_165 rfl ?_
      obtain ⟨r32, hq33, hf⟩ := of_bnd1 hf
      refine ex_callS_i (rm' := rmX11_in) (st := []) (pc' := 181) [.long x28, .long (-1000000000000000), .long 1000000000000000] dX11_isTimes_178 cl_X11_129 (k_X11_in G hq33) rfl rfl rfl (ROOM_of rfl) (Nat.le_of_ble_eq_true rfl) rfl rfl ?_
      refine ex_ifeq (tgt := 208) (pc' := 184) dX11_isTimes_181 (by decide) rfl (fun hc34 => ?_) (fun hc34 => ?_)
      · replace hf := if_t hc34 hf
        refine ex_sub [1, 3, 4, 0] rfl (k_X11_isTimes_b145_j208 hO  hf hC hX)
      · replace hf := if_f hc34 hf
        refine ex_lload 0 (pc' := 186) dX11_isTimes_184 rfl rfl ?_
        refine ex_lconst (v := 0) (pc' := 187) dX11_isTimes_186 lc_0 rfl ?_
        refine ex_lcmp (pc' := 188) dX11_isTimes_187 rfl ?_
        refine ex_lifeq (tgt := 204) (pc' := 191) dX11_isTimes_188 (by decide) rfl (fun hc35 => ?_) (fun hc35 => ?_)
        · replace hf := if_t hc35 hf
          refine ex_sub [1, 3, 4, 0] rfl (k_X11_isTimes_b145_j204 hO  hf hC hX)
        · replace hf := if_f hc35 hf
          refine ex_iload_n 3 (pc' := 192) dX11_isTimes_191 rfl rfl rfl ?_
          refine ex_bipush (v := 13) (pc' := 194) dX11_isTimes_192 bp_13 rfl ?_
          refine ex_icmpge (tgt := 208) (pc' := 197) dX11_isTimes_194 (by decide) rfl (fun hc38 => ?_) (fun hc38 => ?_)
          · replace hf := if_t hc38 hf
            refine ex_iload 4 (pc' := 199) dX11_isTimes_197 rfl rfl ?_
            refine ex_bipush (v := 13) (pc' := 201) dX11_isTimes_199 bp_13 rfl ?_
            refine ex_icmpge (tgt := 208) (pc' := 204) dX11_isTimes_201 (by decide) rfl (fun hc39 => ?_) (fun hc39 => ?_)
            · replace hf := if_t hc39 hf
              refine ex_sub [1, 3, 4, 0] rfl (k_X11_isTimes_b145_j204 hO  hf hC hX)
            · replace hf := if_f hc39 hf
              refine ex_sub [1, 3, 4, 0] rfl (k_X11_isTimes_b145_j208 hO  hf hC hX)
          · replace hf := if_f hc38 hf
            refine ex_sub [1, 3, 4, 0] rfl (k_X11_isTimes_b145_j208 hO  hf hC hX)
  · replace hf := if_f hc26 hf
    exact ex_sub [0, 1, 2] rfl (hX _ _ (Option.some.inj hf).symm)
def f_X11_isTimes_l145 (N : Nat) (v3 : Int32) (v2 : Int32) (v4 : Int32) (L : ML) : Option (Int32 × ML) := loopN (fun s => f_X11_isTimes_b145 N v3 s.1 s.2.1 s.2.2) N (v2, v4, L)
set_option maxRecDepth 100000 in
set_option maxHeartbeats 4000000 in
theorem k_X11_isTimes_l145 {G : GX} {Q : State → Prop} {X : MX} (hO : shX11 X) {v3 : Int32}  {N0 : Nat} {I : MI} {out : (Int32 × ML)} (hX : ∀ (w2 : Int32) (L' : ML), out = (w2, L') → Ex G mX11_isTimes rmX11_isTimes Q (0, 0) X I L' 230 [(0, .ref (gB G + 99)), (2, .int w2), (3, .int v3)] []) : ∀ (N : Nat) (v2 : Int32) (v4 : Int32) (L : ML), loopN (fun s => f_X11_isTimes_b145 N0 v3 s.1 s.2.1 s.2.2) N (v2, v4, L) = some out → Ex G mX11_isTimes rmX11_isTimes Q (0, 0) X I L 145 [(0, .ref (gB G + 99)), (2, .int v2), (3, .int v3), (4, .int v4)] [] := by
  intro N
  induction N with
  | zero => intro v2 v4 L hf; exact absurd (loopN_zero hf) id
  | succ n ih =>
    intro v2 v4 L hf
    rcases loopN_succ hf with ⟨s, hb, hl⟩ | hb
    · obtain ⟨v2', v4', L'⟩ := s
      refine k_X11_isTimes_b145 hO  hb (fun _ _ _ he => ?_) (fun _ _ he => by cases he)
      cases he
      exact ih v2' v4' L' hl
    · exact k_X11_isTimes_b145 hO  hb (fun _ _ _ he => by cases he) (fun x0 x1 he => hX x0 x1 (Sum.inr.inj he))
def f_X11_isTimes_b136 (N : Nat)  (v2 : Int32) (v3 : Int32) (L : ML) : Option ((Int32 × Int32 × ML) ⊕ (Int32 × ML)) := (if v3 < 14 then bnd2 (f_X11_isTimes_l145 N v3 v2 0 L) fun x40 L41 => some (.inl (x40, v3 + 1, L41)) else some (.inr (v2, L)))
set_option maxRecDepth 100000 in
set_option maxHeartbeats 4000000 in
theorem k_X11_isTimes_b136 {G : GX} {Q : State → Prop} {X : MX} (hO : shX11 X)   {v2 : Int32} {v3 : Int32} {N : Nat} {I : MI} {L : ML} {out : (Int32 × Int32 × ML) ⊕ (Int32 × ML)} (hf : f_X11_isTimes_b136 N v2 v3 L = some out) (hC : ∀ (v2' : Int32) (v3' : Int32) (L' : ML), out = .inl (v2', v3', L') → Ex G mX11_isTimes rmX11_isTimes Q (0, 0) X I L' 136 [(0, .ref (gB G + 99)), (2, .int v2'), (3, .int v3')] []) (hX : ∀ (w2 : Int32) (L' : ML), out = .inr (w2, L') → Ex G mX11_isTimes rmX11_isTimes Q (0, 0) X I L' 236 [(2, .int w2)] []) : Ex G mX11_isTimes rmX11_isTimes Q (0, 0) X I L 136 [(0, .ref (gB G + 99)), (2, .int v2), (3, .int v3)] [] := by
  unfold f_X11_isTimes_b136 at hf
  refine ex_iload_n 2 (pc' := 137) dX11_isTimes_136 rfl rfl rfl ?_
  refine ex_bipush (v := 14) (pc' := 139) dX11_isTimes_137 bp_14 rfl ?_
  refine ex_icmpge (tgt := 236) (pc' := 142) dX11_isTimes_139 (by decide) rfl (fun hc25 => ?_) (fun hc25 => ?_)
  · replace hf := if_t hc25 hf
    refine ex_iconst (v := 0) (pc' := 143) dX11_isTimes_142 ic_0 rfl ?_
    refine ex_istore (lv' := [(4, .int 0), (0, .ref (gB G + 99)), (2, .int v2), (3, .int v3)]) (pc' := 145) dX11_isTimes_143 (Nat.le_of_ble_eq_true rfl) rfl rfl ?_
    refine ex_sub (lv' := [(0, .ref (gB G + 99)), (2, .int v2), (3, .int v3), (4, .int 0)]) [1, 2, 3, 0] rfl ?_
    obtain ⟨x40, L41, hq42, hf⟩ := of_bnd2 hf
    refine k_X11_isTimes_l145 hO (fun x40' L41' he => ?_) _ _ _ _ hq42
    cases he
    refine ex_iincc (lv' := [(3, .int (v3 + 1)), (0, .ref (gB G + 99)), (2, .int x40)]) 2 (pc' := 233) dX11_isTimes_230 rfl ic_1 (Nat.le_of_ble_eq_true rfl) rfl rfl ?_
    refine ex_goto (tgt := 136) dX11_isTimes_233 (by decide) ?_
    exact ex_sub [1, 2, 0] rfl (hC _ _ _ (Option.some.inj hf).symm)
  · replace hf := if_f hc25 hf
    exact ex_sub [1] rfl (hX _ _ (Option.some.inj hf).symm)
def f_X11_isTimes_l136 (N : Nat)  (v2 : Int32) (v3 : Int32) (L : ML) : Option (Int32 × ML) := loopN (fun s => f_X11_isTimes_b136 N s.1 s.2.1 s.2.2) N (v2, v3, L)
set_option maxRecDepth 100000 in
set_option maxHeartbeats 4000000 in
theorem k_X11_isTimes_l136 {G : GX} {Q : State → Prop} {X : MX} (hO : shX11 X)   {N0 : Nat} {I : MI} {out : (Int32 × ML)} (hX : ∀ (w2 : Int32) (L' : ML), out = (w2, L') → Ex G mX11_isTimes rmX11_isTimes Q (0, 0) X I L' 236 [(2, .int w2)] []) : ∀ (N : Nat) (v2 : Int32) (v3 : Int32) (L : ML), loopN (fun s => f_X11_isTimes_b136 N0 s.1 s.2.1 s.2.2) N (v2, v3, L) = some out → Ex G mX11_isTimes rmX11_isTimes Q (0, 0) X I L 136 [(0, .ref (gB G + 99)), (2, .int v2), (3, .int v3)] [] := by
  intro N
  induction N with
  | zero => intro v2 v3 L hf; exact absurd (loopN_zero hf) id
  | succ n ih =>
    intro v2 v3 L hf
    rcases loopN_succ hf with ⟨s, hb, hl⟩ | hb
    · obtain ⟨v2', v3', L'⟩ := s
      refine k_X11_isTimes_b136 hO  hb (fun _ _ _ he => ?_) (fun _ _ he => by cases he)
      cases he
      exact ih v2' v3' L' hl
    · exact k_X11_isTimes_b136 hO  hb (fun _ _ _ he => by cases he) (fun x0 x1 he => hX x0 x1 (Sum.inr.inj he))
def f_X11_isTimes (N : Nat) (v1 : Int32) (L : ML) : Option (Int32 × ML) := bnd1 (f_X11_isTimes_l2 N v1 0 L) fun L4 => bnd1 (f_X11_isTimes_l24 N v1 0 L4) fun L23 => bnd2 (f_X11_isTimes_l136 N 1 0 L23) fun x43 L44 => if x43 = 0 ∨ x43 = 1 then some (x43, L44) else none
set_option maxRecDepth 100000 in
set_option maxHeartbeats 4000000 in
theorem kb_X11_isTimes {G : GX} {Q : State → Prop} {X : MX} (hO : shX11 X) {v1 : Int32}  {N : Nat} {I : MI} {L : ML} {out : Int32 × ML} (hf : f_X11_isTimes N v1 L = some out) (hR : ∀ (z : Int32) (L' : ML), out = (z, L') → Q = RetQ G (some (.int z)) X I L' (0, 0)) : Ex G mX11_isTimes rmX11_isTimes Q (0, 0) X I L 0 [(0, .ref (gB G + 99)), (1, .int v1)] [] := by
  unfold f_X11_isTimes at hf
  refine ex_iconst (v := 0) (pc' := 1) dX11_isTimes_0 ic_0 rfl ?_
  refine ex_istore_n (lv' := [(2, .int 0), (0, .ref (gB G + 99)), (1, .int v1)]) (pc' := 2) dX11_isTimes_1 rfl (Nat.le_of_ble_eq_true rfl) rfl rfl ?_
  refine ex_sub (lv' := [(0, .ref (gB G + 99)), (1, .int v1), (2, .int 0)]) [1, 2, 0] rfl ?_
  obtain ⟨L4, hq5, hf⟩ := of_bnd1 hf
  refine k_X11_isTimes_l2 hO (fun L4' he => ?_) _ _ _ hq5
  cases he
  refine ex_iconst (v := 0) (pc' := 23) dX11_isTimes_22 ic_0 rfl ?_
  refine ex_istore_n (lv' := [(2, .int 0), (0, .ref (gB G + 99)), (1, .int v1)]) (pc' := 24) dX11_isTimes_23 rfl (Nat.le_of_ble_eq_true rfl) rfl rfl ?_
  refine ex_sub (lv' := [(0, .ref (gB G + 99)), (1, .int v1), (2, .int 0)]) [1, 2, 0] rfl ?_
  obtain ⟨L23, hq24, hf⟩ := of_bnd1 hf
  refine k_X11_isTimes_l24 hO (fun L23' he => ?_) _ _ _ hq24
  cases he
  refine ex_iconst (v := 1) (pc' := 133) dX11_isTimes_132 ic_1 rfl ?_
  refine ex_istore_n (lv' := [(2, .int 1), (0, .ref (gB G + 99))]) (pc' := 134) dX11_isTimes_133 rfl (Nat.le_of_ble_eq_true rfl) rfl rfl ?_
  refine ex_iconst (v := 0) (pc' := 135) dX11_isTimes_134 ic_0 rfl ?_
  refine ex_istore_n (lv' := [(3, .int 0), (2, .int 1), (0, .ref (gB G + 99))]) (pc' := 136) dX11_isTimes_135 rfl (Nat.le_of_ble_eq_true rfl) rfl rfl ?_
  refine ex_sub (lv' := [(0, .ref (gB G + 99)), (2, .int 1), (3, .int 0)]) [2, 1, 0] rfl ?_
  obtain ⟨x43, L44, hq45, hf⟩ := of_bnd2 hf
  refine k_X11_isTimes_l136 hO (fun x43' L44' he => ?_) _ _ _ _ hq45
  cases he
  refine ex_iload_n 0 (pc' := 237) dX11_isTimes_236 rfl rfl rfl ?_
  obtain ⟨hg46, hf⟩ := of_guardP hf
  exact ex_zret dX11_isTimes_237 rfl hg46 (hR _ _ (Option.some.inj hf).symm)
set_option maxRecDepth 100000 in
set_option maxHeartbeats 4000000 in
theorem k_X11_isTimes (G : GX) {X : MX} (hO : shX11 X) {v1 : Int32}  {N : Nat} {I : MI} {L : ML} {z : Int32} {L' : ML} (hf : f_X11_isTimes N v1 L = some (z, L')) : Con G mX11_isTimes yX11_isTimes rmX11_isTimes (fun B => [.ref (B + 99), .int v1]) X I L (some (.int z)) X I L' :=
  Con.of (by decide) rfl (fun h => by cases h) (fun B => Nat.le_of_ble_eq_true rfl) (fun G => kb_X11_isTimes hO  hf (fun _ _ he => by cases he; rfl))
theorem fl_X11_52 : FLD RX11 52 11 17 true := ⟨RX11, TX11, 51, rfl, inX11, by decide, lwg_at 951 (by decide +kernel) rfl, nmX11, tyX11_ok, rfl, rfl⟩
theorem fl_X11_55 : FLD RX11 55 11 18 true := ⟨RX11, TX11, 51, rfl, inX11, by decide, lwg_at 952 (by decide +kernel) rfl, nmX11, tyX11_ok, rfl, rfl⟩
theorem fl_X11_58 : FLD RX11 58 11 19 true := ⟨RX11, TX11, 51, rfl, inX11, by decide, lwg_at 953 (by decide +kernel) rfl, nmX11, tyX11_ok, rfl, rfl⟩
theorem ic_3 : Int32.ofInt 3 = 3 := by decide
-- X11_item ('RookWordsModel', 'item', '(IIJ)I')
def rmX11_item : RM := ((2, 45, 0, 0), false, (some FieldType.int))
def f_X11_item (v1 : Int32) (v2 : Int32) (v3 : Int64) (I : MI) (L : ML) : Option (Int32 × ML) := bnd1 (f_X11_isSix v1) fun r1 => (if r1 = 0 then some ((-1), L) else if inb v1 6 then (if (I 113 (Int32.toNatClampNeg v1)) < 0 then some ((-11), L) else if inb v1 6 then bnd1 (f_X11_in (Int32.toInt64 v2) 0 (Int32.toInt64 ((I 114 (Int32.toNatClampNeg v1)) - 1))) fun r7 => (if r7 = 0 then some ((-13), L) else if inb v1 6 then (if (I 113 (Int32.toNatClampNeg v1)) = 0 then if inb ((60 * v1) + v2) 360 then letv (upL L 115 (Int32.toNatClampNeg ((60 * v1) + v2)) (Int32.toInt64 (Int8.toInt32 (Int32.toInt8 (Int64.toInt32 v3))))) fun L13 => some (1, L13) else none else (if (I 113 (Int32.toNatClampNeg v1)) = 1 then if inb ((60 * v1) + v2) 360 then letv (upL L 115 (Int32.toNatClampNeg ((60 * v1) + v2)) (Int32.toInt64 (Int16.toInt32 (Int32.toInt16 (Int64.toInt32 v3))))) fun L16 => some (1, L16) else none else (if (I 113 (Int32.toNatClampNeg v1)) = 2 then if inb ((60 * v1) + v2) 360 then letv (upL L 115 (Int32.toNatClampNeg ((60 * v1) + v2)) (Int32.toInt64 (Int64.toInt32 v3))) fun L19 => some (1, L19) else none else (if (I 113 (Int32.toNatClampNeg v1)) = 3 then if inb ((60 * v1) + v2) 360 then letv (upL L 115 (Int32.toNatClampNeg ((60 * v1) + v2)) v3) fun L22 => some (1, L22) else none else (if v3 = 0 then if inb ((60 * v1) + v2) 360 then letv (upL L 115 (Int32.toNatClampNeg ((60 * v1) + v2)) 0) fun L25 => some (1, L25) else none else if inb ((60 * v1) + v2) 360 then letv (upL L 115 (Int32.toNatClampNeg ((60 * v1) + v2)) 1) fun L27 => some (1, L27) else none))))) else none) else none) else none)
set_option maxRecDepth 100000 in
set_option maxHeartbeats 4000000 in
theorem kb_X11_item {G : GX} {Q : State → Prop} {X : MX} (hO : shX11 X) {v1 : Int32} {v2 : Int32} {v3 : Int64}  {I : MI} {L : ML} {out : Int32 × ML} (hf : f_X11_item v1 v2 v3 I L = some out) (hR : ∀ (z : Int32) (L' : ML), out = (z, L') → Q = RetQ G (some (.int z)) X I L' (0, 0)) : Ex G mX11_item rmX11_item Q (0, 0) X I L 0 [(0, .ref (gB G + 99)), (1, .int v1), (2, .int v2), (3, .long v3)] [] := by
  unfold f_X11_item at hf
  refine ex_iload_n 1 (pc' := 1) dX11_item_0 rfl rfl rfl ?_
  obtain ⟨r1, hq2, hf⟩ := of_bnd1 hf
  refine ex_callS_i (rm' := rmX11_isSix) (st := []) (pc' := 4) [.int v1] dX11_item_1 cl_X11_133 (k_X11_isSix G hq2) rfl rfl rfl (ROOM_of rfl) (Nat.le_of_ble_eq_true rfl) rfl rfl ?_
  refine ex_ifne (tgt := 9) (pc' := 7) dX11_item_4 (by decide) rfl (fun hc3 => ?_) (fun hc3 => ?_)
  · replace hf := if_t hc3 hf
    refine ex_iconst (v := (-1)) (pc' := 8) dX11_item_7 ic_m1 rfl ?_
    exact ex_iret dX11_item_8 rfl (hR _ _ (Option.some.inj hf).symm)
  · replace hf := if_f hc3 hf
    refine ex_aload_n 0 (pc' := 10) dX11_item_9 rfl rfl rfl ?_
    refine ex_getR (pc' := 13) dX11_item_10 fl_X11_52 rfl (sh11_k hO) (sh11_F17 hO) rfl ?_
    refine ex_iload_n 1 (pc' := 14) dX11_item_13 rfl rfl rfl ?_
    obtain ⟨hg4, hf⟩ := of_guard hf
    refine ex_iald (pc' := 15) dX11_item_14 (sh11_T17 hO) (inb_in hg4) rfl ?_
    refine ex_ifge (tgt := 21) (pc' := 18) dX11_item_15 (by decide) rfl (fun hc5 => ?_) (fun hc5 => ?_)
    · replace hf := if_t hc5 hf
      refine ex_bipush (v := (-11)) (pc' := 20) dX11_item_18 bp_m11 rfl ?_
      exact ex_iret dX11_item_20 rfl (hR _ _ (Option.some.inj hf).symm)
    · replace hf := if_f hc5 hf
      refine ex_iload_n 2 (pc' := 22) dX11_item_21 rfl rfl rfl ?_
      refine ex_i2l (pc' := 23) dX11_item_22 rfl ?_
      refine ex_lconst (v := 0) (pc' := 24) dX11_item_23 lc_0 rfl ?_
      refine ex_aload_n 0 (pc' := 25) dX11_item_24 rfl rfl rfl ?_
      refine ex_getR (pc' := 28) dX11_item_25 fl_X11_55 rfl (sh11_k hO) (sh11_F18 hO) rfl ?_
      refine ex_iload_n 1 (pc' := 29) dX11_item_28 rfl rfl rfl ?_
      obtain ⟨hg6, hf⟩ := of_guard hf
      refine ex_iald (pc' := 30) dX11_item_29 (sh11_T18 hO) (inb_in hg6) rfl ?_
      refine ex_iconst (v := 1) (pc' := 31) dX11_item_30 ic_1 rfl ?_
      refine ex_isub (pc' := 32) dX11_item_31 rfl ?_
      refine ex_i2l (pc' := 33) dX11_item_32 rfl ?_
      obtain ⟨r7, hq8, hf⟩ := of_bnd1 hf
      refine ex_callS_i (rm' := rmX11_in) (st := []) (pc' := 36) [.long (Int32.toInt64 v2), .long 0, .long (Int32.toInt64 ((I 114 (Int32.toNatClampNeg v1)) - 1))] dX11_item_33 cl_X11_129 (k_X11_in G hq8) rfl rfl rfl (ROOM_of rfl) (Nat.le_of_ble_eq_true rfl) rfl rfl ?_
      refine ex_ifne (tgt := 42) (pc' := 39) dX11_item_36 (by decide) rfl (fun hc9 => ?_) (fun hc9 => ?_)
      · replace hf := if_t hc9 hf
        refine ex_bipush (v := (-13)) (pc' := 41) dX11_item_39 bp_m13 rfl ?_
        exact ex_iret dX11_item_41 rfl (hR _ _ (Option.some.inj hf).symm)
      · replace hf := if_f hc9 hf
        refine ex_aload_n 0 (pc' := 43) dX11_item_42 rfl rfl rfl ?_
        refine ex_getR (pc' := 46) dX11_item_43 fl_X11_52 rfl (sh11_k hO) (sh11_F17 hO) rfl ?_
        refine ex_iload_n 1 (pc' := 47) dX11_item_46 rfl rfl rfl ?_
        obtain ⟨hg10, hf⟩ := of_guard hf
        refine ex_iald (pc' := 48) dX11_item_47 (sh11_T17 hO) (inb_in hg10) rfl ?_
        refine ex_istore (lv' := [(5, .int (I 113 (Int32.toNatClampNeg v1))), (0, .ref (gB G + 99)), (1, .int v1), (2, .int v2), (3, .long v3)]) (pc' := 50) dX11_item_48 (Nat.le_of_ble_eq_true rfl) rfl rfl ?_
        refine ex_aload_n 1 (pc' := 51) dX11_item_50 rfl rfl rfl ?_
        refine ex_getR (pc' := 54) dX11_item_51 fl_X11_58 rfl (sh11_k hO) (sh11_F19 hO) rfl ?_
        refine ex_bipush (v := 60) (pc' := 56) dX11_item_54 bp_60 rfl ?_
        refine ex_iload_n 2 (pc' := 57) dX11_item_56 rfl rfl rfl ?_
        refine ex_imul (pc' := 58) dX11_item_57 rfl ?_
        refine ex_iload_n 3 (pc' := 59) dX11_item_58 rfl rfl rfl ?_
        refine ex_iadd (pc' := 60) dX11_item_59 rfl ?_
        refine ex_iload 0 (pc' := 62) dX11_item_60 rfl rfl ?_
        refine ex_ifne (tgt := 72) (pc' := 65) dX11_item_62 (by decide) rfl (fun hc11 => ?_) (fun hc11 => ?_)
        · replace hf := if_t hc11 hf
          refine ex_lload_n 4 (pc' := 66) dX11_item_65 rfl rfl rfl ?_
          refine ex_l2i (pc' := 67) dX11_item_66 rfl ?_
          refine ex_i2b (pc' := 68) dX11_item_67 rfl ?_
          refine ex_i2l (pc' := 69) dX11_item_68 rfl ?_
          refine ex_goto (tgt := 118) dX11_item_69 (by decide) ?_
          obtain ⟨hg12, hf⟩ := of_guard hf
          refine ex_last (pc' := 119) dX11_item_118 (sh11_T19 hO) (inb_in hg12) rfl ?_
          obtain ⟨L13, hL13, hf⟩ := of_let hf
          rw [← hL13]
          refine ex_iconst (v := 1) (pc' := 120) dX11_item_119 ic_1 rfl ?_
          exact ex_iret dX11_item_120 rfl (hR _ _ (Option.some.inj hf).symm)
        · replace hf := if_f hc11 hf
          refine ex_iload 0 (pc' := 74) dX11_item_72 rfl rfl ?_
          refine ex_iconst (v := 1) (pc' := 75) dX11_item_74 ic_1 rfl ?_
          refine ex_icmpne (tgt := 85) (pc' := 78) dX11_item_75 (by decide) rfl (fun hc14 => ?_) (fun hc14 => ?_)
          · replace hf := if_t hc14 hf
            refine ex_lload_n 4 (pc' := 79) dX11_item_78 rfl rfl rfl ?_
            refine ex_l2i (pc' := 80) dX11_item_79 rfl ?_
            refine ex_i2s (pc' := 81) dX11_item_80 rfl ?_
            refine ex_i2l (pc' := 82) dX11_item_81 rfl ?_
            refine ex_goto (tgt := 118) dX11_item_82 (by decide) ?_
            obtain ⟨hg15, hf⟩ := of_guard hf
            refine ex_last (pc' := 119) dX11_item_118 (sh11_T19 hO) (inb_in hg15) rfl ?_
            obtain ⟨L16, hL16, hf⟩ := of_let hf
            rw [← hL16]
            refine ex_iconst (v := 1) (pc' := 120) dX11_item_119 ic_1 rfl ?_
            exact ex_iret dX11_item_120 rfl (hR _ _ (Option.some.inj hf).symm)
          · replace hf := if_f hc14 hf
            refine ex_iload 0 (pc' := 87) dX11_item_85 rfl rfl ?_
            refine ex_iconst (v := 2) (pc' := 88) dX11_item_87 ic_2 rfl ?_
            refine ex_icmpne (tgt := 97) (pc' := 91) dX11_item_88 (by decide) rfl (fun hc17 => ?_) (fun hc17 => ?_)
            · replace hf := if_t hc17 hf
              refine ex_lload_n 4 (pc' := 92) dX11_item_91 rfl rfl rfl ?_
              refine ex_l2i (pc' := 93) dX11_item_92 rfl ?_
              refine ex_i2l (pc' := 94) dX11_item_93 rfl ?_
              refine ex_goto (tgt := 118) dX11_item_94 (by decide) ?_
              obtain ⟨hg18, hf⟩ := of_guard hf
              refine ex_last (pc' := 119) dX11_item_118 (sh11_T19 hO) (inb_in hg18) rfl ?_
              obtain ⟨L19, hL19, hf⟩ := of_let hf
              rw [← hL19]
              refine ex_iconst (v := 1) (pc' := 120) dX11_item_119 ic_1 rfl ?_
              exact ex_iret dX11_item_120 rfl (hR _ _ (Option.some.inj hf).symm)
            · replace hf := if_f hc17 hf
              refine ex_iload 0 (pc' := 99) dX11_item_97 rfl rfl ?_
              refine ex_iconst (v := 3) (pc' := 100) dX11_item_99 ic_3 rfl ?_
              refine ex_icmpne (tgt := 107) (pc' := 103) dX11_item_100 (by decide) rfl (fun hc20 => ?_) (fun hc20 => ?_)
              · replace hf := if_t hc20 hf
                refine ex_lload_n 4 (pc' := 104) dX11_item_103 rfl rfl rfl ?_
                refine ex_goto (tgt := 118) dX11_item_104 (by decide) ?_
                obtain ⟨hg21, hf⟩ := of_guard hf
                refine ex_last (pc' := 119) dX11_item_118 (sh11_T19 hO) (inb_in hg21) rfl ?_
                obtain ⟨L22, hL22, hf⟩ := of_let hf
                rw [← hL22]
                refine ex_iconst (v := 1) (pc' := 120) dX11_item_119 ic_1 rfl ?_
                exact ex_iret dX11_item_120 rfl (hR _ _ (Option.some.inj hf).symm)
              · replace hf := if_f hc20 hf
                refine ex_lload_n 4 (pc' := 108) dX11_item_107 rfl rfl rfl ?_
                refine ex_lconst (v := 0) (pc' := 109) dX11_item_108 lc_0 rfl ?_
                refine ex_lcmp (pc' := 110) dX11_item_109 rfl ?_
                refine ex_lifeq (tgt := 117) (pc' := 113) dX11_item_110 (by decide) rfl (fun hc23 => ?_) (fun hc23 => ?_)
                · replace hf := if_t hc23 hf
                  refine ex_lconst (v := 0) (pc' := 118) dX11_item_117 lc_0 rfl ?_
                  obtain ⟨hg24, hf⟩ := of_guard hf
                  refine ex_last (pc' := 119) dX11_item_118 (sh11_T19 hO) (inb_in hg24) rfl ?_
                  obtain ⟨L25, hL25, hf⟩ := of_let hf
                  rw [← hL25]
                  refine ex_iconst (v := 1) (pc' := 120) dX11_item_119 ic_1 rfl ?_
                  exact ex_iret dX11_item_120 rfl (hR _ _ (Option.some.inj hf).symm)
                · replace hf := if_f hc23 hf
                  refine ex_lconst (v := 1) (pc' := 114) dX11_item_113 lc_1 rfl ?_
                  refine ex_goto (tgt := 118) dX11_item_114 (by decide) ?_
                  obtain ⟨hg26, hf⟩ := of_guard hf
                  refine ex_last (pc' := 119) dX11_item_118 (sh11_T19 hO) (inb_in hg26) rfl ?_
                  obtain ⟨L27, hL27, hf⟩ := of_let hf
                  rw [← hL27]
                  refine ex_iconst (v := 1) (pc' := 120) dX11_item_119 ic_1 rfl ?_
                  exact ex_iret dX11_item_120 rfl (hR _ _ (Option.some.inj hf).symm)
set_option maxRecDepth 100000 in
set_option maxHeartbeats 4000000 in
theorem k_X11_item (G : GX) {X : MX} (hO : shX11 X) {v1 : Int32} {v2 : Int32} {v3 : Int64}  {I : MI} {L : ML} {z : Int32} {L' : ML} (hf : f_X11_item v1 v2 v3 I L = some (z, L')) : Con G mX11_item yX11_item rmX11_item (fun B => [.ref (B + 99), .int v1, .int v2, .long v3]) X I L (some (.int z)) X I L' :=
  Con.of (by decide) rfl (fun h => by cases h) (fun B => Nat.le_of_ble_eq_true rfl) (fun G => kb_X11_item hO  hf (fun _ _ he => by cases he; rfl))
theorem cl_X11_139 : CLV RX11 139 yX11_comes mX11_comes none 3 := ⟨⟨lwg_at 1108 (by decide +kernel) rfl, lwg_at 1110 (by decide +kernel) rfl, lwg_at 19 (by decide +kernel) rfl, lwg_at 61 (by decide +kernel) rfl⟩, lwg_at 1111 (by decide +kernel) rfl, ⟨by decide +kernel, by decide +kernel, by decide +kernel⟩⟩
-- X11_join ('RookWordsModel', 'join', '(II)I')
def rmX11_join : RM := ((2, 45, 0, 0), false, (some FieldType.int))
def f_X11_join_b42 (N : Nat) (v1 : Int32) (v2 : Int32) (v3 : Int32) (v4 : Int32) (I : MI) : Option ((Int32 × MI) ⊕ (MI)) := (if v4 < v3 then if inb ((12 * v2) + v4) 72 then bnd1 (f_X11_comes N v1 (I 101 (Int32.toNatClampNeg ((12 * v2) + v4))) 1 I) fun I12 => some (.inl (v4 + 1, I12)) else none else some (.inr I))
set_option maxRecDepth 100000 in
set_option maxHeartbeats 4000000 in
theorem k_X11_join_b42 {G : GX} {Q : State → Prop} {X : MX} (hO : shX11 X) {v1 : Int32} {v2 : Int32} {v3 : Int32}  {v4 : Int32} {N : Nat} {I : MI} {L : ML} {out : (Int32 × MI) ⊕ (MI)} (hf : f_X11_join_b42 N v1 v2 v3 v4 I = some out) (hC : ∀ (v4' : Int32) (I' : MI), out = .inl (v4', I') → Ex G mX11_join rmX11_join Q (0, 0) X I' L 42 [(0, .ref (gB G + 99)), (1, .int v1), (2, .int v2), (3, .int v3), (4, .int v4')] []) (hX : ∀ (I' : MI), out = .inr I' → Ex G mX11_join rmX11_join Q (0, 0) X I' L 72 [(0, .ref (gB G + 99)), (1, .int v1)] []) : Ex G mX11_join rmX11_join Q (0, 0) X I L 42 [(0, .ref (gB G + 99)), (1, .int v1), (2, .int v2), (3, .int v3), (4, .int v4)] [] := by
  unfold f_X11_join_b42 at hf
  refine ex_iload 4 (pc' := 44) dX11_join_42 rfl rfl ?_
  refine ex_iload_n 3 (pc' := 45) dX11_join_44 rfl rfl rfl ?_
  refine ex_icmpge (tgt := 72) (pc' := 48) dX11_join_45 (by decide) rfl (fun hc10 => ?_) (fun hc10 => ?_)
  · replace hf := if_t hc10 hf
    refine ex_aload_n 0 (pc' := 49) dX11_join_48 rfl rfl rfl ?_
    refine ex_iload_n 1 (pc' := 50) dX11_join_49 rfl rfl rfl ?_
    refine ex_aload_n 0 (pc' := 51) dX11_join_50 rfl rfl rfl ?_
    refine ex_getR (pc' := 54) dX11_join_51 fl_X11_15 rfl (sh11_k hO) (sh11_F1 hO) rfl ?_
    refine ex_bipush (v := 12) (pc' := 56) dX11_join_54 bp_12 rfl ?_
    refine ex_iload_n 2 (pc' := 57) dX11_join_56 rfl rfl rfl ?_
    refine ex_imul (pc' := 58) dX11_join_57 rfl ?_
    refine ex_iload 4 (pc' := 60) dX11_join_58 rfl rfl ?_
    refine ex_iadd (pc' := 61) dX11_join_60 rfl ?_
    obtain ⟨hg11, hf⟩ := of_guard hf
    refine ex_iald (pc' := 62) dX11_join_61 (sh11_T1 hO) (inb_in hg11) rfl ?_
    refine ex_iconst (v := 1) (pc' := 63) dX11_join_62 ic_1 rfl ?_
    obtain ⟨I12, hq13, hf⟩ := of_bnd1 hf
    refine ex_callV_v (rm' := rmX11_comes) (st := []) (pc' := 66) [.int v1, .int (I 101 (Int32.toNatClampNeg ((12 * v2) + v4))), .int 1] dX11_join_63 cl_X11_139 (k_X11_comes G hO hq13) rfl (sh11_k hO) ⟨_, _, rfl⟩ rfl rfl (ROOM_of rfl) (Nat.le_of_ble_eq_true rfl) rfl rfl ?_
    refine ex_iincc (lv' := [(4, .int (v4 + 1)), (0, .ref (gB G + 99)), (1, .int v1), (2, .int v2), (3, .int v3)]) 4 (pc' := 69) dX11_join_66 rfl ic_1 (Nat.le_of_ble_eq_true rfl) rfl rfl ?_
    refine ex_goto (tgt := 42) dX11_join_69 (by decide) ?_
    exact ex_sub [1, 2, 3, 4, 0] rfl (hC _ _ (Option.some.inj hf).symm)
  · replace hf := if_f hc10 hf
    exact ex_sub [0, 1] rfl (hX _ (Option.some.inj hf).symm)
def f_X11_join_l42 (N : Nat) (v1 : Int32) (v2 : Int32) (v3 : Int32) (v4 : Int32) (I : MI) : Option (MI) := loopN (fun s => f_X11_join_b42 N v1 v2 v3 s.1 s.2) N (v4, I)
set_option maxRecDepth 100000 in
set_option maxHeartbeats 4000000 in
theorem k_X11_join_l42 {G : GX} {Q : State → Prop} {X : MX} (hO : shX11 X) {v1 : Int32} {v2 : Int32} {v3 : Int32}  {N0 : Nat} {L : ML} {out : (MI)} (hX : ∀ (I' : MI), out = I' → Ex G mX11_join rmX11_join Q (0, 0) X I' L 72 [(0, .ref (gB G + 99)), (1, .int v1)] []) : ∀ (N : Nat) (v4 : Int32) (I : MI), loopN (fun s => f_X11_join_b42 N0 v1 v2 v3 s.1 s.2) N (v4, I) = some out → Ex G mX11_join rmX11_join Q (0, 0) X I L 42 [(0, .ref (gB G + 99)), (1, .int v1), (2, .int v2), (3, .int v3), (4, .int v4)] [] := by
  intro N
  induction N with
  | zero => intro v4 I hf; exact absurd (loopN_zero hf) id
  | succ n ih =>
    intro v4 I hf
    rcases loopN_succ hf with ⟨s, hb, hl⟩ | hb
    · obtain ⟨v4', I'⟩ := s
      refine k_X11_join_b42 hO  hb (fun _ _ he => ?_) (fun _ he => by cases he)
      cases he
      exact ih v4' I' hl
    · exact k_X11_join_b42 hO  hb (fun _ _ he => by cases he) (fun x0 he => hX x0 (Sum.inr.inj he))
def f_X11_join (N : Nat) (v1 : Int32) (v2 : Int32) (I : MI) : Option (Int32 × MI) := bnd1 (f_X11_isSix v1) fun r1 => (if r1 = 0 then some ((-1), I) else bnd1 (f_X11_isSix v2) fun r4 => (if r4 = 0 then some ((-1), I) else if inb v2 6 then if inb v1 6 then (if 12 < ((I 100 (Int32.toNatClampNeg v1)) + (I 100 (Int32.toNatClampNeg v2))) then some ((-4), I) else bnd1 (f_X11_join_l42 N v1 v2 (I 100 (Int32.toNatClampNeg v2)) 0 I) fun I14 => if inb v1 6 then some (I14 100 (Int32.toNatClampNeg v1), I14) else none) else none else none))
set_option maxRecDepth 100000 in
set_option maxHeartbeats 4000000 in
theorem kb_X11_join {G : GX} {Q : State → Prop} {X : MX} (hO : shX11 X) {v1 : Int32} {v2 : Int32}  {N : Nat} {I : MI} {L : ML} {out : Int32 × MI} (hf : f_X11_join N v1 v2 I = some out) (hR : ∀ (z : Int32) (I' : MI), out = (z, I') → Q = RetQ G (some (.int z)) X I' L (0, 0)) : Ex G mX11_join rmX11_join Q (0, 0) X I L 0 [(0, .ref (gB G + 99)), (1, .int v1), (2, .int v2)] [] := by
  unfold f_X11_join at hf
  refine ex_iload_n 1 (pc' := 1) dX11_join_0 rfl rfl rfl ?_
  obtain ⟨r1, hq2, hf⟩ := of_bnd1 hf
  refine ex_callS_i (rm' := rmX11_isSix) (st := []) (pc' := 4) [.int v1] dX11_join_1 cl_X11_133 (k_X11_isSix G hq2) rfl rfl rfl (ROOM_of rfl) (Nat.le_of_ble_eq_true rfl) rfl rfl ?_
  refine ex_ifeq (tgt := 14) (pc' := 7) dX11_join_4 (by decide) rfl (fun hc3 => ?_) (fun hc3 => ?_)
  · replace hf := if_t hc3 hf
    refine ex_iconst (v := (-1)) (pc' := 15) dX11_join_14 ic_m1 rfl ?_
    exact ex_iret dX11_join_15 rfl (hR _ _ (Option.some.inj hf).symm)
  · replace hf := if_f hc3 hf
    refine ex_iload_n 2 (pc' := 8) dX11_join_7 rfl rfl rfl ?_
    obtain ⟨r4, hq5, hf⟩ := of_bnd1 hf
    refine ex_callS_i (rm' := rmX11_isSix) (st := []) (pc' := 11) [.int v2] dX11_join_8 cl_X11_133 (k_X11_isSix G hq5) rfl rfl rfl (ROOM_of rfl) (Nat.le_of_ble_eq_true rfl) rfl rfl ?_
    refine ex_ifne (tgt := 16) (pc' := 14) dX11_join_11 (by decide) rfl (fun hc6 => ?_) (fun hc6 => ?_)
    · replace hf := if_t hc6 hf
      refine ex_iconst (v := (-1)) (pc' := 15) dX11_join_14 ic_m1 rfl ?_
      exact ex_iret dX11_join_15 rfl (hR _ _ (Option.some.inj hf).symm)
    · replace hf := if_f hc6 hf
      refine ex_aload_n 0 (pc' := 17) dX11_join_16 rfl rfl rfl ?_
      refine ex_getR (pc' := 20) dX11_join_17 fl_X11_9 rfl (sh11_k hO) (sh11_F0 hO) rfl ?_
      refine ex_iload_n 2 (pc' := 21) dX11_join_20 rfl rfl rfl ?_
      obtain ⟨hg7, hf⟩ := of_guard hf
      refine ex_iald (pc' := 22) dX11_join_21 (sh11_T0 hO) (inb_in hg7) rfl ?_
      refine ex_istore_n (lv' := [(3, .int (I 100 (Int32.toNatClampNeg v2))), (0, .ref (gB G + 99)), (1, .int v1), (2, .int v2)]) (pc' := 23) dX11_join_22 rfl (Nat.le_of_ble_eq_true rfl) rfl rfl ?_
      refine ex_aload_n 1 (pc' := 24) dX11_join_23 rfl rfl rfl ?_
      refine ex_getR (pc' := 27) dX11_join_24 fl_X11_9 rfl (sh11_k hO) (sh11_F0 hO) rfl ?_
      refine ex_iload_n 2 (pc' := 28) dX11_join_27 rfl rfl rfl ?_
      obtain ⟨hg8, hf⟩ := of_guard hf
      refine ex_iald (pc' := 29) dX11_join_28 (sh11_T0 hO) (inb_in hg8) rfl ?_
      refine ex_iload_n 0 (pc' := 30) dX11_join_29 rfl rfl rfl ?_
      refine ex_iadd (pc' := 31) dX11_join_30 rfl ?_
      refine ex_bipush (v := 12) (pc' := 33) dX11_join_31 bp_12 rfl ?_
      refine ex_icmple (tgt := 39) (pc' := 36) dX11_join_33 (by decide) rfl (fun hc9 => ?_) (fun hc9 => ?_)
      · replace hf := if_t hc9 hf
        refine ex_bipush (v := (-4)) (pc' := 38) dX11_join_36 bp_m4 rfl ?_
        exact ex_iret dX11_join_38 rfl (hR _ _ (Option.some.inj hf).symm)
      · replace hf := if_f hc9 hf
        refine ex_iconst (v := 0) (pc' := 40) dX11_join_39 ic_0 rfl ?_
        refine ex_istore (lv' := [(4, .int 0), (3, .int (I 100 (Int32.toNatClampNeg v2))), (0, .ref (gB G + 99)), (1, .int v1), (2, .int v2)]) (pc' := 42) dX11_join_40 (Nat.le_of_ble_eq_true rfl) rfl rfl ?_
        refine ex_sub (lv' := [(0, .ref (gB G + 99)), (1, .int v1), (2, .int v2), (3, .int (I 100 (Int32.toNatClampNeg v2))), (4, .int 0)]) [2, 3, 4, 1, 0] rfl ?_
        obtain ⟨I14, hq15, hf⟩ := of_bnd1 hf
        refine k_X11_join_l42 hO (fun I14' he => ?_) _ _ _ hq15
        cases he
        refine ex_aload_n 0 (pc' := 73) dX11_join_72 rfl rfl rfl ?_
        refine ex_getR (pc' := 76) dX11_join_73 fl_X11_9 rfl (sh11_k hO) (sh11_F0 hO) rfl ?_
        refine ex_iload_n 1 (pc' := 77) dX11_join_76 rfl rfl rfl ?_
        obtain ⟨hg16, hf⟩ := of_guard hf
        refine ex_iald (pc' := 78) dX11_join_77 (sh11_T0 hO) (inb_in hg16) rfl ?_
        exact ex_iret dX11_join_78 rfl (hR _ _ (Option.some.inj hf).symm)
set_option maxRecDepth 100000 in
set_option maxHeartbeats 4000000 in
theorem k_X11_join (G : GX) {X : MX} (hO : shX11 X) {v1 : Int32} {v2 : Int32}  {N : Nat} {I : MI} {L : ML} {z : Int32} {I' : MI} (hf : f_X11_join N v1 v2 I = some (z, I')) : Con G mX11_join yX11_join rmX11_join (fun B => [.ref (B + 99), .int v1, .int v2]) X I L (some (.int z)) X I' L :=
  Con.of (by decide) rfl (fun h => by cases h) (fun B => Nat.le_of_ble_eq_true rfl) (fun G => kb_X11_join hO  hf (fun _ _ he => by cases he; rfl))
-- X11_judge ('RookWordsModel', 'judge', '(III)I')
def rmX11_judge : RM := ((2, 48, 0, 0), false, (some FieldType.int))
def f_X11_judge_b62 (N : Nat) (v1 : Int32) (v2 : Int32) (v3 : Int32) (v4 : Int32) (I : MI) (L : ML) : Option ((Int32) ⊕ ((Unit) ⊕ (Int32 × MI))) := if inb v3 6 then (if (I 103 (Int32.toNatClampNeg v3)) < v4 then some (.inr (.inl ())) else if inb v1 6 then (if ((Int32.toInt64 v2) + (Int32.toInt64 v4)) < (Int32.toInt64 (I 114 (Int32.toNatClampNeg v1))) then if inb (((60 * v1) + v2) + v4) 360 then if inb v4 7 then (if (L 115 (Int32.toNatClampNeg (((60 * v1) + v2) + v4))) = (Int32.toInt64 (I 130 (Int32.toNatClampNeg v4))) then some (.inl (v4 + 1)) else some (.inr (.inr (v4, I)))) else none else none else some (.inr (.inr (100 + v4, I)))) else none) else none
set_option maxRecDepth 100000 in
set_option maxHeartbeats 4000000 in
theorem k_X11_judge_b62 {G : GX} {Q : State → Prop} {X : MX} (hO : shX11 X) {v1 : Int32} {v2 : Int32} {v3 : Int32}  {v4 : Int32} {N : Nat} {I : MI} {L : ML} {out : (Int32) ⊕ ((Unit) ⊕ (Int32 × MI))} (hf : f_X11_judge_b62 N v1 v2 v3 v4 I L = some out) (hC : ∀ (v4' : Int32), out = .inl v4' → Ex G mX11_judge rmX11_judge Q (0, 0) X I L 62 [(0, .ref (gB G + 99)), (1, .int v1), (2, .int v2), (3, .int v3), (4, .int v4')] []) (hX : ∀ (u : Unit), out = .inr (.inl u) → Ex G mX11_judge rmX11_judge Q (0, 0) X I L 131 [] []) (hR : ∀ (z : Int32) (I' : MI), out = .inr (.inr (z, I')) → Q = RetQ G (some (.int z)) X I' L (0, 0)) : Ex G mX11_judge rmX11_judge Q (0, 0) X I L 62 [(0, .ref (gB G + 99)), (1, .int v1), (2, .int v2), (3, .int v3), (4, .int v4)] [] := by
  unfold f_X11_judge_b62 at hf
  refine ex_iload 4 (pc' := 64) dX11_judge_62 rfl rfl ?_
  refine ex_aload_n 0 (pc' := 65) dX11_judge_64 rfl rfl rfl ?_
  refine ex_getR (pc' := 68) dX11_judge_65 fl_X11_22 rfl (sh11_k hO) (sh11_F3 hO) rfl ?_
  refine ex_iload_n 3 (pc' := 69) dX11_judge_68 rfl rfl rfl ?_
  obtain ⟨hg14, hf⟩ := of_guard hf
  refine ex_iald (pc' := 70) dX11_judge_69 (sh11_T3 hO) (inb_in hg14) rfl ?_
  refine ex_icmpgt (tgt := 131) (pc' := 73) dX11_judge_70 (by decide) rfl (fun hc15 => ?_) (fun hc15 => ?_)
  · replace hf := if_t hc15 hf
    exact ex_sub [] rfl (hX _ (Option.some.inj hf).symm)
  · replace hf := if_f hc15 hf
    refine ex_iload_n 2 (pc' := 74) dX11_judge_73 rfl rfl rfl ?_
    refine ex_i2l (pc' := 75) dX11_judge_74 rfl ?_
    refine ex_iload 4 (pc' := 77) dX11_judge_75 rfl rfl ?_
    refine ex_i2l (pc' := 78) dX11_judge_77 rfl ?_
    refine ex_ladd (pc' := 79) dX11_judge_78 rfl ?_
    refine ex_aload_n 0 (pc' := 80) dX11_judge_79 rfl rfl rfl ?_
    refine ex_getR (pc' := 83) dX11_judge_80 fl_X11_55 rfl (sh11_k hO) (sh11_F18 hO) rfl ?_
    refine ex_iload_n 1 (pc' := 84) dX11_judge_83 rfl rfl rfl ?_
    obtain ⟨hg16, hf⟩ := of_guard hf
    refine ex_iald (pc' := 85) dX11_judge_84 (sh11_T18 hO) (inb_in hg16) rfl ?_
    refine ex_i2l (pc' := 86) dX11_judge_85 rfl ?_
    refine ex_lcmp (pc' := 87) dX11_judge_86 rfl ?_
    refine ex_liflt (tgt := 96) (pc' := 90) dX11_judge_87 (by decide) rfl (fun hc17 => ?_) (fun hc17 => ?_)
    · replace hf := if_t hc17 hf
      refine ex_aload_n 0 (pc' := 97) dX11_judge_96 rfl rfl rfl ?_
      refine ex_getR (pc' := 100) dX11_judge_97 fl_X11_58 rfl (sh11_k hO) (sh11_F19 hO) rfl ?_
      refine ex_bipush (v := 60) (pc' := 102) dX11_judge_100 bp_60 rfl ?_
      refine ex_iload_n 1 (pc' := 103) dX11_judge_102 rfl rfl rfl ?_
      refine ex_imul (pc' := 104) dX11_judge_103 rfl ?_
      refine ex_iload_n 2 (pc' := 105) dX11_judge_104 rfl rfl rfl ?_
      refine ex_iadd (pc' := 106) dX11_judge_105 rfl ?_
      refine ex_iload 4 (pc' := 108) dX11_judge_106 rfl rfl ?_
      refine ex_iadd (pc' := 109) dX11_judge_108 rfl ?_
      obtain ⟨hg18, hf⟩ := of_guard hf
      refine ex_lald (pc' := 110) dX11_judge_109 (sh11_T19 hO) (inb_in hg18) rfl ?_
      refine ex_aload_n 0 (pc' := 111) dX11_judge_110 rfl rfl rfl ?_
      refine ex_getR (pc' := 114) dX11_judge_111 fl_X11_103 rfl (sh11_k hO) (sh11_F36 hO) rfl ?_
      refine ex_iload 4 (pc' := 116) dX11_judge_114 rfl rfl ?_
      obtain ⟨hg19, hf⟩ := of_guard hf
      refine ex_iald (pc' := 117) dX11_judge_116 (sh11_T36 hO) (inb_in hg19) rfl ?_
      refine ex_i2l (pc' := 118) dX11_judge_117 rfl ?_
      refine ex_lcmp (pc' := 119) dX11_judge_118 rfl ?_
      refine ex_lifeq (tgt := 125) (pc' := 122) dX11_judge_119 (by decide) rfl (fun hc20 => ?_) (fun hc20 => ?_)
      · replace hf := if_t hc20 hf
        refine ex_iincc (lv' := [(4, .int (v4 + 1)), (0, .ref (gB G + 99)), (1, .int v1), (2, .int v2), (3, .int v3)]) 4 (pc' := 128) dX11_judge_125 rfl ic_1 (Nat.le_of_ble_eq_true rfl) rfl rfl ?_
        refine ex_goto (tgt := 62) dX11_judge_128 (by decide) ?_
        exact ex_sub [1, 2, 3, 4, 0] rfl (hC _ (Option.some.inj hf).symm)
      · replace hf := if_f hc20 hf
        refine ex_iload 4 (pc' := 124) dX11_judge_122 rfl rfl ?_
        exact ex_iret dX11_judge_124 rfl (hR _ _ (Option.some.inj hf).symm)
    · replace hf := if_f hc17 hf
      refine ex_bipush (v := 100) (pc' := 92) dX11_judge_90 bp_100 rfl ?_
      refine ex_iload 4 (pc' := 94) dX11_judge_92 rfl rfl ?_
      refine ex_iadd (pc' := 95) dX11_judge_94 rfl ?_
      exact ex_iret dX11_judge_95 rfl (hR _ _ (Option.some.inj hf).symm)
def f_X11_judge_l62 (N : Nat) (v1 : Int32) (v2 : Int32) (v3 : Int32) (v4 : Int32) (I : MI) (L : ML) : Option ((Unit) ⊕ (Int32 × MI)) := loopN (fun s => f_X11_judge_b62 N v1 v2 v3 s I L) N v4
set_option maxRecDepth 100000 in
set_option maxHeartbeats 4000000 in
theorem k_X11_judge_l62 {G : GX} {Q : State → Prop} {X : MX} (hO : shX11 X) {v1 : Int32} {v2 : Int32} {v3 : Int32}  {N0 : Nat} {I : MI} {L : ML} {out : ((Unit) ⊕ (Int32 × MI))} (hX : ∀ (u : Unit), out = .inl u → Ex G mX11_judge rmX11_judge Q (0, 0) X I L 131 [] []) (hR : ∀ (z : Int32) (I' : MI), out = .inr (z, I') → Q = RetQ G (some (.int z)) X I' L (0, 0)) : ∀ (N : Nat) (v4 : Int32), loopN (fun s => f_X11_judge_b62 N0 v1 v2 v3 s I L) N v4 = some out → Ex G mX11_judge rmX11_judge Q (0, 0) X I L 62 [(0, .ref (gB G + 99)), (1, .int v1), (2, .int v2), (3, .int v3), (4, .int v4)] [] := by
  intro N
  induction N with
  | zero => intro v4 hf; exact absurd (loopN_zero hf) id
  | succ n ih =>
    intro v4 hf
    rcases loopN_succ hf with ⟨s, hb, hl⟩ | hb
    · skip
      refine k_X11_judge_b62 hO  hb (fun _ he => ?_) (fun _ he => by cases he) (fun _ _ he => by cases he)
      cases he
      exact ih s hl
    · exact k_X11_judge_b62 hO  hb (fun _ he => by cases he) (fun x0 he => hX x0 (Sum.inr.inj he)) (fun z0 z1 he => hR z0 z1 (Sum.inr.inj he))
def f_X11_judge_j38 (N : Nat) (v1 : Int32) (v2 : Int32) (v3 : Int32) (I : MI) (L : ML) : Option (Int32 × MI) := if inb v1 6 then (if (I 113 (Int32.toNatClampNeg v1)) < 0 then some (100, I) else (if v2 < 0 then some (100, I) else bnd1 (f_X11_layCounts N v3 I) fun I12 => bns1 (f_X11_judge_l62 N v1 v2 v3 0 I12 L) (fun u21 => some ((-5), I12)) (fun q23 => some q23))) else none
set_option maxRecDepth 100000 in
set_option maxHeartbeats 4000000 in
theorem k_X11_judge_j38 {G : GX} {Q : State → Prop} {X : MX} (hO : shX11 X) {v1 : Int32} {v2 : Int32} {v3 : Int32}  {N : Nat} {I : MI} {L : ML} {out : Int32 × MI} (hf : f_X11_judge_j38 N v1 v2 v3 I L = some out) (hR : ∀ (z : Int32) (I' : MI), out = (z, I') → Q = RetQ G (some (.int z)) X I' L (0, 0)) : Ex G mX11_judge rmX11_judge Q (0, 0) X I L 38 [(0, .ref (gB G + 99)), (1, .int v1), (2, .int v2), (3, .int v3)] [] := by
  unfold f_X11_judge_j38 at hf
  refine ex_aload_n 0 (pc' := 39) dX11_judge_38 rfl rfl rfl ?_
  refine ex_getR (pc' := 42) dX11_judge_39 fl_X11_52 rfl (sh11_k hO) (sh11_F17 hO) rfl ?_
  refine ex_iload_n 1 (pc' := 43) dX11_judge_42 rfl rfl rfl ?_
  obtain ⟨hg9, hf⟩ := of_guard hf
  refine ex_iald (pc' := 44) dX11_judge_43 (sh11_T17 hO) (inb_in hg9) rfl ?_
  refine ex_iflt (tgt := 51) (pc' := 47) dX11_judge_44 (by decide) rfl (fun hc10 => ?_) (fun hc10 => ?_)
  · replace hf := if_t hc10 hf
    refine ex_bipush (v := 100) (pc' := 53) dX11_judge_51 bp_100 rfl ?_
    exact ex_iret dX11_judge_53 rfl (hR _ _ (Option.some.inj hf).symm)
  · replace hf := if_f hc10 hf
    refine ex_iload_n 2 (pc' := 48) dX11_judge_47 rfl rfl rfl ?_
    refine ex_ifge (tgt := 54) (pc' := 51) dX11_judge_48 (by decide) rfl (fun hc11 => ?_) (fun hc11 => ?_)
    · replace hf := if_t hc11 hf
      refine ex_bipush (v := 100) (pc' := 53) dX11_judge_51 bp_100 rfl ?_
      exact ex_iret dX11_judge_53 rfl (hR _ _ (Option.some.inj hf).symm)
    · replace hf := if_f hc11 hf
      refine ex_aload_n 0 (pc' := 55) dX11_judge_54 rfl rfl rfl ?_
      refine ex_iload_n 3 (pc' := 56) dX11_judge_55 rfl rfl rfl ?_
      obtain ⟨I12, hq13, hf⟩ := of_bnd1 hf
      refine ex_callV_v (rm' := rmX11_layCounts) (st := []) (pc' := 59) [.int v3] dX11_judge_56 cl_X11_193 (k_X11_layCounts G hO hq13) rfl (sh11_k hO) ⟨_, _, rfl⟩ rfl rfl (ROOM_of rfl) (Nat.le_of_ble_eq_true rfl) rfl rfl ?_
      refine ex_iconst (v := 0) (pc' := 60) dX11_judge_59 ic_0 rfl ?_
      refine ex_istore (lv' := [(4, .int 0), (0, .ref (gB G + 99)), (1, .int v1), (2, .int v2), (3, .int v3)]) (pc' := 62) dX11_judge_60 (Nat.le_of_ble_eq_true rfl) rfl rfl ?_
      refine ex_sub (lv' := [(0, .ref (gB G + 99)), (1, .int v1), (2, .int v2), (3, .int v3), (4, .int 0)]) [1, 2, 3, 4, 0] rfl ?_
      rcases of_bns1 hf with ⟨u21, hq22, hf⟩ | ⟨q23, hq22, hf⟩
      · refine k_X11_judge_l62 hO (fun u21' he => ?_) (fun _ _ he => by cases he) _ _ hq22
        cases he
        refine ex_bipush (v := (-5)) (pc' := 133) dX11_judge_131 bp_m5 rfl ?_
        exact ex_iret dX11_judge_133 rfl (hR _ _ (Option.some.inj hf).symm)
      · refine k_X11_judge_l62 hO (fun _ he => by cases he) (fun z0 z1 he => ?_) _ _ hq22
        refine hR _ _ ?_
        rw [← Option.some.inj hf]
        cases he
        rfl
def f_X11_judge (N : Nat) (v1 : Int32) (v2 : Int32) (v3 : Int32) (I : MI) (L : ML) : Option (Int32 × MI) := bnd1 (f_X11_isSix v1) fun r1 => (if r1 = 0 then some ((-1), I) else bnd1 (f_X11_isSix v3) fun r4 => (if r4 = 0 then some ((-1), I) else if inb v1 6 then (if (I 113 (Int32.toNatClampNeg v1)) < 0 then f_X11_judge_j38 N v1 v2 v3 I L else if inb v1 6 then (if (I 113 (Int32.toNatClampNeg v1)) = 1 then f_X11_judge_j38 N v1 v2 v3 I L else some ((-12), I)) else none) else none))
set_option maxRecDepth 100000 in
set_option maxHeartbeats 4000000 in
theorem kb_X11_judge {G : GX} {Q : State → Prop} {X : MX} (hO : shX11 X) {v1 : Int32} {v2 : Int32} {v3 : Int32}  {N : Nat} {I : MI} {L : ML} {out : Int32 × MI} (hf : f_X11_judge N v1 v2 v3 I L = some out) (hR : ∀ (z : Int32) (I' : MI), out = (z, I') → Q = RetQ G (some (.int z)) X I' L (0, 0)) : Ex G mX11_judge rmX11_judge Q (0, 0) X I L 0 [(0, .ref (gB G + 99)), (1, .int v1), (2, .int v2), (3, .int v3)] [] := by
  unfold f_X11_judge at hf
  refine ex_iload_n 1 (pc' := 1) dX11_judge_0 rfl rfl rfl ?_
  obtain ⟨r1, hq2, hf⟩ := of_bnd1 hf
  refine ex_callS_i (rm' := rmX11_isSix) (st := []) (pc' := 4) [.int v1] dX11_judge_1 cl_X11_133 (k_X11_isSix G hq2) rfl rfl rfl (ROOM_of rfl) (Nat.le_of_ble_eq_true rfl) rfl rfl ?_
  refine ex_ifeq (tgt := 14) (pc' := 7) dX11_judge_4 (by decide) rfl (fun hc3 => ?_) (fun hc3 => ?_)
  · replace hf := if_t hc3 hf
    refine ex_iconst (v := (-1)) (pc' := 15) dX11_judge_14 ic_m1 rfl ?_
    exact ex_iret dX11_judge_15 rfl (hR _ _ (Option.some.inj hf).symm)
  · replace hf := if_f hc3 hf
    refine ex_iload_n 3 (pc' := 8) dX11_judge_7 rfl rfl rfl ?_
    obtain ⟨r4, hq5, hf⟩ := of_bnd1 hf
    refine ex_callS_i (rm' := rmX11_isSix) (st := []) (pc' := 11) [.int v3] dX11_judge_8 cl_X11_133 (k_X11_isSix G hq5) rfl rfl rfl (ROOM_of rfl) (Nat.le_of_ble_eq_true rfl) rfl rfl ?_
    refine ex_ifne (tgt := 16) (pc' := 14) dX11_judge_11 (by decide) rfl (fun hc6 => ?_) (fun hc6 => ?_)
    · replace hf := if_t hc6 hf
      refine ex_iconst (v := (-1)) (pc' := 15) dX11_judge_14 ic_m1 rfl ?_
      exact ex_iret dX11_judge_15 rfl (hR _ _ (Option.some.inj hf).symm)
    · replace hf := if_f hc6 hf
      refine ex_aload_n 0 (pc' := 17) dX11_judge_16 rfl rfl rfl ?_
      refine ex_getR (pc' := 20) dX11_judge_17 fl_X11_52 rfl (sh11_k hO) (sh11_F17 hO) rfl ?_
      refine ex_iload_n 1 (pc' := 21) dX11_judge_20 rfl rfl rfl ?_
      obtain ⟨hg7, hf⟩ := of_guard hf
      refine ex_iald (pc' := 22) dX11_judge_21 (sh11_T17 hO) (inb_in hg7) rfl ?_
      refine ex_iflt (tgt := 38) (pc' := 25) dX11_judge_22 (by decide) rfl (fun hc8 => ?_) (fun hc8 => ?_)
      · replace hf := if_t hc8 hf
        refine ex_sub [0, 1, 2, 3] rfl (k_X11_judge_j38 hO  hf hR)
      · replace hf := if_f hc8 hf
        refine ex_aload_n 0 (pc' := 26) dX11_judge_25 rfl rfl rfl ?_
        refine ex_getR (pc' := 29) dX11_judge_26 fl_X11_52 rfl (sh11_k hO) (sh11_F17 hO) rfl ?_
        refine ex_iload_n 1 (pc' := 30) dX11_judge_29 rfl rfl rfl ?_
        obtain ⟨hg24, hf⟩ := of_guard hf
        refine ex_iald (pc' := 31) dX11_judge_30 (sh11_T17 hO) (inb_in hg24) rfl ?_
        refine ex_iconst (v := 1) (pc' := 32) dX11_judge_31 ic_1 rfl ?_
        refine ex_icmpeq (tgt := 38) (pc' := 35) dX11_judge_32 (by decide) rfl (fun hc25 => ?_) (fun hc25 => ?_)
        · replace hf := if_t hc25 hf
          refine ex_sub [0, 1, 2, 3] rfl (k_X11_judge_j38 hO  hf hR)
        · replace hf := if_f hc25 hf
          refine ex_bipush (v := (-12)) (pc' := 37) dX11_judge_35 bp_m12 rfl ?_
          exact ex_iret dX11_judge_37 rfl (hR _ _ (Option.some.inj hf).symm)
set_option maxRecDepth 100000 in
set_option maxHeartbeats 4000000 in
theorem k_X11_judge (G : GX) {X : MX} (hO : shX11 X) {v1 : Int32} {v2 : Int32} {v3 : Int32}  {N : Nat} {I : MI} {L : ML} {z : Int32} {I' : MI} (hf : f_X11_judge N v1 v2 v3 I L = some (z, I')) : Con G mX11_judge yX11_judge rmX11_judge (fun B => [.ref (B + 99), .int v1, .int v2, .int v3]) X I L (some (.int z)) X I' L :=
  Con.of (by decide) rfl (fun h => by cases h) (fun B => Nat.le_of_ble_eq_true rfl) (fun G => kb_X11_judge hO  hf (fun _ _ he => by cases he; rfl))
theorem fl_X11_49 : FLD RX11 49 11 16 true := ⟨RX11, TX11, 51, rfl, inX11, by decide, lwg_at 950 (by decide +kernel) rfl, nmX11, tyX11_ok, rfl, rfl⟩
theorem fl_X11_310 : FLD RX11 310 11 15 false := ⟨RX11, TX11, 51, rfl, inX11, by decide, lwg_at 949 (by decide +kernel) rfl, nmX11, tyX11_ok, rfl, rfl⟩
-- X11_lay ('RookWordsModel', 'lay', '(I)V')
def rmX11_lay : RM := ((0, 0, 0, 0), false, none)
def f_X11_lay (v1 : Int32) (I : MI) : Option (MI) := if inb (I 99 15) 24 then letv (upI I 112 (Int32.toNatClampNeg (I 99 15)) v1) fun I2 => letv (upI I2 99 15 ((I2 99 15) + 1)) fun I3 => some I3 else none
set_option maxRecDepth 100000 in
set_option maxHeartbeats 4000000 in
theorem kb_X11_lay {G : GX} {Q : State → Prop} {X : MX} (hO : shX11 X) {v1 : Int32}  {I : MI} {L : ML} {out : MI} (hf : f_X11_lay v1 I = some out) (hR : ∀ (I' : MI), out = I' → Q = RetQ G none X I' L (0, 0)) : Ex G mX11_lay rmX11_lay Q (0, 0) X I L 0 [(0, .ref (gB G + 99)), (1, .int v1)] [] := by
  unfold f_X11_lay at hf
  refine ex_aload_n 0 (pc' := 1) dX11_lay_0 rfl rfl rfl ?_
  refine ex_getR (pc' := 4) dX11_lay_1 fl_X11_49 rfl (sh11_k hO) (sh11_F16 hO) rfl ?_
  refine ex_aload_n 0 (pc' := 5) dX11_lay_4 rfl rfl rfl ?_
  refine ex_getI (pc' := 8) dX11_lay_5 fl_X11_310 rfl (sh11_k hO) rfl ?_
  refine ex_iload_n 1 (pc' := 9) dX11_lay_8 rfl rfl rfl ?_
  obtain ⟨hg1, hf⟩ := of_guard hf
  refine ex_iast (pc' := 10) dX11_lay_9 (sh11_T16 hO) (inb_in hg1) rfl ?_
  obtain ⟨I2, hI2, hf⟩ := of_let hf
  rw [← hI2]
  refine ex_aload_n 0 (pc' := 11) dX11_lay_10 rfl rfl rfl ?_
  refine ex_dup (pc' := 12) dX11_lay_11 rfl rfl ?_
  refine ex_getI (pc' := 15) dX11_lay_12 fl_X11_310 rfl (sh11_k hO) rfl ?_
  refine ex_iconst (v := 1) (pc' := 16) dX11_lay_15 ic_1 rfl ?_
  refine ex_iadd (pc' := 17) dX11_lay_16 rfl ?_
  refine ex_putI (pc' := 20) dX11_lay_17 fl_X11_310 rfl (sh11_k hO) rfl ?_
  obtain ⟨I3, hI3, hf⟩ := of_let hf
  rw [← hI3]
  exact ex_vret dX11_lay_20 rfl (hR _ (Option.some.inj hf).symm)
set_option maxRecDepth 100000 in
set_option maxHeartbeats 4000000 in
theorem k_X11_lay (G : GX) {X : MX} (hO : shX11 X) {v1 : Int32}  {I : MI} {L : ML} {I' : MI} (hf : f_X11_lay v1 I = some I') : Con G mX11_lay yX11_lay rmX11_lay (fun B => [.ref (B + 99), .int v1]) X I L none X I' L :=
  Con.of (by decide) rfl (fun h => by cases h) (fun B => Nat.le_of_ble_eq_true rfl) (fun G => kb_X11_lay hO  hf (fun _ he => by cases he; rfl))
-- X11_letter ('RookWordsModel', 'letter', '(II)I')
def rmX11_letter : RM := ((2, 45, 0, 0), false, (some FieldType.int))
def f_X11_letter (v1 : Int32) (v2 : Int32) (I : MI) : Option (Int32 × MI) := bnd1 (f_X11_isSix v1) fun r1 => (if r1 = 0 then some ((-1), I) else bnd1 (f_X11_in (Int32.toInt64 v2) 0 1) fun r4 => (if r4 = 0 then some ((-2), I) else if inb v1 6 then (if (I 100 (Int32.toNatClampNeg v1)) = 12 then some ((-4), I) else if inb v1 6 then if inb ((12 * v1) + (I 100 (Int32.toNatClampNeg v1))) 72 then letv (upI I 101 (Int32.toNatClampNeg ((12 * v1) + (I 100 (Int32.toNatClampNeg v1)))) v2) fun I11 => if inb v1 6 then if inb v1 6 then letv (upI I11 100 (Int32.toNatClampNeg v1) ((I11 100 (Int32.toNatClampNeg v1)) + 1)) fun I14 => if inb v1 6 then some (I14 100 (Int32.toNatClampNeg v1), I14) else none else none else none else none else none) else none))
set_option maxRecDepth 100000 in
set_option maxHeartbeats 4000000 in
theorem kb_X11_letter {G : GX} {Q : State → Prop} {X : MX} (hO : shX11 X) {v1 : Int32} {v2 : Int32}  {I : MI} {L : ML} {out : Int32 × MI} (hf : f_X11_letter v1 v2 I = some out) (hR : ∀ (z : Int32) (I' : MI), out = (z, I') → Q = RetQ G (some (.int z)) X I' L (0, 0)) : Ex G mX11_letter rmX11_letter Q (0, 0) X I L 0 [(0, .ref (gB G + 99)), (1, .int v1), (2, .int v2)] [] := by
  unfold f_X11_letter at hf
  refine ex_iload_n 1 (pc' := 1) dX11_letter_0 rfl rfl rfl ?_
  obtain ⟨r1, hq2, hf⟩ := of_bnd1 hf
  refine ex_callS_i (rm' := rmX11_isSix) (st := []) (pc' := 4) [.int v1] dX11_letter_1 cl_X11_133 (k_X11_isSix G hq2) rfl rfl rfl (ROOM_of rfl) (Nat.le_of_ble_eq_true rfl) rfl rfl ?_
  refine ex_ifne (tgt := 9) (pc' := 7) dX11_letter_4 (by decide) rfl (fun hc3 => ?_) (fun hc3 => ?_)
  · replace hf := if_t hc3 hf
    refine ex_iconst (v := (-1)) (pc' := 8) dX11_letter_7 ic_m1 rfl ?_
    exact ex_iret dX11_letter_8 rfl (hR _ _ (Option.some.inj hf).symm)
  · replace hf := if_f hc3 hf
    refine ex_iload_n 2 (pc' := 10) dX11_letter_9 rfl rfl rfl ?_
    refine ex_i2l (pc' := 11) dX11_letter_10 rfl ?_
    refine ex_lconst (v := 0) (pc' := 12) dX11_letter_11 lc_0 rfl ?_
    refine ex_lconst (v := 1) (pc' := 13) dX11_letter_12 lc_1 rfl ?_
    obtain ⟨r4, hq5, hf⟩ := of_bnd1 hf
    refine ex_callS_i (rm' := rmX11_in) (st := []) (pc' := 16) [.long (Int32.toInt64 v2), .long 0, .long 1] dX11_letter_13 cl_X11_129 (k_X11_in G hq5) rfl rfl rfl (ROOM_of rfl) (Nat.le_of_ble_eq_true rfl) rfl rfl ?_
    refine ex_ifne (tgt := 22) (pc' := 19) dX11_letter_16 (by decide) rfl (fun hc6 => ?_) (fun hc6 => ?_)
    · replace hf := if_t hc6 hf
      refine ex_bipush (v := (-2)) (pc' := 21) dX11_letter_19 bp_m2 rfl ?_
      exact ex_iret dX11_letter_21 rfl (hR _ _ (Option.some.inj hf).symm)
    · replace hf := if_f hc6 hf
      refine ex_aload_n 0 (pc' := 23) dX11_letter_22 rfl rfl rfl ?_
      refine ex_getR (pc' := 26) dX11_letter_23 fl_X11_9 rfl (sh11_k hO) (sh11_F0 hO) rfl ?_
      refine ex_iload_n 1 (pc' := 27) dX11_letter_26 rfl rfl rfl ?_
      obtain ⟨hg7, hf⟩ := of_guard hf
      refine ex_iald (pc' := 28) dX11_letter_27 (sh11_T0 hO) (inb_in hg7) rfl ?_
      refine ex_bipush (v := 12) (pc' := 30) dX11_letter_28 bp_12 rfl ?_
      refine ex_icmpne (tgt := 36) (pc' := 33) dX11_letter_30 (by decide) rfl (fun hc8 => ?_) (fun hc8 => ?_)
      · replace hf := if_t hc8 hf
        refine ex_bipush (v := (-4)) (pc' := 35) dX11_letter_33 bp_m4 rfl ?_
        exact ex_iret dX11_letter_35 rfl (hR _ _ (Option.some.inj hf).symm)
      · replace hf := if_f hc8 hf
        refine ex_aload_n 0 (pc' := 37) dX11_letter_36 rfl rfl rfl ?_
        refine ex_getR (pc' := 40) dX11_letter_37 fl_X11_15 rfl (sh11_k hO) (sh11_F1 hO) rfl ?_
        refine ex_bipush (v := 12) (pc' := 42) dX11_letter_40 bp_12 rfl ?_
        refine ex_iload_n 1 (pc' := 43) dX11_letter_42 rfl rfl rfl ?_
        refine ex_imul (pc' := 44) dX11_letter_43 rfl ?_
        refine ex_aload_n 0 (pc' := 45) dX11_letter_44 rfl rfl rfl ?_
        refine ex_getR (pc' := 48) dX11_letter_45 fl_X11_9 rfl (sh11_k hO) (sh11_F0 hO) rfl ?_
        refine ex_iload_n 1 (pc' := 49) dX11_letter_48 rfl rfl rfl ?_
        obtain ⟨hg9, hf⟩ := of_guard hf
        refine ex_iald (pc' := 50) dX11_letter_49 (sh11_T0 hO) (inb_in hg9) rfl ?_
        refine ex_iadd (pc' := 51) dX11_letter_50 rfl ?_
        refine ex_iload_n 2 (pc' := 52) dX11_letter_51 rfl rfl rfl ?_
        obtain ⟨hg10, hf⟩ := of_guard hf
        refine ex_iast (pc' := 53) dX11_letter_52 (sh11_T1 hO) (inb_in hg10) rfl ?_
        obtain ⟨I11, hI11, hf⟩ := of_let hf
        rw [← hI11]
        refine ex_aload_n 0 (pc' := 54) dX11_letter_53 rfl rfl rfl ?_
        refine ex_getR (pc' := 57) dX11_letter_54 fl_X11_9 rfl (sh11_k hO) (sh11_F0 hO) rfl ?_
        refine ex_iload_n 1 (pc' := 58) dX11_letter_57 rfl rfl rfl ?_
        refine ex_dup2 (pc' := 59) dX11_letter_58 rfl rfl rfl ?_
        obtain ⟨hg12, hf⟩ := of_guard hf
        refine ex_iald (pc' := 60) dX11_letter_59 (sh11_T0 hO) (inb_in hg12) rfl ?_
        refine ex_iconst (v := 1) (pc' := 61) dX11_letter_60 ic_1 rfl ?_
        refine ex_iadd (pc' := 62) dX11_letter_61 rfl ?_
        obtain ⟨hg13, hf⟩ := of_guard hf
        refine ex_iast (pc' := 63) dX11_letter_62 (sh11_T0 hO) (inb_in hg13) rfl ?_
        obtain ⟨I14, hI14, hf⟩ := of_let hf
        rw [← hI14]
        refine ex_aload_n 0 (pc' := 64) dX11_letter_63 rfl rfl rfl ?_
        refine ex_getR (pc' := 67) dX11_letter_64 fl_X11_9 rfl (sh11_k hO) (sh11_F0 hO) rfl ?_
        refine ex_iload_n 1 (pc' := 68) dX11_letter_67 rfl rfl rfl ?_
        obtain ⟨hg15, hf⟩ := of_guard hf
        refine ex_iald (pc' := 69) dX11_letter_68 (sh11_T0 hO) (inb_in hg15) rfl ?_
        exact ex_iret dX11_letter_69 rfl (hR _ _ (Option.some.inj hf).symm)
set_option maxRecDepth 100000 in
set_option maxHeartbeats 4000000 in
theorem k_X11_letter (G : GX) {X : MX} (hO : shX11 X) {v1 : Int32} {v2 : Int32}  {I : MI} {L : ML} {z : Int32} {I' : MI} (hf : f_X11_letter v1 v2 I = some (z, I')) : Con G mX11_letter yX11_letter rmX11_letter (fun B => [.ref (B + 99), .int v1, .int v2]) X I L (some (.int z)) X I' L :=
  Con.of (by decide) rfl (fun h => by cases h) (fun B => Nat.le_of_ble_eq_true rfl) (fun G => kb_X11_letter hO  hf (fun _ _ he => by cases he; rfl))
-- X11_like ('RookWordsModel', 'like', '(II)I')
def rmX11_like : RM := ((2, 49, 0, 0), false, (some FieldType.int))
def f_X11_like_b58 (N : Nat) (v2 : Int32) (v3 : Int32) (v4 : Int32) (v5 : Int32) (v6 : Int32) (v7 : Int32) (I : MI) : Option ((Int32 × Int32) ⊕ (Int32)) := (if v7 < 7 then (if v6 = 0 then some (.inl (0, v7 + 1)) else if inb ((7 * v5) + v7) 6468 then if inb v7 7 then (if (I 133 (Int32.toNatClampNeg ((7 * v5) + v7))) = (I 130 (Int32.toNatClampNeg v7)) then some (.inl (1, v7 + 1)) else some (.inl (0, v7 + 1))) else none else none) else some (.inr v6))
set_option maxRecDepth 100000 in
set_option maxHeartbeats 4000000 in
theorem k_X11_like_b58 {G : GX} {Q : State → Prop} {X : MX} (hO : shX11 X) {v2 : Int32} {v3 : Int32} {v4 : Int32} {v5 : Int32}  {v6 : Int32} {v7 : Int32} {N : Nat} {I : MI} {L : ML} {out : (Int32 × Int32) ⊕ (Int32)} (hf : f_X11_like_b58 N v2 v3 v4 v5 v6 v7 I = some out) (hC : ∀ (v6' : Int32) (v7' : Int32), out = .inl (v6', v7') → Ex G mX11_like rmX11_like Q (0, 0) X I L 58 [(0, .ref (gB G + 99)), (2, .int v2), (3, .int v3), (4, .int v4), (5, .int v5), (6, .int v6'), (7, .int v7')] []) (hX : ∀ (w6 : Int32), out = .inr w6 → Ex G mX11_like rmX11_like Q (0, 0) X I L 106 [(0, .ref (gB G + 99)), (2, .int v2), (3, .int v3), (4, .int v4), (5, .int v5), (6, .int w6)] []) : Ex G mX11_like rmX11_like Q (0, 0) X I L 58 [(0, .ref (gB G + 99)), (2, .int v2), (3, .int v3), (4, .int v4), (5, .int v5), (6, .int v6), (7, .int v7)] [] := by
  unfold f_X11_like_b58 at hf
  refine ex_iload 6 (pc' := 60) dX11_like_58 rfl rfl ?_
  refine ex_bipush (v := 7) (pc' := 62) dX11_like_60 bp_7 rfl ?_
  refine ex_icmpge (tgt := 106) (pc' := 65) dX11_like_62 (by decide) rfl (fun hc13 => ?_) (fun hc13 => ?_)
  · replace hf := if_t hc13 hf
    refine ex_iload 5 (pc' := 67) dX11_like_65 rfl rfl ?_
    refine ex_ifeq (tgt := 97) (pc' := 70) dX11_like_67 (by decide) rfl (fun hc14 => ?_) (fun hc14 => ?_)
    · replace hf := if_t hc14 hf
      refine ex_iconst (v := 0) (pc' := 98) dX11_like_97 ic_0 rfl ?_
      refine ex_istore (lv' := [(6, .int 0), (0, .ref (gB G + 99)), (2, .int v2), (3, .int v3), (4, .int v4), (5, .int v5), (7, .int v7)]) (pc' := 100) dX11_like_98 (Nat.le_of_ble_eq_true rfl) rfl rfl ?_
      refine ex_iincc (lv' := [(7, .int (v7 + 1)), (6, .int 0), (0, .ref (gB G + 99)), (2, .int v2), (3, .int v3), (4, .int v4), (5, .int v5)]) 6 (pc' := 103) dX11_like_100 rfl ic_1 (Nat.le_of_ble_eq_true rfl) rfl rfl ?_
      refine ex_goto (tgt := 58) dX11_like_103 (by decide) ?_
      exact ex_sub [2, 3, 4, 5, 6, 1, 0] rfl (hC _ _ (Option.some.inj hf).symm)
    · replace hf := if_f hc14 hf
      refine ex_aload_n 0 (pc' := 71) dX11_like_70 rfl rfl rfl ?_
      refine ex_getR (pc' := 74) dX11_like_71 fl_X11_112 rfl (sh11_k hO) (sh11_F41 hO) rfl ?_
      refine ex_bipush (v := 7) (pc' := 76) dX11_like_74 bp_7 rfl ?_
      refine ex_iload 4 (pc' := 78) dX11_like_76 rfl rfl ?_
      refine ex_imul (pc' := 79) dX11_like_78 rfl ?_
      refine ex_iload 6 (pc' := 81) dX11_like_79 rfl rfl ?_
      refine ex_iadd (pc' := 82) dX11_like_81 rfl ?_
      obtain ⟨hg15, hf⟩ := of_guard hf
      refine ex_iald (pc' := 83) dX11_like_82 (sh11_T41 hO) (inb_in hg15) rfl ?_
      refine ex_aload_n 0 (pc' := 84) dX11_like_83 rfl rfl rfl ?_
      refine ex_getR (pc' := 87) dX11_like_84 fl_X11_103 rfl (sh11_k hO) (sh11_F36 hO) rfl ?_
      refine ex_iload 6 (pc' := 89) dX11_like_87 rfl rfl ?_
      obtain ⟨hg16, hf⟩ := of_guard hf
      refine ex_iald (pc' := 90) dX11_like_89 (sh11_T36 hO) (inb_in hg16) rfl ?_
      refine ex_icmpne (tgt := 97) (pc' := 93) dX11_like_90 (by decide) rfl (fun hc17 => ?_) (fun hc17 => ?_)
      · replace hf := if_t hc17 hf
        refine ex_iconst (v := 1) (pc' := 94) dX11_like_93 ic_1 rfl ?_
        refine ex_goto (tgt := 98) dX11_like_94 (by decide) ?_
        refine ex_istore (lv' := [(6, .int 1), (0, .ref (gB G + 99)), (2, .int v2), (3, .int v3), (4, .int v4), (5, .int v5), (7, .int v7)]) (pc' := 100) dX11_like_98 (Nat.le_of_ble_eq_true rfl) rfl rfl ?_
        refine ex_iincc (lv' := [(7, .int (v7 + 1)), (6, .int 1), (0, .ref (gB G + 99)), (2, .int v2), (3, .int v3), (4, .int v4), (5, .int v5)]) 6 (pc' := 103) dX11_like_100 rfl ic_1 (Nat.le_of_ble_eq_true rfl) rfl rfl ?_
        refine ex_goto (tgt := 58) dX11_like_103 (by decide) ?_
        exact ex_sub [2, 3, 4, 5, 6, 1, 0] rfl (hC _ _ (Option.some.inj hf).symm)
      · replace hf := if_f hc17 hf
        refine ex_iconst (v := 0) (pc' := 98) dX11_like_97 ic_0 rfl ?_
        refine ex_istore (lv' := [(6, .int 0), (0, .ref (gB G + 99)), (2, .int v2), (3, .int v3), (4, .int v4), (5, .int v5), (7, .int v7)]) (pc' := 100) dX11_like_98 (Nat.le_of_ble_eq_true rfl) rfl rfl ?_
        refine ex_iincc (lv' := [(7, .int (v7 + 1)), (6, .int 0), (0, .ref (gB G + 99)), (2, .int v2), (3, .int v3), (4, .int v4), (5, .int v5)]) 6 (pc' := 103) dX11_like_100 rfl ic_1 (Nat.le_of_ble_eq_true rfl) rfl rfl ?_
        refine ex_goto (tgt := 58) dX11_like_103 (by decide) ?_
        exact ex_sub [2, 3, 4, 5, 6, 1, 0] rfl (hC _ _ (Option.some.inj hf).symm)
  · replace hf := if_f hc13 hf
    exact ex_sub [0, 1, 2, 3, 4, 5] rfl (hX _ (Option.some.inj hf).symm)
def f_X11_like_l58 (N : Nat) (v2 : Int32) (v3 : Int32) (v4 : Int32) (v5 : Int32) (v6 : Int32) (v7 : Int32) (I : MI) : Option (Int32) := loopN (fun s => f_X11_like_b58 N v2 v3 v4 v5 s.1 s.2 I) N (v6, v7)
set_option maxRecDepth 100000 in
set_option maxHeartbeats 4000000 in
theorem k_X11_like_l58 {G : GX} {Q : State → Prop} {X : MX} (hO : shX11 X) {v2 : Int32} {v3 : Int32} {v4 : Int32} {v5 : Int32}  {N0 : Nat} {I : MI} {L : ML} {out : (Int32)} (hX : ∀ (w6 : Int32), out = w6 → Ex G mX11_like rmX11_like Q (0, 0) X I L 106 [(0, .ref (gB G + 99)), (2, .int v2), (3, .int v3), (4, .int v4), (5, .int v5), (6, .int w6)] []) : ∀ (N : Nat) (v6 : Int32) (v7 : Int32), loopN (fun s => f_X11_like_b58 N0 v2 v3 v4 v5 s.1 s.2 I) N (v6, v7) = some out → Ex G mX11_like rmX11_like Q (0, 0) X I L 58 [(0, .ref (gB G + 99)), (2, .int v2), (3, .int v3), (4, .int v4), (5, .int v5), (6, .int v6), (7, .int v7)] [] := by
  intro N
  induction N with
  | zero => intro v6 v7 hf; exact absurd (loopN_zero hf) id
  | succ n ih =>
    intro v6 v7 hf
    rcases loopN_succ hf with ⟨s, hb, hl⟩ | hb
    · obtain ⟨v6', v7'⟩ := s
      refine k_X11_like_b58 hO  hb (fun _ _ he => ?_) (fun _ he => by cases he)
      cases he
      exact ih v6' v7' hl
    · exact k_X11_like_b58 hO  hb (fun _ _ he => by cases he) (fun x0 he => hX x0 (Sum.inr.inj he))
def f_X11_like_b43_j122 (N : Nat) (v2 : Int32) (v3 : Int32) (v5 : Int32) (v6 : Int32) (s0 : Int32) (I : MI) : Option ((Int32 × Int32 × Int32) ⊕ (Int32 × Int32)) := (if v6 = 0 then some (.inl (v3 + 0, s0, v5 + 1)) else some (.inl (v3 + 1, s0, v5 + 1)))
set_option maxRecDepth 100000 in
set_option maxHeartbeats 4000000 in
theorem k_X11_like_b43_j122 {G : GX} {Q : State → Prop} {X : MX} (hO : shX11 X) {v2 : Int32} {v3 : Int32} {v5 : Int32} {v6 : Int32} {s0 : Int32}   {N : Nat} {I : MI} {L : ML} {out : (Int32 × Int32 × Int32) ⊕ (Int32 × Int32)} (hf : f_X11_like_b43_j122 N v2 v3 v5 v6 s0 I = some out) (hC : ∀ (v3' : Int32) (v4' : Int32) (v5' : Int32), out = .inl (v3', v4', v5') → Ex G mX11_like rmX11_like Q (0, 0) X I L 43 [(0, .ref (gB G + 99)), (2, .int v2), (3, .int v3'), (4, .int v4'), (5, .int v5')] []) (hX : ∀ (w3 : Int32) (w4 : Int32), out = .inr (w3, w4) → Ex G mX11_like rmX11_like Q (0, 0) X I L 143 [(2, .int v2), (3, .int w3), (4, .int w4)] []) : Ex G mX11_like rmX11_like Q (0, 0) X I L 122 [(0, .ref (gB G + 99)), (2, .int v2), (3, .int v3), (5, .int v5), (6, .int v6)] [.int s0] := by
  unfold f_X11_like_b43_j122 at hf
  refine ex_istore (lv' := [(4, .int s0), (0, .ref (gB G + 99)), (2, .int v2), (3, .int v3), (5, .int v5), (6, .int v6)]) (pc' := 124) dX11_like_122 (Nat.le_of_ble_eq_true rfl) rfl rfl ?_
  refine ex_iload_n 3 (pc' := 125) dX11_like_124 rfl rfl rfl ?_
  refine ex_iload 5 (pc' := 127) dX11_like_125 rfl rfl ?_
  refine ex_ifeq (tgt := 134) (pc' := 130) dX11_like_127 (by decide) rfl (fun hc21 => ?_) (fun hc21 => ?_)
  · replace hf := if_t hc21 hf
    refine ex_iconst (v := 0) (pc' := 135) dX11_like_134 ic_0 rfl ?_
    refine ex_iadd (pc' := 136) dX11_like_135 rfl ?_
    refine ex_istore_n (lv' := [(3, .int (v3 + 0)), (4, .int s0), (0, .ref (gB G + 99)), (2, .int v2), (5, .int v5), (6, .int v6)]) (pc' := 137) dX11_like_136 rfl (Nat.le_of_ble_eq_true rfl) rfl rfl ?_
    refine ex_iincc (lv' := [(5, .int (v5 + 1)), (3, .int (v3 + 0)), (4, .int s0), (0, .ref (gB G + 99)), (2, .int v2), (6, .int v6)]) 4 (pc' := 140) dX11_like_137 rfl ic_1 (Nat.le_of_ble_eq_true rfl) rfl rfl ?_
    refine ex_goto (tgt := 43) dX11_like_140 (by decide) ?_
    exact ex_sub [3, 4, 1, 2, 0] rfl (hC _ _ _ (Option.some.inj hf).symm)
  · replace hf := if_f hc21 hf
    refine ex_iconst (v := 1) (pc' := 131) dX11_like_130 ic_1 rfl ?_
    refine ex_goto (tgt := 135) dX11_like_131 (by decide) ?_
    refine ex_iadd (pc' := 136) dX11_like_135 rfl ?_
    refine ex_istore_n (lv' := [(3, .int (v3 + 1)), (4, .int s0), (0, .ref (gB G + 99)), (2, .int v2), (5, .int v5), (6, .int v6)]) (pc' := 137) dX11_like_136 rfl (Nat.le_of_ble_eq_true rfl) rfl rfl ?_
    refine ex_iincc (lv' := [(5, .int (v5 + 1)), (3, .int (v3 + 1)), (4, .int s0), (0, .ref (gB G + 99)), (2, .int v2), (6, .int v6)]) 4 (pc' := 140) dX11_like_137 rfl ic_1 (Nat.le_of_ble_eq_true rfl) rfl rfl ?_
    refine ex_goto (tgt := 43) dX11_like_140 (by decide) ?_
    exact ex_sub [3, 4, 1, 2, 0] rfl (hC _ _ _ (Option.some.inj hf).symm)
def f_X11_like_b43_j120 (N : Nat) (v2 : Int32) (v3 : Int32) (v4 : Int32) (v5 : Int32) (v6 : Int32) (I : MI) : Option ((Int32 × Int32 × Int32) ⊕ (Int32 × Int32)) := f_X11_like_b43_j122 N v2 v3 v5 v6 v4 I
set_option maxRecDepth 100000 in
set_option maxHeartbeats 4000000 in
theorem k_X11_like_b43_j120 {G : GX} {Q : State → Prop} {X : MX} (hO : shX11 X) {v2 : Int32} {v3 : Int32} {v4 : Int32} {v5 : Int32} {v6 : Int32}   {N : Nat} {I : MI} {L : ML} {out : (Int32 × Int32 × Int32) ⊕ (Int32 × Int32)} (hf : f_X11_like_b43_j120 N v2 v3 v4 v5 v6 I = some out) (hC : ∀ (v3' : Int32) (v4' : Int32) (v5' : Int32), out = .inl (v3', v4', v5') → Ex G mX11_like rmX11_like Q (0, 0) X I L 43 [(0, .ref (gB G + 99)), (2, .int v2), (3, .int v3'), (4, .int v4'), (5, .int v5')] []) (hX : ∀ (w3 : Int32) (w4 : Int32), out = .inr (w3, w4) → Ex G mX11_like rmX11_like Q (0, 0) X I L 143 [(2, .int v2), (3, .int w3), (4, .int w4)] []) : Ex G mX11_like rmX11_like Q (0, 0) X I L 120 [(0, .ref (gB G + 99)), (2, .int v2), (3, .int v3), (4, .int v4), (5, .int v5), (6, .int v6)] [] := by
  unfold f_X11_like_b43_j120 at hf
  refine ex_iload 3 (pc' := 122) dX11_like_120 rfl rfl ?_
  refine ex_sub [0, 1, 2, 4, 5] rfl (k_X11_like_b43_j122 hO  hf hC hX)
def f_X11_like_b43 (N : Nat) (v2 : Int32) (v3 : Int32) (v4 : Int32) (v5 : Int32) (I : MI) : Option ((Int32 × Int32 × Int32) ⊕ (Int32 × Int32)) := (if v5 < (I 99 38) then bnd1 (f_X11_like_l58 N v2 v3 v4 v5 1 0 I) fun x18 => (if x18 = 0 then f_X11_like_b43_j120 N v2 v3 v4 v5 x18 I else (if v3 = 0 then f_X11_like_b43_j122 N v2 v3 v5 x18 v5 I else f_X11_like_b43_j120 N v2 v3 v4 v5 x18 I)) else some (.inr (v3, v4)))
set_option maxRecDepth 100000 in
set_option maxHeartbeats 4000000 in
theorem k_X11_like_b43 {G : GX} {Q : State → Prop} {X : MX} (hO : shX11 X) {v2 : Int32}  {v3 : Int32} {v4 : Int32} {v5 : Int32} {N : Nat} {I : MI} {L : ML} {out : (Int32 × Int32 × Int32) ⊕ (Int32 × Int32)} (hf : f_X11_like_b43 N v2 v3 v4 v5 I = some out) (hC : ∀ (v3' : Int32) (v4' : Int32) (v5' : Int32), out = .inl (v3', v4', v5') → Ex G mX11_like rmX11_like Q (0, 0) X I L 43 [(0, .ref (gB G + 99)), (2, .int v2), (3, .int v3'), (4, .int v4'), (5, .int v5')] []) (hX : ∀ (w3 : Int32) (w4 : Int32), out = .inr (w3, w4) → Ex G mX11_like rmX11_like Q (0, 0) X I L 143 [(2, .int v2), (3, .int w3), (4, .int w4)] []) : Ex G mX11_like rmX11_like Q (0, 0) X I L 43 [(0, .ref (gB G + 99)), (2, .int v2), (3, .int v3), (4, .int v4), (5, .int v5)] [] := by
  unfold f_X11_like_b43 at hf
  refine ex_iload 4 (pc' := 45) dX11_like_43 rfl rfl ?_
  refine ex_aload_n 0 (pc' := 46) dX11_like_45 rfl rfl rfl ?_
  refine ex_getI (pc' := 49) dX11_like_46 fl_X11_209 rfl (sh11_k hO) rfl ?_
  refine ex_icmpge (tgt := 143) (pc' := 52) dX11_like_49 (by decide) rfl (fun hc12 => ?_) (fun hc12 => ?_)
  · replace hf := if_t hc12 hf
    refine ex_iconst (v := 1) (pc' := 53) dX11_like_52 ic_1 rfl ?_
    refine ex_istore (lv' := [(6, .int 1), (0, .ref (gB G + 99)), (2, .int v2), (3, .int v3), (4, .int v4), (5, .int v5)]) (pc' := 55) dX11_like_53 (Nat.le_of_ble_eq_true rfl) rfl rfl ?_
    refine ex_iconst (v := 0) (pc' := 56) dX11_like_55 ic_0 rfl ?_
    refine ex_istore (lv' := [(7, .int 0), (6, .int 1), (0, .ref (gB G + 99)), (2, .int v2), (3, .int v3), (4, .int v4), (5, .int v5)]) (pc' := 58) dX11_like_56 (Nat.le_of_ble_eq_true rfl) rfl rfl ?_
    refine ex_sub (lv' := [(0, .ref (gB G + 99)), (2, .int v2), (3, .int v3), (4, .int v4), (5, .int v5), (6, .int 1), (7, .int 0)]) [2, 3, 4, 5, 6, 1, 0] rfl ?_
    obtain ⟨x18, hq19, hf⟩ := of_bnd1 hf
    refine k_X11_like_l58 hO (fun x18' he => ?_) _ _ _ hq19
    cases he
    refine ex_iload 5 (pc' := 108) dX11_like_106 rfl rfl ?_
    refine ex_ifeq (tgt := 120) (pc' := 111) dX11_like_108 (by decide) rfl (fun hc20 => ?_) (fun hc20 => ?_)
    · replace hf := if_t hc20 hf
      refine ex_sub [0, 1, 2, 3, 4, 5] rfl (k_X11_like_b43_j120 hO  hf hC hX)
    · replace hf := if_f hc20 hf
      refine ex_iload_n 2 (pc' := 112) dX11_like_111 rfl rfl rfl ?_
      refine ex_ifne (tgt := 120) (pc' := 115) dX11_like_112 (by decide) rfl (fun hc22 => ?_) (fun hc22 => ?_)
      · replace hf := if_t hc22 hf
        refine ex_iload 4 (pc' := 117) dX11_like_115 rfl rfl ?_
        refine ex_goto (tgt := 122) dX11_like_117 (by decide) ?_
        refine ex_sub [0, 1, 2, 4, 5] rfl (k_X11_like_b43_j122 hO  hf hC hX)
      · replace hf := if_f hc22 hf
        refine ex_sub [0, 1, 2, 3, 4, 5] rfl (k_X11_like_b43_j120 hO  hf hC hX)
  · replace hf := if_f hc12 hf
    exact ex_sub [1, 2, 3] rfl (hX _ _ (Option.some.inj hf).symm)
def f_X11_like_l43 (N : Nat) (v2 : Int32) (v3 : Int32) (v4 : Int32) (v5 : Int32) (I : MI) : Option (Int32 × Int32) := loopN (fun s => f_X11_like_b43 N v2 s.1 s.2.1 s.2.2 I) N (v3, v4, v5)
set_option maxRecDepth 100000 in
set_option maxHeartbeats 4000000 in
theorem k_X11_like_l43 {G : GX} {Q : State → Prop} {X : MX} (hO : shX11 X) {v2 : Int32}  {N0 : Nat} {I : MI} {L : ML} {out : (Int32 × Int32)} (hX : ∀ (w3 : Int32) (w4 : Int32), out = (w3, w4) → Ex G mX11_like rmX11_like Q (0, 0) X I L 143 [(2, .int v2), (3, .int w3), (4, .int w4)] []) : ∀ (N : Nat) (v3 : Int32) (v4 : Int32) (v5 : Int32), loopN (fun s => f_X11_like_b43 N0 v2 s.1 s.2.1 s.2.2 I) N (v3, v4, v5) = some out → Ex G mX11_like rmX11_like Q (0, 0) X I L 43 [(0, .ref (gB G + 99)), (2, .int v2), (3, .int v3), (4, .int v4), (5, .int v5)] [] := by
  intro N
  induction N with
  | zero => intro v3 v4 v5 hf; exact absurd (loopN_zero hf) id
  | succ n ih =>
    intro v3 v4 v5 hf
    rcases loopN_succ hf with ⟨s, hb, hl⟩ | hb
    · obtain ⟨v3', v4', v5'⟩ := s
      refine k_X11_like_b43 hO  hb (fun _ _ _ he => ?_) (fun _ _ he => by cases he)
      cases he
      exact ih v3' v4' v5' hl
    · exact k_X11_like_b43 hO  hb (fun _ _ _ he => by cases he) (fun x0 x1 he => hX x0 x1 (Sum.inr.inj he))
def f_X11_like (N : Nat) (v1 : Int32) (v2 : Int32) (I : MI) : Option (Int32 × MI) := bnd1 (f_X11_isSix v1) fun r1 => (if r1 = 0 then some ((-1), I) else bnd1 (f_X11_in (Int32.toInt64 v2) 0 1) fun r4 => (if r4 = 0 then some ((-1), I) else bnd1 (f_X11_layCounts N v1 I) fun I7 => if inb v1 6 then bnd1 (f_X11_layAll N (I7 103 (Int32.toNatClampNeg v1)) I7) fun I10 => bnd2 (f_X11_like_l43 N v2 0 (-5) 0 I10) fun x23 x24 => (if v2 = 0 then some (x23, I10) else some (x24, I10)) else none))
set_option maxRecDepth 100000 in
set_option maxHeartbeats 4000000 in
theorem kb_X11_like {G : GX} {Q : State → Prop} {X : MX} (hO : shX11 X) {v1 : Int32} {v2 : Int32}  {N : Nat} {I : MI} {L : ML} {out : Int32 × MI} (hf : f_X11_like N v1 v2 I = some out) (hR : ∀ (z : Int32) (I' : MI), out = (z, I') → Q = RetQ G (some (.int z)) X I' L (0, 0)) : Ex G mX11_like rmX11_like Q (0, 0) X I L 0 [(0, .ref (gB G + 99)), (1, .int v1), (2, .int v2)] [] := by
  unfold f_X11_like at hf
  refine ex_iload_n 1 (pc' := 1) dX11_like_0 rfl rfl rfl ?_
  obtain ⟨r1, hq2, hf⟩ := of_bnd1 hf
  refine ex_callS_i (rm' := rmX11_isSix) (st := []) (pc' := 4) [.int v1] dX11_like_1 cl_X11_133 (k_X11_isSix G hq2) rfl rfl rfl (ROOM_of rfl) (Nat.le_of_ble_eq_true rfl) rfl rfl ?_
  refine ex_ifeq (tgt := 17) (pc' := 7) dX11_like_4 (by decide) rfl (fun hc3 => ?_) (fun hc3 => ?_)
  · replace hf := if_t hc3 hf
    refine ex_iconst (v := (-1)) (pc' := 18) dX11_like_17 ic_m1 rfl ?_
    exact ex_iret dX11_like_18 rfl (hR _ _ (Option.some.inj hf).symm)
  · replace hf := if_f hc3 hf
    refine ex_iload_n 2 (pc' := 8) dX11_like_7 rfl rfl rfl ?_
    refine ex_i2l (pc' := 9) dX11_like_8 rfl ?_
    refine ex_lconst (v := 0) (pc' := 10) dX11_like_9 lc_0 rfl ?_
    refine ex_lconst (v := 1) (pc' := 11) dX11_like_10 lc_1 rfl ?_
    obtain ⟨r4, hq5, hf⟩ := of_bnd1 hf
    refine ex_callS_i (rm' := rmX11_in) (st := []) (pc' := 14) [.long (Int32.toInt64 v2), .long 0, .long 1] dX11_like_11 cl_X11_129 (k_X11_in G hq5) rfl rfl rfl (ROOM_of rfl) (Nat.le_of_ble_eq_true rfl) rfl rfl ?_
    refine ex_ifne (tgt := 19) (pc' := 17) dX11_like_14 (by decide) rfl (fun hc6 => ?_) (fun hc6 => ?_)
    · replace hf := if_t hc6 hf
      refine ex_iconst (v := (-1)) (pc' := 18) dX11_like_17 ic_m1 rfl ?_
      exact ex_iret dX11_like_18 rfl (hR _ _ (Option.some.inj hf).symm)
    · replace hf := if_f hc6 hf
      refine ex_aload_n 0 (pc' := 20) dX11_like_19 rfl rfl rfl ?_
      refine ex_iload_n 1 (pc' := 21) dX11_like_20 rfl rfl rfl ?_
      obtain ⟨I7, hq8, hf⟩ := of_bnd1 hf
      refine ex_callV_v (rm' := rmX11_layCounts) (st := []) (pc' := 24) [.int v1] dX11_like_21 cl_X11_193 (k_X11_layCounts G hO hq8) rfl (sh11_k hO) ⟨_, _, rfl⟩ rfl rfl (ROOM_of rfl) (Nat.le_of_ble_eq_true rfl) rfl rfl ?_
      refine ex_aload_n 0 (pc' := 25) dX11_like_24 rfl rfl rfl ?_
      refine ex_aload_n 0 (pc' := 26) dX11_like_25 rfl rfl rfl ?_
      refine ex_getR (pc' := 29) dX11_like_26 fl_X11_22 rfl (sh11_k hO) (sh11_F3 hO) rfl ?_
      refine ex_iload_n 1 (pc' := 30) dX11_like_29 rfl rfl rfl ?_
      obtain ⟨hg9, hf⟩ := of_guard hf
      refine ex_iald (pc' := 31) dX11_like_30 (sh11_T3 hO) (inb_in hg9) rfl ?_
      obtain ⟨I10, hq11, hf⟩ := of_bnd1 hf
      refine ex_callV_v (rm' := rmX11_layAll) (st := []) (pc' := 34) [.int (I7 103 (Int32.toNatClampNeg v1))] dX11_like_31 cl_X11_215 (k_X11_layAll G hO hq11) rfl (sh11_k hO) ⟨_, _, rfl⟩ rfl rfl (ROOM_of rfl) (Nat.le_of_ble_eq_true rfl) rfl rfl ?_
      refine ex_iconst (v := 0) (pc' := 35) dX11_like_34 ic_0 rfl ?_
      refine ex_istore_n (lv' := [(3, .int 0), (0, .ref (gB G + 99)), (1, .int v1), (2, .int v2)]) (pc' := 36) dX11_like_35 rfl (Nat.le_of_ble_eq_true rfl) rfl rfl ?_
      refine ex_bipush (v := (-5)) (pc' := 38) dX11_like_36 bp_m5 rfl ?_
      refine ex_istore (lv' := [(4, .int (-5)), (3, .int 0), (0, .ref (gB G + 99)), (1, .int v1), (2, .int v2)]) (pc' := 40) dX11_like_38 (Nat.le_of_ble_eq_true rfl) rfl rfl ?_
      refine ex_iconst (v := 0) (pc' := 41) dX11_like_40 ic_0 rfl ?_
      refine ex_istore (lv' := [(5, .int 0), (4, .int (-5)), (3, .int 0), (0, .ref (gB G + 99)), (1, .int v1), (2, .int v2)]) (pc' := 43) dX11_like_41 (Nat.le_of_ble_eq_true rfl) rfl rfl ?_
      refine ex_sub (lv' := [(0, .ref (gB G + 99)), (2, .int v2), (3, .int 0), (4, .int (-5)), (5, .int 0)]) [3, 5, 2, 1, 0] rfl ?_
      obtain ⟨x23, x24, hq25, hf⟩ := of_bnd2 hf
      refine k_X11_like_l43 hO (fun x23' x24' he => ?_) _ _ _ _ hq25
      cases he
      refine ex_iload_n 0 (pc' := 144) dX11_like_143 rfl rfl rfl ?_
      refine ex_ifne (tgt := 151) (pc' := 147) dX11_like_144 (by decide) rfl (fun hc26 => ?_) (fun hc26 => ?_)
      · replace hf := if_t hc26 hf
        refine ex_iload_n 1 (pc' := 148) dX11_like_147 rfl rfl rfl ?_
        refine ex_goto (tgt := 153) dX11_like_148 (by decide) ?_
        exact ex_iret dX11_like_153 rfl (hR _ _ (Option.some.inj hf).symm)
      · replace hf := if_f hc26 hf
        refine ex_iload 2 (pc' := 153) dX11_like_151 rfl rfl ?_
        exact ex_iret dX11_like_153 rfl (hR _ _ (Option.some.inj hf).symm)
set_option maxRecDepth 100000 in
set_option maxHeartbeats 4000000 in
theorem k_X11_like (G : GX) {X : MX} (hO : shX11 X) {v1 : Int32} {v2 : Int32}  {N : Nat} {I : MI} {L : ML} {z : Int32} {I' : MI} (hf : f_X11_like N v1 v2 I = some (z, I')) : Con G mX11_like yX11_like rmX11_like (fun B => [.ref (B + 99), .int v1, .int v2]) X I L (some (.int z)) X I' L :=
  Con.of (by decide) rfl (fun h => by cases h) (fun B => Nat.le_of_ble_eq_true rfl) (fun G => kb_X11_like hO  hf (fun _ _ he => by cases he; rfl))
-- X11_listed ('RookWordsModel', 'listed', '(IIII)I')
def rmX11_listed : RM := ((3, 71, 0, 0), false, (some FieldType.int))
def f_X11_listed_b85 (N : Nat) (v1 : Int32) (v2 : Int32) (v3 : Int32) (v4 : Int32) (v5 : Int32) (v7 : Int32) (v6 : Int32) (I : MI) : Option ((Int32 × MI) ⊕ ((Int32 × MI) ⊕ (Int32 × MI))) := bnd2 (f_X11_goesOn N v1 v2 I) fun r17 I18 => (if r17 = 0 then some (.inr (.inl (v6, I18))) else (if (I18 99 45) = v7 then (if v6 = v3 then bnd1 (f_X11_layMade N v5 I18) fun I23 => (if v4 = (-1) then some (.inr (.inr (v7, I23))) else bnd1 (f_X11_columnAt v5 v4 I23) fun r26 => some (.inr (.inr (r26, I23)))) else some (.inl (v6 + 1, I18))) else some (.inl (v6, I18))))
set_option maxRecDepth 100000 in
set_option maxHeartbeats 4000000 in
theorem k_X11_listed_b85 {G : GX} {Q : State → Prop} {X : MX} (hO : shX11 X) {v1 : Int32} {v2 : Int32} {v3 : Int32} {v4 : Int32} {v5 : Int32} {v7 : Int32}  {v6 : Int32} {N : Nat} {I : MI} {L : ML} {out : (Int32 × MI) ⊕ ((Int32 × MI) ⊕ (Int32 × MI))} (hf : f_X11_listed_b85 N v1 v2 v3 v4 v5 v7 v6 I = some out) (hC : ∀ (v6' : Int32) (I' : MI), out = .inl (v6', I') → Ex G mX11_listed rmX11_listed Q (0, 0) X I' L 85 [(0, .ref (gB G + 99)), (1, .int v1), (2, .int v2), (3, .int v3), (4, .int v4), (5, .int v5), (6, .int v6'), (7, .int v7)] []) (hX : ∀ (w6 : Int32) (I' : MI), out = .inr (.inl (w6, I')) → Ex G mX11_listed rmX11_listed Q (0, 0) X I' L 141 [(0, .ref (gB G + 99)), (1, .int v1), (2, .int v2), (3, .int v3), (4, .int v4), (5, .int v5), (6, .int w6), (7, .int v7)] []) (hR : ∀ (z : Int32) (I' : MI), out = .inr (.inr (z, I')) → Q = RetQ G (some (.int z)) X I' L (0, 0)) : Ex G mX11_listed rmX11_listed Q (0, 0) X I L 85 [(0, .ref (gB G + 99)), (1, .int v1), (2, .int v2), (3, .int v3), (4, .int v4), (5, .int v5), (6, .int v6), (7, .int v7)] [] := by
  unfold f_X11_listed_b85 at hf
  refine ex_aload_n 0 (pc' := 86) dX11_listed_85 rfl rfl rfl ?_
  refine ex_iload_n 1 (pc' := 87) dX11_listed_86 rfl rfl rfl ?_
  refine ex_iload_n 2 (pc' := 88) dX11_listed_87 rfl rfl rfl ?_
  obtain ⟨r17, I18, hq19, hf⟩ := of_bnd2 hf
  refine ex_callV_i (rm' := rmX11_goesOn) (st := []) (pc' := 91) [.int v1, .int v2] dX11_listed_88 cl_X11_262 (k_X11_goesOn G hO hq19) rfl (sh11_k hO) ⟨_, _, rfl⟩ rfl rfl (ROOM_of rfl) (Nat.le_of_ble_eq_true rfl) rfl rfl ?_
  refine ex_ifeq (tgt := 141) (pc' := 94) dX11_listed_91 (by decide) rfl (fun hc20 => ?_) (fun hc20 => ?_)
  · replace hf := if_t hc20 hf
    exact ex_sub [0, 1, 2, 3, 4, 5, 6, 7] rfl (hX _ _ (Option.some.inj hf).symm)
  · replace hf := if_f hc20 hf
    refine ex_aload_n 0 (pc' := 95) dX11_listed_94 rfl rfl rfl ?_
    refine ex_getI (pc' := 98) dX11_listed_95 fl_X11_247 rfl (sh11_k hO) rfl ?_
    refine ex_iload 7 (pc' := 100) dX11_listed_98 rfl rfl ?_
    refine ex_icmpne (tgt := 85) (pc' := 103) dX11_listed_100 (by decide) rfl (fun hc21 => ?_) (fun hc21 => ?_)
    · replace hf := if_t hc21 hf
      refine ex_iload 6 (pc' := 105) dX11_listed_103 rfl rfl ?_
      refine ex_iload_n 3 (pc' := 106) dX11_listed_105 rfl rfl rfl ?_
      refine ex_icmpne (tgt := 135) (pc' := 109) dX11_listed_106 (by decide) rfl (fun hc22 => ?_) (fun hc22 => ?_)
      · replace hf := if_t hc22 hf
        refine ex_aload_n 0 (pc' := 110) dX11_listed_109 rfl rfl rfl ?_
        refine ex_iload 5 (pc' := 112) dX11_listed_110 rfl rfl ?_
        obtain ⟨I23, hq24, hf⟩ := of_bnd1 hf
        refine ex_callV_v (rm' := rmX11_layMade) (st := []) (pc' := 115) [.int v5] dX11_listed_112 cl_X11_266 (k_X11_layMade G hO hq24) rfl (sh11_k hO) ⟨_, _, rfl⟩ rfl rfl (ROOM_of rfl) (Nat.le_of_ble_eq_true rfl) rfl rfl ?_
        refine ex_iload 4 (pc' := 117) dX11_listed_115 rfl rfl ?_
        refine ex_iconst (v := (-1)) (pc' := 118) dX11_listed_117 ic_m1 rfl ?_
        refine ex_icmpne (tgt := 126) (pc' := 121) dX11_listed_118 (by decide) rfl (fun hc25 => ?_) (fun hc25 => ?_)
        · replace hf := if_t hc25 hf
          refine ex_iload 7 (pc' := 123) dX11_listed_121 rfl rfl ?_
          refine ex_goto (tgt := 134) dX11_listed_123 (by decide) ?_
          exact ex_iret dX11_listed_134 rfl (hR _ _ (Option.some.inj hf).symm)
        · replace hf := if_f hc25 hf
          refine ex_aload_n 0 (pc' := 127) dX11_listed_126 rfl rfl rfl ?_
          refine ex_iload 5 (pc' := 129) dX11_listed_127 rfl rfl ?_
          refine ex_iload 4 (pc' := 131) dX11_listed_129 rfl rfl ?_
          obtain ⟨r26, hq27, hf⟩ := of_bnd1 hf
          refine ex_callV_i (rm' := rmX11_columnAt) (st := []) (pc' := 134) [.int v5, .int v4] dX11_listed_131 cl_X11_269 (k_X11_columnAt G hO hq27) rfl (sh11_k hO) ⟨_, _, rfl⟩ rfl rfl (ROOM_of rfl) (Nat.le_of_ble_eq_true rfl) rfl rfl ?_
          exact ex_iret dX11_listed_134 rfl (hR _ _ (Option.some.inj hf).symm)
      · replace hf := if_f hc22 hf
        refine ex_iincc (lv' := [(6, .int (v6 + 1)), (0, .ref (gB G + 99)), (1, .int v1), (2, .int v2), (3, .int v3), (4, .int v4), (5, .int v5), (7, .int v7)]) 6 (pc' := 138) dX11_listed_135 rfl ic_1 (Nat.le_of_ble_eq_true rfl) rfl rfl ?_
        refine ex_goto (tgt := 85) dX11_listed_138 (by decide) ?_
        exact ex_sub [1, 2, 3, 4, 5, 6, 0, 7] rfl (hC _ _ (Option.some.inj hf).symm)
    · replace hf := if_f hc21 hf
      exact ex_sub [0, 1, 2, 3, 4, 5, 6, 7] rfl (hC _ _ (Option.some.inj hf).symm)
def f_X11_listed_l85 (N : Nat) (v1 : Int32) (v2 : Int32) (v3 : Int32) (v4 : Int32) (v5 : Int32) (v7 : Int32) (v6 : Int32) (I : MI) : Option ((Int32 × MI) ⊕ (Int32 × MI)) := loopN (fun s => f_X11_listed_b85 N v1 v2 v3 v4 v5 v7 s.1 s.2) N (v6, I)
set_option maxRecDepth 100000 in
set_option maxHeartbeats 4000000 in
theorem k_X11_listed_l85 {G : GX} {Q : State → Prop} {X : MX} (hO : shX11 X) {v1 : Int32} {v2 : Int32} {v3 : Int32} {v4 : Int32} {v5 : Int32} {v7 : Int32}  {N0 : Nat} {L : ML} {out : ((Int32 × MI) ⊕ (Int32 × MI))} (hX : ∀ (w6 : Int32) (I' : MI), out = .inl (w6, I') → Ex G mX11_listed rmX11_listed Q (0, 0) X I' L 141 [(0, .ref (gB G + 99)), (1, .int v1), (2, .int v2), (3, .int v3), (4, .int v4), (5, .int v5), (6, .int w6), (7, .int v7)] []) (hR : ∀ (z : Int32) (I' : MI), out = .inr (z, I') → Q = RetQ G (some (.int z)) X I' L (0, 0)) : ∀ (N : Nat) (v6 : Int32) (I : MI), loopN (fun s => f_X11_listed_b85 N0 v1 v2 v3 v4 v5 v7 s.1 s.2) N (v6, I) = some out → Ex G mX11_listed rmX11_listed Q (0, 0) X I L 85 [(0, .ref (gB G + 99)), (1, .int v1), (2, .int v2), (3, .int v3), (4, .int v4), (5, .int v5), (6, .int v6), (7, .int v7)] [] := by
  intro N
  induction N with
  | zero => intro v6 I hf; exact absurd (loopN_zero hf) id
  | succ n ih =>
    intro v6 I hf
    rcases loopN_succ hf with ⟨s, hb, hl⟩ | hb
    · obtain ⟨v6', I'⟩ := s
      refine k_X11_listed_b85 hO  hb (fun _ _ he => ?_) (fun _ _ he => by cases he) (fun _ _ he => by cases he)
      cases he
      exact ih v6' I' hl
    · exact k_X11_listed_b85 hO  hb (fun _ _ he => by cases he) (fun x0 x1 he => hX x0 x1 (Sum.inr.inj he)) (fun z0 z1 he => hR z0 z1 (Sum.inr.inj he))
def f_X11_listed_b68 (N : Nat) (v1 : Int32) (v2 : Int32) (v3 : Int32) (v4 : Int32) (v5 : Int32) (v6 : Int32) (v7 : Int32) (I : MI) : Option ((Int32 × Int32 × MI) ⊕ ((MI) ⊕ (Int32 × MI))) := (if 36 < v7 then some (.inr (.inl I)) else (if v5 < v2 then some (.inr (.inl I)) else bnd1 (f_X11_begin I) fun I15 => bns2 (f_X11_listed_l85 N v1 v2 v3 v4 v5 v7 v6 I15) (fun x28 I29 => some (.inl (x28, v7 + 1, I29))) (fun q31 => some (.inr (.inr q31)))))
set_option maxRecDepth 100000 in
set_option maxHeartbeats 4000000 in
theorem k_X11_listed_b68 {G : GX} {Q : State → Prop} {X : MX} (hO : shX11 X) {v1 : Int32} {v2 : Int32} {v3 : Int32} {v4 : Int32} {v5 : Int32}  {v6 : Int32} {v7 : Int32} {N : Nat} {I : MI} {L : ML} {out : (Int32 × Int32 × MI) ⊕ ((MI) ⊕ (Int32 × MI))} (hf : f_X11_listed_b68 N v1 v2 v3 v4 v5 v6 v7 I = some out) (hC : ∀ (v6' : Int32) (v7' : Int32) (I' : MI), out = .inl (v6', v7', I') → Ex G mX11_listed rmX11_listed Q (0, 0) X I' L 68 [(0, .ref (gB G + 99)), (1, .int v1), (2, .int v2), (3, .int v3), (4, .int v4), (5, .int v5), (6, .int v6'), (7, .int v7')] []) (hX : ∀ (I' : MI), out = .inr (.inl I') → Ex G mX11_listed rmX11_listed Q (0, 0) X I' L 147 [] []) (hR : ∀ (z : Int32) (I' : MI), out = .inr (.inr (z, I')) → Q = RetQ G (some (.int z)) X I' L (0, 0)) : Ex G mX11_listed rmX11_listed Q (0, 0) X I L 68 [(0, .ref (gB G + 99)), (1, .int v1), (2, .int v2), (3, .int v3), (4, .int v4), (5, .int v5), (6, .int v6), (7, .int v7)] [] := by
  unfold f_X11_listed_b68 at hf
  refine ex_iload 7 (pc' := 70) dX11_listed_68 rfl rfl ?_
  refine ex_bipush (v := 36) (pc' := 72) dX11_listed_70 bp_36 rfl ?_
  refine ex_icmpgt (tgt := 147) (pc' := 75) dX11_listed_72 (by decide) rfl (fun hc13 => ?_) (fun hc13 => ?_)
  · replace hf := if_t hc13 hf
    exact ex_sub [] rfl (hX _ (Option.some.inj hf).symm)
  · replace hf := if_f hc13 hf
    refine ex_iload_n 2 (pc' := 76) dX11_listed_75 rfl rfl rfl ?_
    refine ex_iload 5 (pc' := 78) dX11_listed_76 rfl rfl ?_
    refine ex_icmpgt (tgt := 147) (pc' := 81) dX11_listed_78 (by decide) rfl (fun hc14 => ?_) (fun hc14 => ?_)
    · replace hf := if_t hc14 hf
      exact ex_sub [] rfl (hX _ (Option.some.inj hf).symm)
    · replace hf := if_f hc14 hf
      refine ex_aload_n 0 (pc' := 82) dX11_listed_81 rfl rfl rfl ?_
      obtain ⟨I15, hq16, hf⟩ := of_bnd1 hf
      refine ex_callV_v (rm' := rmX11_begin) (st := []) (pc' := 85) [] dX11_listed_82 cl_X11_259 (k_X11_begin G hO hq16) rfl (sh11_k hO) ⟨_, _, rfl⟩ rfl rfl (ROOM_of rfl) (Nat.le_of_ble_eq_true rfl) rfl rfl ?_
      refine ex_sub (lv' := [(0, .ref (gB G + 99)), (1, .int v1), (2, .int v2), (3, .int v3), (4, .int v4), (5, .int v5), (6, .int v6), (7, .int v7)]) [0, 1, 2, 3, 4, 5, 6, 7] rfl ?_
      rcases of_bns2 hf with ⟨x28, I29, hq30, hf⟩ | ⟨q31, hq30, hf⟩
      · refine k_X11_listed_l85 hO (fun x28' I29' he => ?_) (fun _ _ he => by cases he) _ _ _ hq30
        cases he
        refine ex_iincc (lv' := [(7, .int (v7 + 1)), (0, .ref (gB G + 99)), (1, .int v1), (2, .int v2), (3, .int v3), (4, .int v4), (5, .int v5), (6, .int x28)]) 7 (pc' := 144) dX11_listed_141 rfl ic_1 (Nat.le_of_ble_eq_true rfl) rfl rfl ?_
        refine ex_goto (tgt := 68) dX11_listed_144 (by decide) ?_
        exact ex_sub [1, 2, 3, 4, 5, 6, 7, 0] rfl (hC _ _ _ (Option.some.inj hf).symm)
      · refine k_X11_listed_l85 hO (fun _ _ he => by cases he) (fun z0 z1 he => ?_) _ _ _ hq30
        refine hR _ _ ?_
        rw [← Option.some.inj hf]
        cases he
        rfl
def f_X11_listed_l68 (N : Nat) (v1 : Int32) (v2 : Int32) (v3 : Int32) (v4 : Int32) (v5 : Int32) (v6 : Int32) (v7 : Int32) (I : MI) : Option ((MI) ⊕ (Int32 × MI)) := loopN (fun s => f_X11_listed_b68 N v1 v2 v3 v4 v5 s.1 s.2.1 s.2.2) N (v6, v7, I)
set_option maxRecDepth 100000 in
set_option maxHeartbeats 4000000 in
theorem k_X11_listed_l68 {G : GX} {Q : State → Prop} {X : MX} (hO : shX11 X) {v1 : Int32} {v2 : Int32} {v3 : Int32} {v4 : Int32} {v5 : Int32}  {N0 : Nat} {L : ML} {out : ((MI) ⊕ (Int32 × MI))} (hX : ∀ (I' : MI), out = .inl I' → Ex G mX11_listed rmX11_listed Q (0, 0) X I' L 147 [] []) (hR : ∀ (z : Int32) (I' : MI), out = .inr (z, I') → Q = RetQ G (some (.int z)) X I' L (0, 0)) : ∀ (N : Nat) (v6 : Int32) (v7 : Int32) (I : MI), loopN (fun s => f_X11_listed_b68 N0 v1 v2 v3 v4 v5 s.1 s.2.1 s.2.2) N (v6, v7, I) = some out → Ex G mX11_listed rmX11_listed Q (0, 0) X I L 68 [(0, .ref (gB G + 99)), (1, .int v1), (2, .int v2), (3, .int v3), (4, .int v4), (5, .int v5), (6, .int v6), (7, .int v7)] [] := by
  intro N
  induction N with
  | zero => intro v6 v7 I hf; exact absurd (loopN_zero hf) id
  | succ n ih =>
    intro v6 v7 I hf
    rcases loopN_succ hf with ⟨s, hb, hl⟩ | hb
    · obtain ⟨v6', v7', I'⟩ := s
      refine k_X11_listed_b68 hO  hb (fun _ _ _ he => ?_) (fun _ he => by cases he) (fun _ _ he => by cases he)
      cases he
      exact ih v6' v7' I' hl
    · exact k_X11_listed_b68 hO  hb (fun _ _ _ he => by cases he) (fun x0 he => hX x0 (Sum.inr.inj he)) (fun z0 z1 he => hR z0 z1 (Sum.inr.inj he))
def f_X11_listed (N : Nat) (v1 : Int32) (v2 : Int32) (v3 : Int32) (v4 : Int32) (I : MI) : Option (Int32 × MI) := bnd1 (f_X11_isSix v1) fun r1 => (if r1 = 0 then some ((-1), I) else (if v3 < 0 then some ((-1), I) else if inb v1 6 then bnd1 (f_X11_in (Int32.toInt64 v4) (-1) (Int32.toInt64 ((I 103 (Int32.toNatClampNeg v1)) - 1))) fun r6 => (if r6 = 0 then some ((-1), I) else (if v2 < 0 then some ((-2), I) else if inb v1 6 then (if 4 < (I 103 (Int32.toNatClampNeg v1)) then some ((-3), I) else if inb v1 6 then bns1 (f_X11_listed_l68 N v1 v2 v3 v4 (I 103 (Int32.toNatClampNeg v1)) 0 0 I) (fun I32 => some ((-5), I32)) (fun q34 => some q34) else none) else none)) else none))
set_option maxRecDepth 100000 in
set_option maxHeartbeats 4000000 in
theorem kb_X11_listed {G : GX} {Q : State → Prop} {X : MX} (hO : shX11 X) {v1 : Int32} {v2 : Int32} {v3 : Int32} {v4 : Int32}  {N : Nat} {I : MI} {L : ML} {out : Int32 × MI} (hf : f_X11_listed N v1 v2 v3 v4 I = some out) (hR : ∀ (z : Int32) (I' : MI), out = (z, I') → Q = RetQ G (some (.int z)) X I' L (0, 0)) : Ex G mX11_listed rmX11_listed Q (0, 0) X I L 0 [(0, .ref (gB G + 99)), (1, .int v1), (2, .int v2), (3, .int v3), (4, .int v4)] [] := by
  unfold f_X11_listed at hf
  refine ex_iload_n 1 (pc' := 1) dX11_listed_0 rfl rfl rfl ?_
  obtain ⟨r1, hq2, hf⟩ := of_bnd1 hf
  refine ex_callS_i (rm' := rmX11_isSix) (st := []) (pc' := 4) [.int v1] dX11_listed_1 cl_X11_133 (k_X11_isSix G hq2) rfl rfl rfl (ROOM_of rfl) (Nat.le_of_ble_eq_true rfl) rfl rfl ?_
  refine ex_ifeq (tgt := 32) (pc' := 7) dX11_listed_4 (by decide) rfl (fun hc3 => ?_) (fun hc3 => ?_)
  · replace hf := if_t hc3 hf
    refine ex_iconst (v := (-1)) (pc' := 33) dX11_listed_32 ic_m1 rfl ?_
    exact ex_iret dX11_listed_33 rfl (hR _ _ (Option.some.inj hf).symm)
  · replace hf := if_f hc3 hf
    refine ex_iload_n 3 (pc' := 8) dX11_listed_7 rfl rfl rfl ?_
    refine ex_iflt (tgt := 32) (pc' := 11) dX11_listed_8 (by decide) rfl (fun hc4 => ?_) (fun hc4 => ?_)
    · replace hf := if_t hc4 hf
      refine ex_iconst (v := (-1)) (pc' := 33) dX11_listed_32 ic_m1 rfl ?_
      exact ex_iret dX11_listed_33 rfl (hR _ _ (Option.some.inj hf).symm)
    · replace hf := if_f hc4 hf
      refine ex_iload 4 (pc' := 13) dX11_listed_11 rfl rfl ?_
      refine ex_i2l (pc' := 14) dX11_listed_13 rfl ?_
      refine ex_ldc2 (v := (-1)) (pc' := 17) dX11_listed_14 co_X11_223 rfl ?_
      refine ex_aload_n 0 (pc' := 18) dX11_listed_17 rfl rfl rfl ?_
      refine ex_getR (pc' := 21) dX11_listed_18 fl_X11_22 rfl (sh11_k hO) (sh11_F3 hO) rfl ?_
      refine ex_iload_n 1 (pc' := 22) dX11_listed_21 rfl rfl rfl ?_
      obtain ⟨hg5, hf⟩ := of_guard hf
      refine ex_iald (pc' := 23) dX11_listed_22 (sh11_T3 hO) (inb_in hg5) rfl ?_
      refine ex_iconst (v := 1) (pc' := 24) dX11_listed_23 ic_1 rfl ?_
      refine ex_isub (pc' := 25) dX11_listed_24 rfl ?_
      refine ex_i2l (pc' := 26) dX11_listed_25 rfl ?_
      obtain ⟨r6, hq7, hf⟩ := of_bnd1 hf
      refine ex_callS_i (rm' := rmX11_in) (st := []) (pc' := 29) [.long (Int32.toInt64 v4), .long (-1), .long (Int32.toInt64 ((I 103 (Int32.toNatClampNeg v1)) - 1))] dX11_listed_26 cl_X11_129 (k_X11_in G hq7) rfl rfl rfl (ROOM_of rfl) (Nat.le_of_ble_eq_true rfl) rfl rfl ?_
      refine ex_ifne (tgt := 34) (pc' := 32) dX11_listed_29 (by decide) rfl (fun hc8 => ?_) (fun hc8 => ?_)
      · replace hf := if_t hc8 hf
        refine ex_iconst (v := (-1)) (pc' := 33) dX11_listed_32 ic_m1 rfl ?_
        exact ex_iret dX11_listed_33 rfl (hR _ _ (Option.some.inj hf).symm)
      · replace hf := if_f hc8 hf
        refine ex_iload_n 2 (pc' := 35) dX11_listed_34 rfl rfl rfl ?_
        refine ex_ifge (tgt := 41) (pc' := 38) dX11_listed_35 (by decide) rfl (fun hc9 => ?_) (fun hc9 => ?_)
        · replace hf := if_t hc9 hf
          refine ex_bipush (v := (-2)) (pc' := 40) dX11_listed_38 bp_m2 rfl ?_
          exact ex_iret dX11_listed_40 rfl (hR _ _ (Option.some.inj hf).symm)
        · replace hf := if_f hc9 hf
          refine ex_aload_n 0 (pc' := 42) dX11_listed_41 rfl rfl rfl ?_
          refine ex_getR (pc' := 45) dX11_listed_42 fl_X11_22 rfl (sh11_k hO) (sh11_F3 hO) rfl ?_
          refine ex_iload_n 1 (pc' := 46) dX11_listed_45 rfl rfl rfl ?_
          obtain ⟨hg10, hf⟩ := of_guard hf
          refine ex_iald (pc' := 47) dX11_listed_46 (sh11_T3 hO) (inb_in hg10) rfl ?_
          refine ex_iconst (v := 4) (pc' := 48) dX11_listed_47 ic_4 rfl ?_
          refine ex_icmple (tgt := 54) (pc' := 51) dX11_listed_48 (by decide) rfl (fun hc11 => ?_) (fun hc11 => ?_)
          · replace hf := if_t hc11 hf
            refine ex_bipush (v := (-3)) (pc' := 53) dX11_listed_51 bp_m3 rfl ?_
            exact ex_iret dX11_listed_53 rfl (hR _ _ (Option.some.inj hf).symm)
          · replace hf := if_f hc11 hf
            refine ex_aload_n 0 (pc' := 55) dX11_listed_54 rfl rfl rfl ?_
            refine ex_getR (pc' := 58) dX11_listed_55 fl_X11_22 rfl (sh11_k hO) (sh11_F3 hO) rfl ?_
            refine ex_iload_n 1 (pc' := 59) dX11_listed_58 rfl rfl rfl ?_
            obtain ⟨hg12, hf⟩ := of_guard hf
            refine ex_iald (pc' := 60) dX11_listed_59 (sh11_T3 hO) (inb_in hg12) rfl ?_
            refine ex_istore (lv' := [(5, .int (I 103 (Int32.toNatClampNeg v1))), (0, .ref (gB G + 99)), (1, .int v1), (2, .int v2), (3, .int v3), (4, .int v4)]) (pc' := 62) dX11_listed_60 (Nat.le_of_ble_eq_true rfl) rfl rfl ?_
            refine ex_iconst (v := 0) (pc' := 63) dX11_listed_62 ic_0 rfl ?_
            refine ex_istore (lv' := [(6, .int 0), (5, .int (I 103 (Int32.toNatClampNeg v1))), (0, .ref (gB G + 99)), (1, .int v1), (2, .int v2), (3, .int v3), (4, .int v4)]) (pc' := 65) dX11_listed_63 (Nat.le_of_ble_eq_true rfl) rfl rfl ?_
            refine ex_iconst (v := 0) (pc' := 66) dX11_listed_65 ic_0 rfl ?_
            refine ex_istore (lv' := [(7, .int 0), (6, .int 0), (5, .int (I 103 (Int32.toNatClampNeg v1))), (0, .ref (gB G + 99)), (1, .int v1), (2, .int v2), (3, .int v3), (4, .int v4)]) (pc' := 68) dX11_listed_66 (Nat.le_of_ble_eq_true rfl) rfl rfl ?_
            refine ex_sub (lv' := [(0, .ref (gB G + 99)), (1, .int v1), (2, .int v2), (3, .int v3), (4, .int v4), (5, .int (I 103 (Int32.toNatClampNeg v1))), (6, .int 0), (7, .int 0)]) [3, 4, 5, 6, 7, 2, 1, 0] rfl ?_
            rcases of_bns1 hf with ⟨I32, hq33, hf⟩ | ⟨q34, hq33, hf⟩
            · refine k_X11_listed_l68 hO (fun I32' he => ?_) (fun _ _ he => by cases he) _ _ _ _ hq33
              cases he
              refine ex_bipush (v := (-5)) (pc' := 149) dX11_listed_147 bp_m5 rfl ?_
              exact ex_iret dX11_listed_149 rfl (hR _ _ (Option.some.inj hf).symm)
            · refine k_X11_listed_l68 hO (fun _ he => by cases he) (fun z0 z1 he => ?_) _ _ _ _ hq33
              refine hR _ _ ?_
              rw [← Option.some.inj hf]
              cases he
              rfl
set_option maxRecDepth 100000 in
set_option maxHeartbeats 4000000 in
theorem k_X11_listed (G : GX) {X : MX} (hO : shX11 X) {v1 : Int32} {v2 : Int32} {v3 : Int32} {v4 : Int32}  {N : Nat} {I : MI} {L : ML} {z : Int32} {I' : MI} (hf : f_X11_listed N v1 v2 v3 v4 I = some (z, I')) : Con G mX11_listed yX11_listed rmX11_listed (fun B => [.ref (B + 99), .int v1, .int v2, .int v3, .int v4]) X I L (some (.int z)) X I' L :=
  Con.of (by decide) rfl (fun h => by cases h) (fun B => Nat.le_of_ble_eq_true rfl) (fun G => kb_X11_listed hO  hf (fun _ _ he => by cases he; rfl))
theorem co_X11_290 : Cond.constantLong RX11 290 (40) ∈ lwg := lwg_at 1363 (by decide +kernel) rfl
theorem cl_X11_292 : CLV RX11 292 yX11_draw mX11_draw (some FieldType.int) 1 := ⟨⟨lwg_at 1364 (by decide +kernel) rfl, lwg_at 1366 (by decide +kernel) rfl, lwg_at 44 (by decide +kernel) rfl, lwg_at 61 (by decide +kernel) rfl⟩, lwg_at 1367 (by decide +kernel) rfl, ⟨by decide +kernel, by decide +kernel, by decide +kernel⟩⟩
-- X11_lots ('RookWordsModel', 'lots', '(IIII)I')
def rmX11_lots : RM := ((2, 45, 0, 0), false, (some FieldType.int))
def f_X11_lots_b102 (N : Nat) (v1 : Int32) (v2 : Int32) (v4 : Int32) (v5 : Int32) (v6 : Int32) (v7 : Int32) (v8 : Int32) (v9 : Int32) (v10 : Int32) (v11 : Int32) (v12 : Int32) : Option ((Int32 × Int32) ⊕ (Int32)) := (if ((jshr v8 v12) &&& 1) = 0 then some (.inl (v11 - ((jshr v8 v12) &&& 1), v12 + 1)) else (if 0 < v11 then some (.inl (v11 - ((jshr v8 v12) &&& 1), v12 + 1)) else some (.inr v12)))
set_option maxRecDepth 100000 in
set_option maxHeartbeats 4000000 in
theorem k_X11_lots_b102 {G : GX} {Q : State → Prop} {X : MX} (hO : shX11 X) {v1 : Int32} {v2 : Int32} {v4 : Int32} {v5 : Int32} {v6 : Int32} {v7 : Int32} {v8 : Int32} {v9 : Int32} {v10 : Int32}  {v11 : Int32} {v12 : Int32} {N : Nat} {I : MI} {L : ML} {out : (Int32 × Int32) ⊕ (Int32)} (hf : f_X11_lots_b102 N v1 v2 v4 v5 v6 v7 v8 v9 v10 v11 v12 = some out) (hC : ∀ (v11' : Int32) (v12' : Int32), out = .inl (v11', v12') → Ex G mX11_lots rmX11_lots Q (0, 0) X I L 102 [(0, .ref (gB G + 99)), (1, .int v1), (2, .int v2), (4, .int v4), (5, .int v5), (6, .int v6), (7, .int v7), (8, .int v8), (9, .int v9), (10, .int v10), (11, .int v11'), (12, .int v12')] []) (hX : ∀ (w12 : Int32), out = .inr w12 → Ex G mX11_lots rmX11_lots Q (0, 0) X I L 135 [(0, .ref (gB G + 99)), (1, .int v1), (2, .int v2), (4, .int v4), (5, .int v5), (6, .int v6), (7, .int v7), (8, .int v8), (9, .int v9), (10, .int v10), (12, .int w12)] []) : Ex G mX11_lots rmX11_lots Q (0, 0) X I L 102 [(0, .ref (gB G + 99)), (1, .int v1), (2, .int v2), (4, .int v4), (5, .int v5), (6, .int v6), (7, .int v7), (8, .int v8), (9, .int v9), (10, .int v10), (11, .int v11), (12, .int v12)] [] := by
  unfold f_X11_lots_b102 at hf
  refine ex_iload 7 (pc' := 104) dX11_lots_102 rfl rfl ?_
  refine ex_iload 11 (pc' := 106) dX11_lots_104 rfl rfl ?_
  refine ex_ishr (pc' := 107) dX11_lots_106 rfl ?_
  refine ex_iconst (v := 1) (pc' := 108) dX11_lots_107 ic_1 rfl ?_
  refine ex_iand (pc' := 109) dX11_lots_108 rfl ?_
  refine ex_ifeq (tgt := 117) (pc' := 112) dX11_lots_109 (by decide) rfl (fun hc20 => ?_) (fun hc20 => ?_)
  · replace hf := if_t hc20 hf
    refine ex_iload 10 (pc' := 119) dX11_lots_117 rfl rfl ?_
    refine ex_iload 7 (pc' := 121) dX11_lots_119 rfl rfl ?_
    refine ex_iload 11 (pc' := 123) dX11_lots_121 rfl rfl ?_
    refine ex_ishr (pc' := 124) dX11_lots_123 rfl ?_
    refine ex_iconst (v := 1) (pc' := 125) dX11_lots_124 ic_1 rfl ?_
    refine ex_iand (pc' := 126) dX11_lots_125 rfl ?_
    refine ex_isub (pc' := 127) dX11_lots_126 rfl ?_
    refine ex_istore (lv' := [(11, .int (v11 - ((jshr v8 v12) &&& 1))), (0, .ref (gB G + 99)), (1, .int v1), (2, .int v2), (4, .int v4), (5, .int v5), (6, .int v6), (7, .int v7), (8, .int v8), (9, .int v9), (10, .int v10), (12, .int v12)]) (pc' := 129) dX11_lots_127 (Nat.le_of_ble_eq_true rfl) rfl rfl ?_
    refine ex_iincc (lv' := [(12, .int (v12 + 1)), (11, .int (v11 - ((jshr v8 v12) &&& 1))), (0, .ref (gB G + 99)), (1, .int v1), (2, .int v2), (4, .int v4), (5, .int v5), (6, .int v6), (7, .int v7), (8, .int v8), (9, .int v9), (10, .int v10)]) 11 (pc' := 132) dX11_lots_129 rfl ic_1 (Nat.le_of_ble_eq_true rfl) rfl rfl ?_
    refine ex_goto (tgt := 102) dX11_lots_132 (by decide) ?_
    exact ex_sub [2, 3, 4, 5, 6, 7, 8, 9, 10, 11, 1, 0] rfl (hC _ _ (Option.some.inj hf).symm)
  · replace hf := if_f hc20 hf
    refine ex_iload 10 (pc' := 114) dX11_lots_112 rfl rfl ?_
    refine ex_ifle (tgt := 135) (pc' := 117) dX11_lots_114 (by decide) rfl (fun hc21 => ?_) (fun hc21 => ?_)
    · replace hf := if_t hc21 hf
      refine ex_iload 10 (pc' := 119) dX11_lots_117 rfl rfl ?_
      refine ex_iload 7 (pc' := 121) dX11_lots_119 rfl rfl ?_
      refine ex_iload 11 (pc' := 123) dX11_lots_121 rfl rfl ?_
      refine ex_ishr (pc' := 124) dX11_lots_123 rfl ?_
      refine ex_iconst (v := 1) (pc' := 125) dX11_lots_124 ic_1 rfl ?_
      refine ex_iand (pc' := 126) dX11_lots_125 rfl ?_
      refine ex_isub (pc' := 127) dX11_lots_126 rfl ?_
      refine ex_istore (lv' := [(11, .int (v11 - ((jshr v8 v12) &&& 1))), (0, .ref (gB G + 99)), (1, .int v1), (2, .int v2), (4, .int v4), (5, .int v5), (6, .int v6), (7, .int v7), (8, .int v8), (9, .int v9), (10, .int v10), (12, .int v12)]) (pc' := 129) dX11_lots_127 (Nat.le_of_ble_eq_true rfl) rfl rfl ?_
      refine ex_iincc (lv' := [(12, .int (v12 + 1)), (11, .int (v11 - ((jshr v8 v12) &&& 1))), (0, .ref (gB G + 99)), (1, .int v1), (2, .int v2), (4, .int v4), (5, .int v5), (6, .int v6), (7, .int v7), (8, .int v8), (9, .int v9), (10, .int v10)]) 11 (pc' := 132) dX11_lots_129 rfl ic_1 (Nat.le_of_ble_eq_true rfl) rfl rfl ?_
      refine ex_goto (tgt := 102) dX11_lots_132 (by decide) ?_
      exact ex_sub [2, 3, 4, 5, 6, 7, 8, 9, 10, 11, 1, 0] rfl (hC _ _ (Option.some.inj hf).symm)
    · replace hf := if_f hc21 hf
      exact ex_sub [0, 1, 2, 3, 4, 5, 6, 7, 8, 9, 11] rfl (hX _ (Option.some.inj hf).symm)
def f_X11_lots_l102 (N : Nat) (v1 : Int32) (v2 : Int32) (v4 : Int32) (v5 : Int32) (v6 : Int32) (v7 : Int32) (v8 : Int32) (v9 : Int32) (v10 : Int32) (v11 : Int32) (v12 : Int32) : Option (Int32) := loopN (fun s => f_X11_lots_b102 N v1 v2 v4 v5 v6 v7 v8 v9 v10 s.1 s.2) N (v11, v12)
set_option maxRecDepth 100000 in
set_option maxHeartbeats 4000000 in
theorem k_X11_lots_l102 {G : GX} {Q : State → Prop} {X : MX} (hO : shX11 X) {v1 : Int32} {v2 : Int32} {v4 : Int32} {v5 : Int32} {v6 : Int32} {v7 : Int32} {v8 : Int32} {v9 : Int32} {v10 : Int32}  {N0 : Nat} {I : MI} {L : ML} {out : (Int32)} (hX : ∀ (w12 : Int32), out = w12 → Ex G mX11_lots rmX11_lots Q (0, 0) X I L 135 [(0, .ref (gB G + 99)), (1, .int v1), (2, .int v2), (4, .int v4), (5, .int v5), (6, .int v6), (7, .int v7), (8, .int v8), (9, .int v9), (10, .int v10), (12, .int w12)] []) : ∀ (N : Nat) (v11 : Int32) (v12 : Int32), loopN (fun s => f_X11_lots_b102 N0 v1 v2 v4 v5 v6 v7 v8 v9 v10 s.1 s.2) N (v11, v12) = some out → Ex G mX11_lots rmX11_lots Q (0, 0) X I L 102 [(0, .ref (gB G + 99)), (1, .int v1), (2, .int v2), (4, .int v4), (5, .int v5), (6, .int v6), (7, .int v7), (8, .int v8), (9, .int v9), (10, .int v10), (11, .int v11), (12, .int v12)] [] := by
  intro N
  induction N with
  | zero => intro v11 v12 hf; exact absurd (loopN_zero hf) id
  | succ n ih =>
    intro v11 v12 hf
    rcases loopN_succ hf with ⟨s, hb, hl⟩ | hb
    · obtain ⟨v11', v12'⟩ := s
      refine k_X11_lots_b102 hO  hb (fun _ _ he => ?_) (fun _ he => by cases he)
      cases he
      exact ih v11' v12' hl
    · exact k_X11_lots_b102 hO  hb (fun _ _ he => by cases he) (fun x0 he => hX x0 (Sum.inr.inj he))
def f_X11_lots_b73 (N : Nat) (v1 : Int32) (v2 : Int32) (v4 : Int32) (v5 : Int32) (v6 : Int32) (v7 : Int32) (v8 : Int32) (v9 : Int32) (v10 : Int32) (I : MI) : Option ((Int32 × Int32 × Int32 × MI) ⊕ (Int32 × MI)) := if inb v1 6 then (if v10 < (I 103 (Int32.toNatClampNeg v1)) then if inb v1 6 then bnd2 (f_X11_draw ((I 103 (Int32.toNatClampNeg v1)) - v10) I) fun r17 I18 => bnd1 (f_X11_lots_l102 N v1 v2 v4 v5 v6 v7 v8 v9 v10 r17 0) fun x22 => bnd1 (f_X11_has v1 v10 x22 I18) fun r24 => (if r24 = 0 then some (.inl (v8 &&& ((jshl 1 x22) ^^^ (-1)), v9 + 0, v10 + 1, I18)) else some (.inl (v8 &&& ((jshl 1 x22) ^^^ (-1)), v9 + 1, v10 + 1, I18))) else none else some (.inr (v9, I))) else none
set_option maxRecDepth 100000 in
set_option maxHeartbeats 4000000 in
theorem k_X11_lots_b73 {G : GX} {Q : State → Prop} {X : MX} (hO : shX11 X) {v1 : Int32} {v2 : Int32} {v4 : Int32} {v5 : Int32} {v6 : Int32} {v7 : Int32}  {v8 : Int32} {v9 : Int32} {v10 : Int32} {N : Nat} {I : MI} {L : ML} {out : (Int32 × Int32 × Int32 × MI) ⊕ (Int32 × MI)} (hf : f_X11_lots_b73 N v1 v2 v4 v5 v6 v7 v8 v9 v10 I = some out) (hC : ∀ (v8' : Int32) (v9' : Int32) (v10' : Int32) (I' : MI), out = .inl (v8', v9', v10', I') → Ex G mX11_lots rmX11_lots Q (0, 0) X I' L 73 [(0, .ref (gB G + 99)), (1, .int v1), (2, .int v2), (4, .int v4), (5, .int v5), (6, .int v6), (7, .int v7), (8, .int v8'), (9, .int v9'), (10, .int v10')] []) (hX : ∀ (w9 : Int32) (I' : MI), out = .inr (w9, I') → Ex G mX11_lots rmX11_lots Q (0, 0) X I' L 174 [(0, .ref (gB G + 99)), (1, .int v1), (2, .int v2), (4, .int v4), (5, .int v5), (6, .int v6), (7, .int v7), (9, .int w9)] []) : Ex G mX11_lots rmX11_lots Q (0, 0) X I L 73 [(0, .ref (gB G + 99)), (1, .int v1), (2, .int v2), (4, .int v4), (5, .int v5), (6, .int v6), (7, .int v7), (8, .int v8), (9, .int v9), (10, .int v10)] [] := by
  unfold f_X11_lots_b73 at hf
  refine ex_iload 9 (pc' := 75) dX11_lots_73 rfl rfl ?_
  refine ex_aload_n 0 (pc' := 76) dX11_lots_75 rfl rfl rfl ?_
  refine ex_getR (pc' := 79) dX11_lots_76 fl_X11_22 rfl (sh11_k hO) (sh11_F3 hO) rfl ?_
  refine ex_iload_n 1 (pc' := 80) dX11_lots_79 rfl rfl rfl ?_
  obtain ⟨hg14, hf⟩ := of_guard hf
  refine ex_iald (pc' := 81) dX11_lots_80 (sh11_T3 hO) (inb_in hg14) rfl ?_
  refine ex_icmpge (tgt := 174) (pc' := 84) dX11_lots_81 (by decide) rfl (fun hc15 => ?_) (fun hc15 => ?_)
  · replace hf := if_t hc15 hf
    refine ex_aload_n 0 (pc' := 85) dX11_lots_84 rfl rfl rfl ?_
    refine ex_aload_n 0 (pc' := 86) dX11_lots_85 rfl rfl rfl ?_
    refine ex_getR (pc' := 89) dX11_lots_86 fl_X11_22 rfl (sh11_k hO) (sh11_F3 hO) rfl ?_
    refine ex_iload_n 1 (pc' := 90) dX11_lots_89 rfl rfl rfl ?_
    obtain ⟨hg16, hf⟩ := of_guard hf
    refine ex_iald (pc' := 91) dX11_lots_90 (sh11_T3 hO) (inb_in hg16) rfl ?_
    refine ex_iload 9 (pc' := 93) dX11_lots_91 rfl rfl ?_
    refine ex_isub (pc' := 94) dX11_lots_93 rfl ?_
    obtain ⟨r17, I18, hq19, hf⟩ := of_bnd2 hf
    refine ex_callV_i (rm' := rmX11_draw) (st := []) (pc' := 97) [.int ((I 103 (Int32.toNatClampNeg v1)) - v10)] dX11_lots_94 cl_X11_292 (k_X11_draw G hO hq19) rfl (sh11_k hO) ⟨_, _, rfl⟩ rfl rfl (ROOM_of rfl) (Nat.le_of_ble_eq_true rfl) rfl rfl ?_
    refine ex_istore (lv' := [(11, .int r17), (0, .ref (gB G + 99)), (1, .int v1), (2, .int v2), (4, .int v4), (5, .int v5), (6, .int v6), (7, .int v7), (8, .int v8), (9, .int v9), (10, .int v10)]) (pc' := 99) dX11_lots_97 (Nat.le_of_ble_eq_true rfl) rfl rfl ?_
    refine ex_iconst (v := 0) (pc' := 100) dX11_lots_99 ic_0 rfl ?_
    refine ex_istore (lv' := [(12, .int 0), (11, .int r17), (0, .ref (gB G + 99)), (1, .int v1), (2, .int v2), (4, .int v4), (5, .int v5), (6, .int v6), (7, .int v7), (8, .int v8), (9, .int v9), (10, .int v10)]) (pc' := 102) dX11_lots_100 (Nat.le_of_ble_eq_true rfl) rfl rfl ?_
    refine ex_sub (lv' := [(0, .ref (gB G + 99)), (1, .int v1), (2, .int v2), (4, .int v4), (5, .int v5), (6, .int v6), (7, .int v7), (8, .int v8), (9, .int v9), (10, .int v10), (11, .int r17), (12, .int 0)]) [2, 3, 4, 5, 6, 7, 8, 9, 10, 11, 1, 0] rfl ?_
    obtain ⟨x22, hq23, hf⟩ := of_bnd1 hf
    refine k_X11_lots_l102 hO (fun x22' he => ?_) _ _ _ hq23
    cases he
    refine ex_iload 7 (pc' := 137) dX11_lots_135 rfl rfl ?_
    refine ex_iconst (v := 1) (pc' := 138) dX11_lots_137 ic_1 rfl ?_
    refine ex_iload 10 (pc' := 140) dX11_lots_138 rfl rfl ?_
    refine ex_ishl (pc' := 141) dX11_lots_140 rfl ?_
    refine ex_iconst (v := (-1)) (pc' := 142) dX11_lots_141 ic_m1 rfl ?_
    refine ex_ixor (pc' := 143) dX11_lots_142 rfl ?_
    refine ex_iand (pc' := 144) dX11_lots_143 rfl ?_
    refine ex_istore (lv' := [(8, .int (v8 &&& ((jshl 1 x22) ^^^ (-1)))), (0, .ref (gB G + 99)), (1, .int v1), (2, .int v2), (4, .int v4), (5, .int v5), (6, .int v6), (7, .int v7), (9, .int v9), (10, .int v10), (12, .int x22)]) (pc' := 146) dX11_lots_144 (Nat.le_of_ble_eq_true rfl) rfl rfl ?_
    refine ex_iload 8 (pc' := 148) dX11_lots_146 rfl rfl ?_
    refine ex_aload_n 1 (pc' := 149) dX11_lots_148 rfl rfl rfl ?_
    refine ex_iload_n 2 (pc' := 150) dX11_lots_149 rfl rfl rfl ?_
    refine ex_iload 9 (pc' := 152) dX11_lots_150 rfl rfl ?_
    refine ex_iload 10 (pc' := 154) dX11_lots_152 rfl rfl ?_
    obtain ⟨r24, hq25, hf⟩ := of_bnd1 hf
    refine ex_callV_i (rm' := rmX11_has) (st := [.int v9]) (pc' := 157) [.int v1, .int v10, .int x22] dX11_lots_154 cl_X11_189 (k_X11_has G hO hq25) rfl (sh11_k hO) ⟨_, _, rfl⟩ rfl rfl (ROOM_of rfl) (Nat.le_of_ble_eq_true rfl) rfl rfl ?_
    refine ex_ifeq (tgt := 164) (pc' := 160) dX11_lots_157 (by decide) rfl (fun hc26 => ?_) (fun hc26 => ?_)
    · replace hf := if_t hc26 hf
      refine ex_iconst (v := 0) (pc' := 165) dX11_lots_164 ic_0 rfl ?_
      refine ex_iadd (pc' := 166) dX11_lots_165 rfl ?_
      refine ex_istore (lv' := [(9, .int (v9 + 0)), (8, .int (v8 &&& ((jshl 1 x22) ^^^ (-1)))), (0, .ref (gB G + 99)), (1, .int v1), (2, .int v2), (4, .int v4), (5, .int v5), (6, .int v6), (7, .int v7), (10, .int v10), (12, .int x22)]) (pc' := 168) dX11_lots_166 (Nat.le_of_ble_eq_true rfl) rfl rfl ?_
      refine ex_iincc (lv' := [(10, .int (v10 + 1)), (9, .int (v9 + 0)), (8, .int (v8 &&& ((jshl 1 x22) ^^^ (-1)))), (0, .ref (gB G + 99)), (1, .int v1), (2, .int v2), (4, .int v4), (5, .int v5), (6, .int v6), (7, .int v7), (12, .int x22)]) 9 (pc' := 171) dX11_lots_168 rfl ic_1 (Nat.le_of_ble_eq_true rfl) rfl rfl ?_
      refine ex_goto (tgt := 73) dX11_lots_171 (by decide) ?_
      exact ex_sub [3, 4, 5, 6, 7, 8, 9, 2, 1, 0] rfl (hC _ _ _ _ (Option.some.inj hf).symm)
    · replace hf := if_f hc26 hf
      refine ex_iconst (v := 1) (pc' := 161) dX11_lots_160 ic_1 rfl ?_
      refine ex_goto (tgt := 165) dX11_lots_161 (by decide) ?_
      refine ex_iadd (pc' := 166) dX11_lots_165 rfl ?_
      refine ex_istore (lv' := [(9, .int (v9 + 1)), (8, .int (v8 &&& ((jshl 1 x22) ^^^ (-1)))), (0, .ref (gB G + 99)), (1, .int v1), (2, .int v2), (4, .int v4), (5, .int v5), (6, .int v6), (7, .int v7), (10, .int v10), (12, .int x22)]) (pc' := 168) dX11_lots_166 (Nat.le_of_ble_eq_true rfl) rfl rfl ?_
      refine ex_iincc (lv' := [(10, .int (v10 + 1)), (9, .int (v9 + 1)), (8, .int (v8 &&& ((jshl 1 x22) ^^^ (-1)))), (0, .ref (gB G + 99)), (1, .int v1), (2, .int v2), (4, .int v4), (5, .int v5), (6, .int v6), (7, .int v7), (12, .int x22)]) 9 (pc' := 171) dX11_lots_168 rfl ic_1 (Nat.le_of_ble_eq_true rfl) rfl rfl ?_
      refine ex_goto (tgt := 73) dX11_lots_171 (by decide) ?_
      exact ex_sub [3, 4, 5, 6, 7, 8, 9, 2, 1, 0] rfl (hC _ _ _ _ (Option.some.inj hf).symm)
  · replace hf := if_f hc15 hf
    exact ex_sub [0, 1, 2, 3, 4, 5, 6, 8] rfl (hX _ _ (Option.some.inj hf).symm)
def f_X11_lots_l73 (N : Nat) (v1 : Int32) (v2 : Int32) (v4 : Int32) (v5 : Int32) (v6 : Int32) (v7 : Int32) (v8 : Int32) (v9 : Int32) (v10 : Int32) (I : MI) : Option (Int32 × MI) := loopN (fun s => f_X11_lots_b73 N v1 v2 v4 v5 v6 v7 s.1 s.2.1 s.2.2.1 s.2.2.2) N (v8, v9, v10, I)
set_option maxRecDepth 100000 in
set_option maxHeartbeats 4000000 in
theorem k_X11_lots_l73 {G : GX} {Q : State → Prop} {X : MX} (hO : shX11 X) {v1 : Int32} {v2 : Int32} {v4 : Int32} {v5 : Int32} {v6 : Int32} {v7 : Int32}  {N0 : Nat} {L : ML} {out : (Int32 × MI)} (hX : ∀ (w9 : Int32) (I' : MI), out = (w9, I') → Ex G mX11_lots rmX11_lots Q (0, 0) X I' L 174 [(0, .ref (gB G + 99)), (1, .int v1), (2, .int v2), (4, .int v4), (5, .int v5), (6, .int v6), (7, .int v7), (9, .int w9)] []) : ∀ (N : Nat) (v8 : Int32) (v9 : Int32) (v10 : Int32) (I : MI), loopN (fun s => f_X11_lots_b73 N0 v1 v2 v4 v5 v6 v7 s.1 s.2.1 s.2.2.1 s.2.2.2) N (v8, v9, v10, I) = some out → Ex G mX11_lots rmX11_lots Q (0, 0) X I L 73 [(0, .ref (gB G + 99)), (1, .int v1), (2, .int v2), (4, .int v4), (5, .int v5), (6, .int v6), (7, .int v7), (8, .int v8), (9, .int v9), (10, .int v10)] [] := by
  intro N
  induction N with
  | zero => intro v8 v9 v10 I hf; exact absurd (loopN_zero hf) id
  | succ n ih =>
    intro v8 v9 v10 I hf
    rcases loopN_succ hf with ⟨s, hb, hl⟩ | hb
    · obtain ⟨v8', v9', v10', I'⟩ := s
      refine k_X11_lots_b73 hO  hb (fun _ _ _ _ he => ?_) (fun _ _ he => by cases he)
      cases he
      exact ih v8' v9' v10' I' hl
    · exact k_X11_lots_b73 hO  hb (fun _ _ _ _ he => by cases he) (fun x0 x1 he => hX x0 x1 (Sum.inr.inj he))
def f_X11_lots_b49 (N : Nat) (v1 : Int32) (v2 : Int32) (v4 : Int32) (v5 : Int32) (v6 : Int32) (v7 : Int32) (I : MI) : Option ((Int32 × Int32 × Int32 × MI) ⊕ (Int32 × Int32 × MI)) := (if v7 < v2 then if inb v1 6 then letv ((jshl 1 (I 103 (Int32.toNatClampNeg v1))) - 1) fun x13 => bnd2 (f_X11_lots_l73 N v1 v2 v4 v5 v6 v7 x13 0 0 I) fun x27 I28 => (if x27 = 0 then some (.inl (v5 + 1, v6 + x27, v7 + 1, I28)) else some (.inl (v5 + 0, v6 + x27, v7 + 1, I28))) else none else some (.inr (v5, v6, I)))
set_option maxRecDepth 100000 in
set_option maxHeartbeats 4000000 in
theorem k_X11_lots_b49 {G : GX} {Q : State → Prop} {X : MX} (hO : shX11 X) {v1 : Int32} {v2 : Int32} {v4 : Int32}  {v5 : Int32} {v6 : Int32} {v7 : Int32} {N : Nat} {I : MI} {L : ML} {out : (Int32 × Int32 × Int32 × MI) ⊕ (Int32 × Int32 × MI)} (hf : f_X11_lots_b49 N v1 v2 v4 v5 v6 v7 I = some out) (hC : ∀ (v5' : Int32) (v6' : Int32) (v7' : Int32) (I' : MI), out = .inl (v5', v6', v7', I') → Ex G mX11_lots rmX11_lots Q (0, 0) X I' L 49 [(0, .ref (gB G + 99)), (1, .int v1), (2, .int v2), (4, .int v4), (5, .int v5'), (6, .int v6'), (7, .int v7')] []) (hX : ∀ (w5 : Int32) (w6 : Int32) (I' : MI), out = .inr (w5, w6, I') → Ex G mX11_lots rmX11_lots Q (0, 0) X I' L 202 [(4, .int v4), (5, .int w5), (6, .int w6)] []) : Ex G mX11_lots rmX11_lots Q (0, 0) X I L 49 [(0, .ref (gB G + 99)), (1, .int v1), (2, .int v2), (4, .int v4), (5, .int v5), (6, .int v6), (7, .int v7)] [] := by
  unfold f_X11_lots_b49 at hf
  refine ex_iload 6 (pc' := 51) dX11_lots_49 rfl rfl ?_
  refine ex_iload_n 2 (pc' := 52) dX11_lots_51 rfl rfl rfl ?_
  refine ex_icmpge (tgt := 202) (pc' := 55) dX11_lots_52 (by decide) rfl (fun hc11 => ?_) (fun hc11 => ?_)
  · replace hf := if_t hc11 hf
    refine ex_iconst (v := 1) (pc' := 56) dX11_lots_55 ic_1 rfl ?_
    refine ex_aload_n 0 (pc' := 57) dX11_lots_56 rfl rfl rfl ?_
    refine ex_getR (pc' := 60) dX11_lots_57 fl_X11_22 rfl (sh11_k hO) (sh11_F3 hO) rfl ?_
    refine ex_iload_n 1 (pc' := 61) dX11_lots_60 rfl rfl rfl ?_
    obtain ⟨hg12, hf⟩ := of_guard hf
    refine ex_iald (pc' := 62) dX11_lots_61 (sh11_T3 hO) (inb_in hg12) rfl ?_
    refine ex_ishl (pc' := 63) dX11_lots_62 rfl ?_
    refine ex_iconst (v := 1) (pc' := 64) dX11_lots_63 ic_1 rfl ?_
    refine ex_isub (pc' := 65) dX11_lots_64 rfl ?_
    obtain ⟨x13, hx13, hf⟩ := of_let hf
    rw [← hx13]
    refine ex_istore (lv' := [(8, .int x13), (0, .ref (gB G + 99)), (1, .int v1), (2, .int v2), (4, .int v4), (5, .int v5), (6, .int v6), (7, .int v7)]) (pc' := 67) dX11_lots_65 (Nat.le_of_ble_eq_true rfl) rfl rfl ?_
    refine ex_iconst (v := 0) (pc' := 68) dX11_lots_67 ic_0 rfl ?_
    refine ex_istore (lv' := [(9, .int 0), (8, .int x13), (0, .ref (gB G + 99)), (1, .int v1), (2, .int v2), (4, .int v4), (5, .int v5), (6, .int v6), (7, .int v7)]) (pc' := 70) dX11_lots_68 (Nat.le_of_ble_eq_true rfl) rfl rfl ?_
    refine ex_iconst (v := 0) (pc' := 71) dX11_lots_70 ic_0 rfl ?_
    refine ex_istore (lv' := [(10, .int 0), (9, .int 0), (8, .int x13), (0, .ref (gB G + 99)), (1, .int v1), (2, .int v2), (4, .int v4), (5, .int v5), (6, .int v6), (7, .int v7)]) (pc' := 73) dX11_lots_71 (Nat.le_of_ble_eq_true rfl) rfl rfl ?_
    refine ex_sub (lv' := [(0, .ref (gB G + 99)), (1, .int v1), (2, .int v2), (4, .int v4), (5, .int v5), (6, .int v6), (7, .int v7), (8, .int x13), (9, .int 0), (10, .int 0)]) [3, 4, 5, 6, 7, 8, 9, 2, 1, 0] rfl ?_
    obtain ⟨x27, I28, hq29, hf⟩ := of_bnd2 hf
    refine k_X11_lots_l73 hO (fun x27' I28' he => ?_) _ _ _ _ _ hq29
    cases he
    refine ex_iload 4 (pc' := 176) dX11_lots_174 rfl rfl ?_
    refine ex_iload 7 (pc' := 178) dX11_lots_176 rfl rfl ?_
    refine ex_ifne (tgt := 185) (pc' := 181) dX11_lots_178 (by decide) rfl (fun hc30 => ?_) (fun hc30 => ?_)
    · replace hf := if_t hc30 hf
      refine ex_iconst (v := 1) (pc' := 182) dX11_lots_181 ic_1 rfl ?_
      refine ex_goto (tgt := 186) dX11_lots_182 (by decide) ?_
      refine ex_iadd (pc' := 187) dX11_lots_186 rfl ?_
      refine ex_istore (lv' := [(5, .int (v5 + 1)), (0, .ref (gB G + 99)), (1, .int v1), (2, .int v2), (4, .int v4), (6, .int v6), (7, .int v7), (9, .int x27)]) (pc' := 189) dX11_lots_187 (Nat.le_of_ble_eq_true rfl) rfl rfl ?_
      refine ex_iload 5 (pc' := 191) dX11_lots_189 rfl rfl ?_
      refine ex_iload 7 (pc' := 193) dX11_lots_191 rfl rfl ?_
      refine ex_iadd (pc' := 194) dX11_lots_193 rfl ?_
      refine ex_istore (lv' := [(6, .int (v6 + x27)), (5, .int (v5 + 1)), (0, .ref (gB G + 99)), (1, .int v1), (2, .int v2), (4, .int v4), (7, .int v7), (9, .int x27)]) (pc' := 196) dX11_lots_194 (Nat.le_of_ble_eq_true rfl) rfl rfl ?_
      refine ex_iincc (lv' := [(7, .int (v7 + 1)), (6, .int (v6 + x27)), (5, .int (v5 + 1)), (0, .ref (gB G + 99)), (1, .int v1), (2, .int v2), (4, .int v4), (9, .int x27)]) 6 (pc' := 199) dX11_lots_196 rfl ic_1 (Nat.le_of_ble_eq_true rfl) rfl rfl ?_
      refine ex_goto (tgt := 49) dX11_lots_199 (by decide) ?_
      exact ex_sub [3, 4, 5, 6, 2, 1, 0] rfl (hC _ _ _ _ (Option.some.inj hf).symm)
    · replace hf := if_f hc30 hf
      refine ex_iconst (v := 0) (pc' := 186) dX11_lots_185 ic_0 rfl ?_
      refine ex_iadd (pc' := 187) dX11_lots_186 rfl ?_
      refine ex_istore (lv' := [(5, .int (v5 + 0)), (0, .ref (gB G + 99)), (1, .int v1), (2, .int v2), (4, .int v4), (6, .int v6), (7, .int v7), (9, .int x27)]) (pc' := 189) dX11_lots_187 (Nat.le_of_ble_eq_true rfl) rfl rfl ?_
      refine ex_iload 5 (pc' := 191) dX11_lots_189 rfl rfl ?_
      refine ex_iload 7 (pc' := 193) dX11_lots_191 rfl rfl ?_
      refine ex_iadd (pc' := 194) dX11_lots_193 rfl ?_
      refine ex_istore (lv' := [(6, .int (v6 + x27)), (5, .int (v5 + 0)), (0, .ref (gB G + 99)), (1, .int v1), (2, .int v2), (4, .int v4), (7, .int v7), (9, .int x27)]) (pc' := 196) dX11_lots_194 (Nat.le_of_ble_eq_true rfl) rfl rfl ?_
      refine ex_iincc (lv' := [(7, .int (v7 + 1)), (6, .int (v6 + x27)), (5, .int (v5 + 0)), (0, .ref (gB G + 99)), (1, .int v1), (2, .int v2), (4, .int v4), (9, .int x27)]) 6 (pc' := 199) dX11_lots_196 rfl ic_1 (Nat.le_of_ble_eq_true rfl) rfl rfl ?_
      refine ex_goto (tgt := 49) dX11_lots_199 (by decide) ?_
      exact ex_sub [3, 4, 5, 6, 2, 1, 0] rfl (hC _ _ _ _ (Option.some.inj hf).symm)
  · replace hf := if_f hc11 hf
    exact ex_sub [3, 4, 5] rfl (hX _ _ _ (Option.some.inj hf).symm)
def f_X11_lots_l49 (N : Nat) (v1 : Int32) (v2 : Int32) (v4 : Int32) (v5 : Int32) (v6 : Int32) (v7 : Int32) (I : MI) : Option (Int32 × Int32 × MI) := loopN (fun s => f_X11_lots_b49 N v1 v2 v4 s.1 s.2.1 s.2.2.1 s.2.2.2) N (v5, v6, v7, I)
set_option maxRecDepth 100000 in
set_option maxHeartbeats 4000000 in
theorem k_X11_lots_l49 {G : GX} {Q : State → Prop} {X : MX} (hO : shX11 X) {v1 : Int32} {v2 : Int32} {v4 : Int32}  {N0 : Nat} {L : ML} {out : (Int32 × Int32 × MI)} (hX : ∀ (w5 : Int32) (w6 : Int32) (I' : MI), out = (w5, w6, I') → Ex G mX11_lots rmX11_lots Q (0, 0) X I' L 202 [(4, .int v4), (5, .int w5), (6, .int w6)] []) : ∀ (N : Nat) (v5 : Int32) (v6 : Int32) (v7 : Int32) (I : MI), loopN (fun s => f_X11_lots_b49 N0 v1 v2 v4 s.1 s.2.1 s.2.2.1 s.2.2.2) N (v5, v6, v7, I) = some out → Ex G mX11_lots rmX11_lots Q (0, 0) X I L 49 [(0, .ref (gB G + 99)), (1, .int v1), (2, .int v2), (4, .int v4), (5, .int v5), (6, .int v6), (7, .int v7)] [] := by
  intro N
  induction N with
  | zero => intro v5 v6 v7 I hf; exact absurd (loopN_zero hf) id
  | succ n ih =>
    intro v5 v6 v7 I hf
    rcases loopN_succ hf with ⟨s, hb, hl⟩ | hb
    · obtain ⟨v5', v6', v7', I'⟩ := s
      refine k_X11_lots_b49 hO  hb (fun _ _ _ _ he => ?_) (fun _ _ _ he => by cases he)
      cases he
      exact ih v5' v6' v7' I' hl
    · exact k_X11_lots_b49 hO  hb (fun _ _ _ _ he => by cases he) (fun x0 x1 x2 he => hX x0 x1 x2 (Sum.inr.inj he))
def f_X11_lots (N : Nat) (v1 : Int32) (v2 : Int32) (v3 : Int32) (v4 : Int32) (I : MI) : Option (Int32 × MI) := bnd1 (f_X11_isSix v1) fun r1 => (if r1 = 0 then some ((-1), I) else bnd1 (f_X11_in (Int32.toInt64 v4) 0 1) fun r4 => (if r4 = 0 then some ((-1), I) else bnd1 (f_X11_in (Int32.toInt64 v2) 1 40) fun r7 => (if r7 = 0 then some ((-2), I) else letv (upI I 99 47 v3) fun I10 => bnd3 (f_X11_lots_l49 N v1 v2 v4 0 0 0 I10) fun x31 x32 I33 => (if v4 = 0 then some (x31, I33) else some (x32, I33)))))
set_option maxRecDepth 100000 in
set_option maxHeartbeats 4000000 in
theorem kb_X11_lots {G : GX} {Q : State → Prop} {X : MX} (hO : shX11 X) {v1 : Int32} {v2 : Int32} {v3 : Int32} {v4 : Int32}  {N : Nat} {I : MI} {L : ML} {out : Int32 × MI} (hf : f_X11_lots N v1 v2 v3 v4 I = some out) (hR : ∀ (z : Int32) (I' : MI), out = (z, I') → Q = RetQ G (some (.int z)) X I' L (0, 0)) : Ex G mX11_lots rmX11_lots Q (0, 0) X I L 0 [(0, .ref (gB G + 99)), (1, .int v1), (2, .int v2), (3, .int v3), (4, .int v4)] [] := by
  unfold f_X11_lots at hf
  refine ex_iload_n 1 (pc' := 1) dX11_lots_0 rfl rfl rfl ?_
  obtain ⟨r1, hq2, hf⟩ := of_bnd1 hf
  refine ex_callS_i (rm' := rmX11_isSix) (st := []) (pc' := 4) [.int v1] dX11_lots_1 cl_X11_133 (k_X11_isSix G hq2) rfl rfl rfl (ROOM_of rfl) (Nat.le_of_ble_eq_true rfl) rfl rfl ?_
  refine ex_ifeq (tgt := 18) (pc' := 7) dX11_lots_4 (by decide) rfl (fun hc3 => ?_) (fun hc3 => ?_)
  · replace hf := if_t hc3 hf
    refine ex_iconst (v := (-1)) (pc' := 19) dX11_lots_18 ic_m1 rfl ?_
    exact ex_iret dX11_lots_19 rfl (hR _ _ (Option.some.inj hf).symm)
  · replace hf := if_f hc3 hf
    refine ex_iload 4 (pc' := 9) dX11_lots_7 rfl rfl ?_
    refine ex_i2l (pc' := 10) dX11_lots_9 rfl ?_
    refine ex_lconst (v := 0) (pc' := 11) dX11_lots_10 lc_0 rfl ?_
    refine ex_lconst (v := 1) (pc' := 12) dX11_lots_11 lc_1 rfl ?_
    obtain ⟨r4, hq5, hf⟩ := of_bnd1 hf
    refine ex_callS_i (rm' := rmX11_in) (st := []) (pc' := 15) [.long (Int32.toInt64 v4), .long 0, .long 1] dX11_lots_12 cl_X11_129 (k_X11_in G hq5) rfl rfl rfl (ROOM_of rfl) (Nat.le_of_ble_eq_true rfl) rfl rfl ?_
    refine ex_ifne (tgt := 20) (pc' := 18) dX11_lots_15 (by decide) rfl (fun hc6 => ?_) (fun hc6 => ?_)
    · replace hf := if_t hc6 hf
      refine ex_iconst (v := (-1)) (pc' := 19) dX11_lots_18 ic_m1 rfl ?_
      exact ex_iret dX11_lots_19 rfl (hR _ _ (Option.some.inj hf).symm)
    · replace hf := if_f hc6 hf
      refine ex_iload_n 2 (pc' := 21) dX11_lots_20 rfl rfl rfl ?_
      refine ex_i2l (pc' := 22) dX11_lots_21 rfl ?_
      refine ex_lconst (v := 1) (pc' := 23) dX11_lots_22 lc_1 rfl ?_
      refine ex_ldc2 (v := 40) (pc' := 26) dX11_lots_23 co_X11_290 rfl ?_
      obtain ⟨r7, hq8, hf⟩ := of_bnd1 hf
      refine ex_callS_i (rm' := rmX11_in) (st := []) (pc' := 29) [.long (Int32.toInt64 v2), .long 1, .long 40] dX11_lots_26 cl_X11_129 (k_X11_in G hq8) rfl rfl rfl (ROOM_of rfl) (Nat.le_of_ble_eq_true rfl) rfl rfl ?_
      refine ex_ifne (tgt := 35) (pc' := 32) dX11_lots_29 (by decide) rfl (fun hc9 => ?_) (fun hc9 => ?_)
      · replace hf := if_t hc9 hf
        refine ex_bipush (v := (-2)) (pc' := 34) dX11_lots_32 bp_m2 rfl ?_
        exact ex_iret dX11_lots_34 rfl (hR _ _ (Option.some.inj hf).symm)
      · replace hf := if_f hc9 hf
        refine ex_aload_n 0 (pc' := 36) dX11_lots_35 rfl rfl rfl ?_
        refine ex_iload_n 3 (pc' := 37) dX11_lots_36 rfl rfl rfl ?_
        refine ex_putI (pc' := 40) dX11_lots_37 fl_X11_284 rfl (sh11_k hO) rfl ?_
        obtain ⟨I10, hI10, hf⟩ := of_let hf
        rw [← hI10]
        refine ex_iconst (v := 0) (pc' := 41) dX11_lots_40 ic_0 rfl ?_
        refine ex_istore (lv' := [(5, .int 0), (0, .ref (gB G + 99)), (1, .int v1), (2, .int v2), (3, .int v3), (4, .int v4)]) (pc' := 43) dX11_lots_41 (Nat.le_of_ble_eq_true rfl) rfl rfl ?_
        refine ex_iconst (v := 0) (pc' := 44) dX11_lots_43 ic_0 rfl ?_
        refine ex_istore (lv' := [(6, .int 0), (5, .int 0), (0, .ref (gB G + 99)), (1, .int v1), (2, .int v2), (3, .int v3), (4, .int v4)]) (pc' := 46) dX11_lots_44 (Nat.le_of_ble_eq_true rfl) rfl rfl ?_
        refine ex_iconst (v := 0) (pc' := 47) dX11_lots_46 ic_0 rfl ?_
        refine ex_istore (lv' := [(7, .int 0), (6, .int 0), (5, .int 0), (0, .ref (gB G + 99)), (1, .int v1), (2, .int v2), (3, .int v3), (4, .int v4)]) (pc' := 49) dX11_lots_47 (Nat.le_of_ble_eq_true rfl) rfl rfl ?_
        refine ex_sub (lv' := [(0, .ref (gB G + 99)), (1, .int v1), (2, .int v2), (4, .int v4), (5, .int 0), (6, .int 0), (7, .int 0)]) [3, 4, 5, 7, 2, 1, 0] rfl ?_
        obtain ⟨x31, x32, I33, hq34, hf⟩ := of_bnd3 hf
        refine k_X11_lots_l49 hO (fun x31' x32' I33' he => ?_) _ _ _ _ _ hq34
        cases he
        refine ex_iload 0 (pc' := 204) dX11_lots_202 rfl rfl ?_
        refine ex_ifne (tgt := 212) (pc' := 207) dX11_lots_204 (by decide) rfl (fun hc35 => ?_) (fun hc35 => ?_)
        · replace hf := if_t hc35 hf
          refine ex_iload 1 (pc' := 209) dX11_lots_207 rfl rfl ?_
          refine ex_goto (tgt := 214) dX11_lots_209 (by decide) ?_
          exact ex_iret dX11_lots_214 rfl (hR _ _ (Option.some.inj hf).symm)
        · replace hf := if_f hc35 hf
          refine ex_iload 2 (pc' := 214) dX11_lots_212 rfl rfl ?_
          exact ex_iret dX11_lots_214 rfl (hR _ _ (Option.some.inj hf).symm)
set_option maxRecDepth 100000 in
set_option maxHeartbeats 4000000 in
theorem k_X11_lots (G : GX) {X : MX} (hO : shX11 X) {v1 : Int32} {v2 : Int32} {v3 : Int32} {v4 : Int32}  {N : Nat} {I : MI} {L : ML} {z : Int32} {I' : MI} (hf : f_X11_lots N v1 v2 v3 v4 I = some (z, I')) : Con G mX11_lots yX11_lots rmX11_lots (fun B => [.ref (B + 99), .int v1, .int v2, .int v3, .int v4]) X I L (some (.int z)) X I' L :=
  Con.of (by decide) rfl (fun h => by cases h) (fun B => Nat.le_of_ble_eq_true rfl) (fun G => kb_X11_lots hO  hf (fun _ _ he => by cases he; rfl))
