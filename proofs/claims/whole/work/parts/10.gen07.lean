-- X11_make ('RookWordsModel', 'make', '(III)I')
def rmX11_make : RM := ((2, 45, 0, 0), false, (some FieldType.int))
def f_X11_make_j58 (N : Nat) (v1 : Int32) (v2 : Int32) (v3 : Int32) (s0 : Int32) (s1 : Int32) (I : MI) : Option (Int32 × MI) := bnd1 (f_X11_comes N s1 s0 v3 I) fun I14 => (if v2 = 0 then bnd1 (f_X11_comes N v1 1 v3 I14) fun I17 => if inb v1 6 then some (I17 100 (Int32.toNatClampNeg v1), I17) else none else bnd1 (f_X11_comes N v1 0 v3 I14) fun I20 => if inb v1 6 then some (I20 100 (Int32.toNatClampNeg v1), I20) else none)
set_option maxRecDepth 100000 in
set_option maxHeartbeats 4000000 in
theorem k_X11_make_j58 {G : GX} {Q : State → Prop} {X : MX} (hO : shX11 X) {v1 : Int32} {v2 : Int32} {v3 : Int32} {s0 : Int32} {s1 : Int32}  {N : Nat} {I : MI} {L : ML} {out : Int32 × MI} (hf : f_X11_make_j58 N v1 v2 v3 s0 s1 I = some out) (hR : ∀ (z : Int32) (I' : MI), out = (z, I') → Q = RetQ G (some (.int z)) X I' L (0, 0)) : Ex G mX11_make rmX11_make Q (0, 0) X I L 58 [(0, .ref (gB G + 99)), (1, .int v1), (2, .int v2), (3, .int v3)] [.int s0, .int s1, .ref (gB G + 99)] := by
  unfold f_X11_make_j58 at hf
  refine ex_iload_n 3 (pc' := 59) dX11_make_58 rfl rfl rfl ?_
  obtain ⟨I14, hq15, hf⟩ := of_bnd1 hf
  refine ex_callV_v (rm' := rmX11_comes) (st := []) (pc' := 62) [.int s1, .int s0, .int v3] dX11_make_59 cl_X11_139 (k_X11_comes G hO hq15) rfl (sh11_k hO) ⟨_, _, rfl⟩ rfl rfl (ROOM_of rfl) (Nat.le_of_ble_eq_true rfl) rfl rfl ?_
  refine ex_aload_n 0 (pc' := 63) dX11_make_62 rfl rfl rfl ?_
  refine ex_iload_n 1 (pc' := 64) dX11_make_63 rfl rfl rfl ?_
  refine ex_iload_n 2 (pc' := 65) dX11_make_64 rfl rfl rfl ?_
  refine ex_ifne (tgt := 72) (pc' := 68) dX11_make_65 (by decide) rfl (fun hc16 => ?_) (fun hc16 => ?_)
  · replace hf := if_t hc16 hf
    refine ex_iconst (v := 1) (pc' := 69) dX11_make_68 ic_1 rfl ?_
    refine ex_goto (tgt := 73) dX11_make_69 (by decide) ?_
    refine ex_iload_n 3 (pc' := 74) dX11_make_73 rfl rfl rfl ?_
    obtain ⟨I17, hq18, hf⟩ := of_bnd1 hf
    refine ex_callV_v (rm' := rmX11_comes) (st := []) (pc' := 77) [.int v1, .int 1, .int v3] dX11_make_74 cl_X11_139 (k_X11_comes G hO hq18) rfl (sh11_k hO) ⟨_, _, rfl⟩ rfl rfl (ROOM_of rfl) (Nat.le_of_ble_eq_true rfl) rfl rfl ?_
    refine ex_goto (tgt := 196) dX11_make_77 (by decide) ?_
    refine ex_aload_n 0 (pc' := 197) dX11_make_196 rfl rfl rfl ?_
    refine ex_getR (pc' := 200) dX11_make_197 fl_X11_9 rfl (sh11_k hO) (sh11_F0 hO) rfl ?_
    refine ex_iload_n 1 (pc' := 201) dX11_make_200 rfl rfl rfl ?_
    obtain ⟨hg19, hf⟩ := of_guard hf
    refine ex_iald (pc' := 202) dX11_make_201 (sh11_T0 hO) (inb_in hg19) rfl ?_
    exact ex_iret dX11_make_202 rfl (hR _ _ (Option.some.inj hf).symm)
  · replace hf := if_f hc16 hf
    refine ex_iconst (v := 0) (pc' := 73) dX11_make_72 ic_0 rfl ?_
    refine ex_iload_n 3 (pc' := 74) dX11_make_73 rfl rfl rfl ?_
    obtain ⟨I20, hq21, hf⟩ := of_bnd1 hf
    refine ex_callV_v (rm' := rmX11_comes) (st := []) (pc' := 77) [.int v1, .int 0, .int v3] dX11_make_74 cl_X11_139 (k_X11_comes G hO hq21) rfl (sh11_k hO) ⟨_, _, rfl⟩ rfl rfl (ROOM_of rfl) (Nat.le_of_ble_eq_true rfl) rfl rfl ?_
    refine ex_goto (tgt := 196) dX11_make_77 (by decide) ?_
    refine ex_aload_n 0 (pc' := 197) dX11_make_196 rfl rfl rfl ?_
    refine ex_getR (pc' := 200) dX11_make_197 fl_X11_9 rfl (sh11_k hO) (sh11_F0 hO) rfl ?_
    refine ex_iload_n 1 (pc' := 201) dX11_make_200 rfl rfl rfl ?_
    obtain ⟨hg22, hf⟩ := of_guard hf
    refine ex_iald (pc' := 202) dX11_make_201 (sh11_T0 hO) (inb_in hg22) rfl ?_
    exact ex_iret dX11_make_202 rfl (hR _ _ (Option.some.inj hf).symm)
def f_X11_make_j47 (N : Nat) (v1 : Int32) (v2 : Int32) (v3 : Int32) (I : MI) : Option (Int32 × MI) := (if v2 = 0 then f_X11_make_j58 N v1 v2 v3 0 v1 I else f_X11_make_j58 N v1 v2 v3 1 v1 I)
set_option maxRecDepth 100000 in
set_option maxHeartbeats 4000000 in
theorem k_X11_make_j47 {G : GX} {Q : State → Prop} {X : MX} (hO : shX11 X) {v1 : Int32} {v2 : Int32} {v3 : Int32}  {N : Nat} {I : MI} {L : ML} {out : Int32 × MI} (hf : f_X11_make_j47 N v1 v2 v3 I = some out) (hR : ∀ (z : Int32) (I' : MI), out = (z, I') → Q = RetQ G (some (.int z)) X I' L (0, 0)) : Ex G mX11_make rmX11_make Q (0, 0) X I L 47 [(0, .ref (gB G + 99)), (1, .int v1), (2, .int v2), (3, .int v3)] [] := by
  unfold f_X11_make_j47 at hf
  refine ex_aload_n 0 (pc' := 48) dX11_make_47 rfl rfl rfl ?_
  refine ex_iload_n 1 (pc' := 49) dX11_make_48 rfl rfl rfl ?_
  refine ex_iload_n 2 (pc' := 50) dX11_make_49 rfl rfl rfl ?_
  refine ex_ifne (tgt := 57) (pc' := 53) dX11_make_50 (by decide) rfl (fun hc13 => ?_) (fun hc13 => ?_)
  · replace hf := if_t hc13 hf
    refine ex_iconst (v := 0) (pc' := 54) dX11_make_53 ic_0 rfl ?_
    refine ex_goto (tgt := 58) dX11_make_54 (by decide) ?_
    refine ex_sub [0, 1, 2, 3] rfl (k_X11_make_j58 hO  hf hR)
  · replace hf := if_f hc13 hf
    refine ex_iconst (v := 1) (pc' := 58) dX11_make_57 ic_1 rfl ?_
    refine ex_sub [0, 1, 2, 3] rfl (k_X11_make_j58 hO  hf hR)
def f_X11_make_b88 (N : Nat) (v1 : Int32) (v2 : Int32) (v3 : Int32) (v4 : Int32) (I : MI) : Option ((Int32 × MI) ⊕ (MI)) := (if v4 < v3 then bnd1 (f_X11_comes N v1 (v2 - 1) 1 I) fun I26 => bnd1 (f_X11_comes N v1 (2 - v2) 1 I26) fun I28 => some (.inl (v4 + 1, I28)) else some (.inr I))
set_option maxRecDepth 100000 in
set_option maxHeartbeats 4000000 in
theorem k_X11_make_b88 {G : GX} {Q : State → Prop} {X : MX} (hO : shX11 X) {v1 : Int32} {v2 : Int32} {v3 : Int32}  {v4 : Int32} {N : Nat} {I : MI} {L : ML} {out : (Int32 × MI) ⊕ (MI)} (hf : f_X11_make_b88 N v1 v2 v3 v4 I = some out) (hC : ∀ (v4' : Int32) (I' : MI), out = .inl (v4', I') → Ex G mX11_make rmX11_make Q (0, 0) X I' L 88 [(0, .ref (gB G + 99)), (1, .int v1), (2, .int v2), (3, .int v3), (4, .int v4')] []) (hX : ∀ (I' : MI), out = .inr I' → Ex G mX11_make rmX11_make Q (0, 0) X I' L 118 [(0, .ref (gB G + 99)), (1, .int v1)] []) : Ex G mX11_make rmX11_make Q (0, 0) X I L 88 [(0, .ref (gB G + 99)), (1, .int v1), (2, .int v2), (3, .int v3), (4, .int v4)] [] := by
  unfold f_X11_make_b88 at hf
  refine ex_iload 4 (pc' := 90) dX11_make_88 rfl rfl ?_
  refine ex_iload_n 3 (pc' := 91) dX11_make_90 rfl rfl rfl ?_
  refine ex_icmpge (tgt := 118) (pc' := 94) dX11_make_91 (by decide) rfl (fun hc25 => ?_) (fun hc25 => ?_)
  · replace hf := if_t hc25 hf
    refine ex_aload_n 0 (pc' := 95) dX11_make_94 rfl rfl rfl ?_
    refine ex_iload_n 1 (pc' := 96) dX11_make_95 rfl rfl rfl ?_
    refine ex_iload_n 2 (pc' := 97) dX11_make_96 rfl rfl rfl ?_
    refine ex_iconst (v := 1) (pc' := 98) dX11_make_97 ic_1 rfl ?_
    refine ex_isub (pc' := 99) dX11_make_98 rfl ?_
    refine ex_iconst (v := 1) (pc' := 100) dX11_make_99 ic_1 rfl ?_
    obtain ⟨I26, hq27, hf⟩ := of_bnd1 hf
    refine ex_callV_v (rm' := rmX11_comes) (st := []) (pc' := 103) [.int v1, .int (v2 - 1), .int 1] dX11_make_100 cl_X11_139 (k_X11_comes G hO hq27) rfl (sh11_k hO) ⟨_, _, rfl⟩ rfl rfl (ROOM_of rfl) (Nat.le_of_ble_eq_true rfl) rfl rfl ?_
    refine ex_aload_n 0 (pc' := 104) dX11_make_103 rfl rfl rfl ?_
    refine ex_iload_n 1 (pc' := 105) dX11_make_104 rfl rfl rfl ?_
    refine ex_iconst (v := 2) (pc' := 106) dX11_make_105 ic_2 rfl ?_
    refine ex_iload_n 2 (pc' := 107) dX11_make_106 rfl rfl rfl ?_
    refine ex_isub (pc' := 108) dX11_make_107 rfl ?_
    refine ex_iconst (v := 1) (pc' := 109) dX11_make_108 ic_1 rfl ?_
    obtain ⟨I28, hq29, hf⟩ := of_bnd1 hf
    refine ex_callV_v (rm' := rmX11_comes) (st := []) (pc' := 112) [.int v1, .int (2 - v2), .int 1] dX11_make_109 cl_X11_139 (k_X11_comes G hO hq29) rfl (sh11_k hO) ⟨_, _, rfl⟩ rfl rfl (ROOM_of rfl) (Nat.le_of_ble_eq_true rfl) rfl rfl ?_
    refine ex_iincc (lv' := [(4, .int (v4 + 1)), (0, .ref (gB G + 99)), (1, .int v1), (2, .int v2), (3, .int v3)]) 4 (pc' := 115) dX11_make_112 rfl ic_1 (Nat.le_of_ble_eq_true rfl) rfl rfl ?_
    refine ex_goto (tgt := 88) dX11_make_115 (by decide) ?_
    exact ex_sub [1, 2, 3, 4, 0] rfl (hC _ _ (Option.some.inj hf).symm)
  · replace hf := if_f hc25 hf
    exact ex_sub [0, 1] rfl (hX _ (Option.some.inj hf).symm)
def f_X11_make_l88 (N : Nat) (v1 : Int32) (v2 : Int32) (v3 : Int32) (v4 : Int32) (I : MI) : Option (MI) := loopN (fun s => f_X11_make_b88 N v1 v2 v3 s.1 s.2) N (v4, I)
set_option maxRecDepth 100000 in
set_option maxHeartbeats 4000000 in
theorem k_X11_make_l88 {G : GX} {Q : State → Prop} {X : MX} (hO : shX11 X) {v1 : Int32} {v2 : Int32} {v3 : Int32}  {N0 : Nat} {L : ML} {out : (MI)} (hX : ∀ (I' : MI), out = I' → Ex G mX11_make rmX11_make Q (0, 0) X I' L 118 [(0, .ref (gB G + 99)), (1, .int v1)] []) : ∀ (N : Nat) (v4 : Int32) (I : MI), loopN (fun s => f_X11_make_b88 N0 v1 v2 v3 s.1 s.2) N (v4, I) = some out → Ex G mX11_make rmX11_make Q (0, 0) X I L 88 [(0, .ref (gB G + 99)), (1, .int v1), (2, .int v2), (3, .int v3), (4, .int v4)] [] := by
  intro N
  induction N with
  | zero => intro v4 I hf; exact absurd (loopN_zero hf) id
  | succ n ih =>
    intro v4 I hf
    rcases loopN_succ hf with ⟨s, hb, hl⟩ | hb
    · obtain ⟨v4', I'⟩ := s
      refine k_X11_make_b88 hO  hb (fun _ _ he => ?_) (fun _ he => by cases he)
      cases he
      exact ih v4' I' hl
    · exact k_X11_make_b88 hO  hb (fun _ _ he => by cases he) (fun x0 he => hX x0 (Sum.inr.inj he))
def f_X11_make_b153 (N : Nat) (v1 : Int32) (v3 : Int32) (v4 : Int32) (I : MI) : Option ((Int32 × MI) ⊕ (MI)) := (if v3 < v4 then some (.inr I) else if inb v1 6 then (if 12 < (((I 100 (Int32.toNatClampNeg v1)) + v4) + 1) then some (.inr I) else bnd1 (f_X11_comes N v1 1 v4 I) fun I44 => bnd1 (f_X11_comes N v1 0 1 I44) fun I46 => some (.inl (v4 + 1, I46))) else none)
set_option maxRecDepth 100000 in
set_option maxHeartbeats 4000000 in
theorem k_X11_make_b153 {G : GX} {Q : State → Prop} {X : MX} (hO : shX11 X) {v1 : Int32} {v3 : Int32}  {v4 : Int32} {N : Nat} {I : MI} {L : ML} {out : (Int32 × MI) ⊕ (MI)} (hf : f_X11_make_b153 N v1 v3 v4 I = some out) (hC : ∀ (v4' : Int32) (I' : MI), out = .inl (v4', I') → Ex G mX11_make rmX11_make Q (0, 0) X I' L 153 [(0, .ref (gB G + 99)), (1, .int v1), (3, .int v3), (4, .int v4')] []) (hX : ∀ (I' : MI), out = .inr I' → Ex G mX11_make rmX11_make Q (0, 0) X I' L 196 [(0, .ref (gB G + 99)), (1, .int v1)] []) : Ex G mX11_make rmX11_make Q (0, 0) X I L 153 [(0, .ref (gB G + 99)), (1, .int v1), (3, .int v3), (4, .int v4)] [] := by
  unfold f_X11_make_b153 at hf
  refine ex_iload 3 (pc' := 155) dX11_make_153 rfl rfl ?_
  refine ex_iload_n 2 (pc' := 156) dX11_make_155 rfl rfl rfl ?_
  refine ex_icmpgt (tgt := 196) (pc' := 159) dX11_make_156 (by decide) rfl (fun hc41 => ?_) (fun hc41 => ?_)
  · replace hf := if_t hc41 hf
    exact ex_sub [0, 1] rfl (hX _ (Option.some.inj hf).symm)
  · replace hf := if_f hc41 hf
    refine ex_aload_n 0 (pc' := 160) dX11_make_159 rfl rfl rfl ?_
    refine ex_getR (pc' := 163) dX11_make_160 fl_X11_9 rfl (sh11_k hO) (sh11_F0 hO) rfl ?_
    refine ex_iload_n 1 (pc' := 164) dX11_make_163 rfl rfl rfl ?_
    obtain ⟨hg42, hf⟩ := of_guard hf
    refine ex_iald (pc' := 165) dX11_make_164 (sh11_T0 hO) (inb_in hg42) rfl ?_
    refine ex_iload 3 (pc' := 167) dX11_make_165 rfl rfl ?_
    refine ex_iadd (pc' := 168) dX11_make_167 rfl ?_
    refine ex_iconst (v := 1) (pc' := 169) dX11_make_168 ic_1 rfl ?_
    refine ex_iadd (pc' := 170) dX11_make_169 rfl ?_
    refine ex_bipush (v := 12) (pc' := 172) dX11_make_170 bp_12 rfl ?_
    refine ex_icmpgt (tgt := 196) (pc' := 175) dX11_make_172 (by decide) rfl (fun hc43 => ?_) (fun hc43 => ?_)
    · replace hf := if_t hc43 hf
      exact ex_sub [0, 1] rfl (hX _ (Option.some.inj hf).symm)
    · replace hf := if_f hc43 hf
      refine ex_aload_n 0 (pc' := 176) dX11_make_175 rfl rfl rfl ?_
      refine ex_iload_n 1 (pc' := 177) dX11_make_176 rfl rfl rfl ?_
      refine ex_iconst (v := 1) (pc' := 178) dX11_make_177 ic_1 rfl ?_
      refine ex_iload 3 (pc' := 180) dX11_make_178 rfl rfl ?_
      obtain ⟨I44, hq45, hf⟩ := of_bnd1 hf
      refine ex_callV_v (rm' := rmX11_comes) (st := []) (pc' := 183) [.int v1, .int 1, .int v4] dX11_make_180 cl_X11_139 (k_X11_comes G hO hq45) rfl (sh11_k hO) ⟨_, _, rfl⟩ rfl rfl (ROOM_of rfl) (Nat.le_of_ble_eq_true rfl) rfl rfl ?_
      refine ex_aload_n 0 (pc' := 184) dX11_make_183 rfl rfl rfl ?_
      refine ex_iload_n 1 (pc' := 185) dX11_make_184 rfl rfl rfl ?_
      refine ex_iconst (v := 0) (pc' := 186) dX11_make_185 ic_0 rfl ?_
      refine ex_iconst (v := 1) (pc' := 187) dX11_make_186 ic_1 rfl ?_
      obtain ⟨I46, hq47, hf⟩ := of_bnd1 hf
      refine ex_callV_v (rm' := rmX11_comes) (st := []) (pc' := 190) [.int v1, .int 0, .int 1] dX11_make_187 cl_X11_139 (k_X11_comes G hO hq47) rfl (sh11_k hO) ⟨_, _, rfl⟩ rfl rfl (ROOM_of rfl) (Nat.le_of_ble_eq_true rfl) rfl rfl ?_
      refine ex_iincc (lv' := [(4, .int (v4 + 1)), (0, .ref (gB G + 99)), (1, .int v1), (3, .int v3)]) 3 (pc' := 193) dX11_make_190 rfl ic_1 (Nat.le_of_ble_eq_true rfl) rfl rfl ?_
      refine ex_goto (tgt := 153) dX11_make_193 (by decide) ?_
      exact ex_sub [1, 2, 3, 0] rfl (hC _ _ (Option.some.inj hf).symm)
def f_X11_make_l153 (N : Nat) (v1 : Int32) (v3 : Int32) (v4 : Int32) (I : MI) : Option (MI) := loopN (fun s => f_X11_make_b153 N v1 v3 s.1 s.2) N (v4, I)
set_option maxRecDepth 100000 in
set_option maxHeartbeats 4000000 in
theorem k_X11_make_l153 {G : GX} {Q : State → Prop} {X : MX} (hO : shX11 X) {v1 : Int32} {v3 : Int32}  {N0 : Nat} {L : ML} {out : (MI)} (hX : ∀ (I' : MI), out = I' → Ex G mX11_make rmX11_make Q (0, 0) X I' L 196 [(0, .ref (gB G + 99)), (1, .int v1)] []) : ∀ (N : Nat) (v4 : Int32) (I : MI), loopN (fun s => f_X11_make_b153 N0 v1 v3 s.1 s.2) N (v4, I) = some out → Ex G mX11_make rmX11_make Q (0, 0) X I L 153 [(0, .ref (gB G + 99)), (1, .int v1), (3, .int v3), (4, .int v4)] [] := by
  intro N
  induction N with
  | zero => intro v4 I hf; exact absurd (loopN_zero hf) id
  | succ n ih =>
    intro v4 I hf
    rcases loopN_succ hf with ⟨s, hb, hl⟩ | hb
    · obtain ⟨v4', I'⟩ := s
      refine k_X11_make_b153 hO  hb (fun _ _ he => ?_) (fun _ he => by cases he)
      cases he
      exact ih v4' I' hl
    · exact k_X11_make_b153 hO  hb (fun _ _ he => by cases he) (fun x0 he => hX x0 (Sum.inr.inj he))
def f_X11_make (N : Nat) (v1 : Int32) (v2 : Int32) (v3 : Int32) (I : MI) : Option (Int32 × MI) := bnd1 (f_X11_isSix v1) fun r1 => (if r1 = 0 then some ((-1), I) else bnd1 (f_X11_isSix v2) fun r4 => (if r4 = 0 then some ((-1), I) else bnd1 (f_X11_in (Int32.toInt64 v3) 0 6) fun r7 => (if r7 = 0 then some ((-2), I) else if inb v1 6 then letv (upI I 100 (Int32.toNatClampNeg v1) 0) fun I11 => (if v2 = 0 then f_X11_make_j47 N v1 v2 v3 I11 else (if v2 = 3 then f_X11_make_j47 N v1 v2 v3 I11 else (if v2 < 3 then bnd1 (f_X11_make_l88 N v1 v2 v3 0 I11) fun I30 => if inb v1 6 then some (I30 100 (Int32.toNatClampNeg v1), I30) else none else (if v2 = 4 then bnd1 (f_X11_comes N v1 0 1 I11) fun I34 => bnd1 (f_X11_comes N v1 1 v3 I34) fun I36 => bnd1 (f_X11_comes N v1 0 1 I36) fun I38 => if inb v1 6 then some (I38 100 (Int32.toNatClampNeg v1), I38) else none else bnd1 (f_X11_make_l153 N v1 v3 1 I11) fun I48 => if inb v1 6 then some (I48 100 (Int32.toNatClampNeg v1), I48) else none)))) else none)))
set_option maxRecDepth 100000 in
set_option maxHeartbeats 4000000 in
theorem kb_X11_make {G : GX} {Q : State → Prop} {X : MX} (hO : shX11 X) {v1 : Int32} {v2 : Int32} {v3 : Int32}  {N : Nat} {I : MI} {L : ML} {out : Int32 × MI} (hf : f_X11_make N v1 v2 v3 I = some out) (hR : ∀ (z : Int32) (I' : MI), out = (z, I') → Q = RetQ G (some (.int z)) X I' L (0, 0)) : Ex G mX11_make rmX11_make Q (0, 0) X I L 0 [(0, .ref (gB G + 99)), (1, .int v1), (2, .int v2), (3, .int v3)] [] := by
  unfold f_X11_make at hf
  refine ex_iload_n 1 (pc' := 1) dX11_make_0 rfl rfl rfl ?_
  obtain ⟨r1, hq2, hf⟩ := of_bnd1 hf
  refine ex_callS_i (rm' := rmX11_isSix) (st := []) (pc' := 4) [.int v1] dX11_make_1 cl_X11_133 (k_X11_isSix G hq2) rfl rfl rfl (ROOM_of rfl) (Nat.le_of_ble_eq_true rfl) rfl rfl ?_
  refine ex_ifeq (tgt := 14) (pc' := 7) dX11_make_4 (by decide) rfl (fun hc3 => ?_) (fun hc3 => ?_)
  · replace hf := if_t hc3 hf
    refine ex_iconst (v := (-1)) (pc' := 15) dX11_make_14 ic_m1 rfl ?_
    exact ex_iret dX11_make_15 rfl (hR _ _ (Option.some.inj hf).symm)
  · replace hf := if_f hc3 hf
    refine ex_iload_n 2 (pc' := 8) dX11_make_7 rfl rfl rfl ?_
    obtain ⟨r4, hq5, hf⟩ := of_bnd1 hf
    refine ex_callS_i (rm' := rmX11_isSix) (st := []) (pc' := 11) [.int v2] dX11_make_8 cl_X11_133 (k_X11_isSix G hq5) rfl rfl rfl (ROOM_of rfl) (Nat.le_of_ble_eq_true rfl) rfl rfl ?_
    refine ex_ifne (tgt := 16) (pc' := 14) dX11_make_11 (by decide) rfl (fun hc6 => ?_) (fun hc6 => ?_)
    · replace hf := if_t hc6 hf
      refine ex_iconst (v := (-1)) (pc' := 15) dX11_make_14 ic_m1 rfl ?_
      exact ex_iret dX11_make_15 rfl (hR _ _ (Option.some.inj hf).symm)
    · replace hf := if_f hc6 hf
      refine ex_iload_n 3 (pc' := 17) dX11_make_16 rfl rfl rfl ?_
      refine ex_i2l (pc' := 18) dX11_make_17 rfl ?_
      refine ex_lconst (v := 0) (pc' := 19) dX11_make_18 lc_0 rfl ?_
      refine ex_ldc2 (v := 6) (pc' := 22) dX11_make_19 co_X11_137 rfl ?_
      obtain ⟨r7, hq8, hf⟩ := of_bnd1 hf
      refine ex_callS_i (rm' := rmX11_in) (st := []) (pc' := 25) [.long (Int32.toInt64 v3), .long 0, .long 6] dX11_make_22 cl_X11_129 (k_X11_in G hq8) rfl rfl rfl (ROOM_of rfl) (Nat.le_of_ble_eq_true rfl) rfl rfl ?_
      refine ex_ifne (tgt := 31) (pc' := 28) dX11_make_25 (by decide) rfl (fun hc9 => ?_) (fun hc9 => ?_)
      · replace hf := if_t hc9 hf
        refine ex_bipush (v := (-2)) (pc' := 30) dX11_make_28 bp_m2 rfl ?_
        exact ex_iret dX11_make_30 rfl (hR _ _ (Option.some.inj hf).symm)
      · replace hf := if_f hc9 hf
        refine ex_aload_n 0 (pc' := 32) dX11_make_31 rfl rfl rfl ?_
        refine ex_getR (pc' := 35) dX11_make_32 fl_X11_9 rfl (sh11_k hO) (sh11_F0 hO) rfl ?_
        refine ex_iload_n 1 (pc' := 36) dX11_make_35 rfl rfl rfl ?_
        refine ex_iconst (v := 0) (pc' := 37) dX11_make_36 ic_0 rfl ?_
        obtain ⟨hg10, hf⟩ := of_guard hf
        refine ex_iast (pc' := 38) dX11_make_37 (sh11_T0 hO) (inb_in hg10) rfl ?_
        obtain ⟨I11, hI11, hf⟩ := of_let hf
        rw [← hI11]
        refine ex_iload_n 2 (pc' := 39) dX11_make_38 rfl rfl rfl ?_
        refine ex_ifeq (tgt := 47) (pc' := 42) dX11_make_39 (by decide) rfl (fun hc12 => ?_) (fun hc12 => ?_)
        · replace hf := if_t hc12 hf
          refine ex_sub [0, 1, 2, 3] rfl (k_X11_make_j47 hO  hf hR)
        · replace hf := if_f hc12 hf
          refine ex_iload_n 2 (pc' := 43) dX11_make_42 rfl rfl rfl ?_
          refine ex_iconst (v := 3) (pc' := 44) dX11_make_43 ic_3 rfl ?_
          refine ex_icmpne (tgt := 80) (pc' := 47) dX11_make_44 (by decide) rfl (fun hc23 => ?_) (fun hc23 => ?_)
          · replace hf := if_t hc23 hf
            refine ex_sub [0, 1, 2, 3] rfl (k_X11_make_j47 hO  hf hR)
          · replace hf := if_f hc23 hf
            refine ex_iload_n 2 (pc' := 81) dX11_make_80 rfl rfl rfl ?_
            refine ex_iconst (v := 3) (pc' := 82) dX11_make_81 ic_3 rfl ?_
            refine ex_icmpge (tgt := 121) (pc' := 85) dX11_make_82 (by decide) rfl (fun hc24 => ?_) (fun hc24 => ?_)
            · replace hf := if_t hc24 hf
              refine ex_iconst (v := 0) (pc' := 86) dX11_make_85 ic_0 rfl ?_
              refine ex_istore (lv' := [(4, .int 0), (0, .ref (gB G + 99)), (1, .int v1), (2, .int v2), (3, .int v3)]) (pc' := 88) dX11_make_86 (Nat.le_of_ble_eq_true rfl) rfl rfl ?_
              refine ex_sub (lv' := [(0, .ref (gB G + 99)), (1, .int v1), (2, .int v2), (3, .int v3), (4, .int 0)]) [1, 2, 3, 4, 0] rfl ?_
              obtain ⟨I30, hq31, hf⟩ := of_bnd1 hf
              refine k_X11_make_l88 hO (fun I30' he => ?_) _ _ _ hq31
              cases he
              refine ex_goto (tgt := 196) dX11_make_118 (by decide) ?_
              refine ex_aload_n 0 (pc' := 197) dX11_make_196 rfl rfl rfl ?_
              refine ex_getR (pc' := 200) dX11_make_197 fl_X11_9 rfl (sh11_k hO) (sh11_F0 hO) rfl ?_
              refine ex_iload_n 1 (pc' := 201) dX11_make_200 rfl rfl rfl ?_
              obtain ⟨hg32, hf⟩ := of_guard hf
              refine ex_iald (pc' := 202) dX11_make_201 (sh11_T0 hO) (inb_in hg32) rfl ?_
              exact ex_iret dX11_make_202 rfl (hR _ _ (Option.some.inj hf).symm)
            · replace hf := if_f hc24 hf
              refine ex_iload_n 2 (pc' := 122) dX11_make_121 rfl rfl rfl ?_
              refine ex_iconst (v := 4) (pc' := 123) dX11_make_122 ic_4 rfl ?_
              refine ex_icmpne (tgt := 150) (pc' := 126) dX11_make_123 (by decide) rfl (fun hc33 => ?_) (fun hc33 => ?_)
              · replace hf := if_t hc33 hf
                refine ex_aload_n 0 (pc' := 127) dX11_make_126 rfl rfl rfl ?_
                refine ex_iload_n 1 (pc' := 128) dX11_make_127 rfl rfl rfl ?_
                refine ex_iconst (v := 0) (pc' := 129) dX11_make_128 ic_0 rfl ?_
                refine ex_iconst (v := 1) (pc' := 130) dX11_make_129 ic_1 rfl ?_
                obtain ⟨I34, hq35, hf⟩ := of_bnd1 hf
                refine ex_callV_v (rm' := rmX11_comes) (st := []) (pc' := 133) [.int v1, .int 0, .int 1] dX11_make_130 cl_X11_139 (k_X11_comes G hO hq35) rfl (sh11_k hO) ⟨_, _, rfl⟩ rfl rfl (ROOM_of rfl) (Nat.le_of_ble_eq_true rfl) rfl rfl ?_
                refine ex_aload_n 0 (pc' := 134) dX11_make_133 rfl rfl rfl ?_
                refine ex_iload_n 1 (pc' := 135) dX11_make_134 rfl rfl rfl ?_
                refine ex_iconst (v := 1) (pc' := 136) dX11_make_135 ic_1 rfl ?_
                refine ex_iload_n 3 (pc' := 137) dX11_make_136 rfl rfl rfl ?_
                obtain ⟨I36, hq37, hf⟩ := of_bnd1 hf
                refine ex_callV_v (rm' := rmX11_comes) (st := []) (pc' := 140) [.int v1, .int 1, .int v3] dX11_make_137 cl_X11_139 (k_X11_comes G hO hq37) rfl (sh11_k hO) ⟨_, _, rfl⟩ rfl rfl (ROOM_of rfl) (Nat.le_of_ble_eq_true rfl) rfl rfl ?_
                refine ex_aload_n 0 (pc' := 141) dX11_make_140 rfl rfl rfl ?_
                refine ex_iload_n 1 (pc' := 142) dX11_make_141 rfl rfl rfl ?_
                refine ex_iconst (v := 0) (pc' := 143) dX11_make_142 ic_0 rfl ?_
                refine ex_iconst (v := 1) (pc' := 144) dX11_make_143 ic_1 rfl ?_
                obtain ⟨I38, hq39, hf⟩ := of_bnd1 hf
                refine ex_callV_v (rm' := rmX11_comes) (st := []) (pc' := 147) [.int v1, .int 0, .int 1] dX11_make_144 cl_X11_139 (k_X11_comes G hO hq39) rfl (sh11_k hO) ⟨_, _, rfl⟩ rfl rfl (ROOM_of rfl) (Nat.le_of_ble_eq_true rfl) rfl rfl ?_
                refine ex_goto (tgt := 196) dX11_make_147 (by decide) ?_
                refine ex_aload_n 0 (pc' := 197) dX11_make_196 rfl rfl rfl ?_
                refine ex_getR (pc' := 200) dX11_make_197 fl_X11_9 rfl (sh11_k hO) (sh11_F0 hO) rfl ?_
                refine ex_iload_n 1 (pc' := 201) dX11_make_200 rfl rfl rfl ?_
                obtain ⟨hg40, hf⟩ := of_guard hf
                refine ex_iald (pc' := 202) dX11_make_201 (sh11_T0 hO) (inb_in hg40) rfl ?_
                exact ex_iret dX11_make_202 rfl (hR _ _ (Option.some.inj hf).symm)
              · replace hf := if_f hc33 hf
                refine ex_iconst (v := 1) (pc' := 151) dX11_make_150 ic_1 rfl ?_
                refine ex_istore (lv' := [(4, .int 1), (0, .ref (gB G + 99)), (1, .int v1), (2, .int v2), (3, .int v3)]) (pc' := 153) dX11_make_151 (Nat.le_of_ble_eq_true rfl) rfl rfl ?_
                refine ex_sub (lv' := [(0, .ref (gB G + 99)), (1, .int v1), (3, .int v3), (4, .int 1)]) [1, 2, 4, 0] rfl ?_
                obtain ⟨I48, hq49, hf⟩ := of_bnd1 hf
                refine k_X11_make_l153 hO (fun I48' he => ?_) _ _ _ hq49
                cases he
                refine ex_aload_n 0 (pc' := 197) dX11_make_196 rfl rfl rfl ?_
                refine ex_getR (pc' := 200) dX11_make_197 fl_X11_9 rfl (sh11_k hO) (sh11_F0 hO) rfl ?_
                refine ex_iload_n 1 (pc' := 201) dX11_make_200 rfl rfl rfl ?_
                obtain ⟨hg50, hf⟩ := of_guard hf
                refine ex_iald (pc' := 202) dX11_make_201 (sh11_T0 hO) (inb_in hg50) rfl ?_
                exact ex_iret dX11_make_202 rfl (hR _ _ (Option.some.inj hf).symm)
set_option maxRecDepth 100000 in
set_option maxHeartbeats 4000000 in
theorem k_X11_make (G : GX) {X : MX} (hO : shX11 X) {v1 : Int32} {v2 : Int32} {v3 : Int32}  {N : Nat} {I : MI} {L : ML} {z : Int32} {I' : MI} (hf : f_X11_make N v1 v2 v3 I = some (z, I')) : Con G mX11_make yX11_make rmX11_make (fun B => [.ref (B + 99), .int v1, .int v2, .int v3]) X I L (some (.int z)) X I' L :=
  Con.of (by decide) rfl (fun h => by cases h) (fun B => Nat.le_of_ble_eq_true rfl) (fun G => kb_X11_make hO  hf (fun _ _ he => by cases he; rfl))
theorem cl_X11_272 : CLS RX11 272 yX11_common mX11_common (some FieldType.long) 2 := ⟨⟨lwg_at 1352 (by decide +kernel) rfl, lwg_at 1353 (by decide +kernel) rfl, lwg_at 61 (by decide +kernel) rfl⟩, lwg_at 1354 (by decide +kernel) rfl, ⟨by decide +kernel, by decide +kernel, by decide +kernel⟩⟩
-- X11_part ('RookWordsModel', 'part', '(JJI)J')
def rmX11_part : RM := ((1, 29, 0, 0), false, (some FieldType.long))
def f_X11_part (N : Nat) (v0 : Int64) (v2 : Int64) (v4 : Int32) : Option (Int64) := bnd1 (f_X11_common N v0 v2) fun r1 => (if v4 = 0 then if r1 = 0 then none else some (v0 / r1) else if r1 = 0 then none else some (v2 / r1))
set_option maxRecDepth 100000 in
set_option maxHeartbeats 4000000 in
theorem kb_X11_part {G : GX} {Q : State → Prop} {X : MX} {v0 : Int64} {v2 : Int64} {v4 : Int32}  {N : Nat} {I : MI} {L : ML} {out : Int64} (hf : f_X11_part N v0 v2 v4 = some out) (hR : ∀ (z : Int64), out = z → Q = RetQ G (some (.long z)) X I L (0, 0)) : Ex G mX11_part rmX11_part Q (0, 0) X I L 0 [(0, .long v0), (2, .long v2), (4, .int v4)] [] := by
  unfold f_X11_part at hf
  refine ex_lload_n 0 (pc' := 1) dX11_part_0 rfl rfl rfl ?_
  refine ex_lload_n 1 (pc' := 2) dX11_part_1 rfl rfl rfl ?_
  obtain ⟨r1, hq2, hf⟩ := of_bnd1 hf
  refine ex_callS_l (rm' := rmX11_common) (st := []) (pc' := 5) [.long v0, .long v2] dX11_part_2 cl_X11_272 (k_X11_common G hq2) rfl rfl rfl (ROOM_of rfl) (Nat.le_of_ble_eq_true rfl) rfl rfl ?_
  refine ex_lstore (lv' := [(5, .long r1), (0, .long v0), (2, .long v2), (4, .int v4)]) (pc' := 7) dX11_part_5 (Nat.le_of_ble_eq_true rfl) rfl rfl ?_
  refine ex_iload 3 (pc' := 9) dX11_part_7 rfl rfl ?_
  refine ex_ifne (tgt := 19) (pc' := 12) dX11_part_9 (by decide) rfl (fun hc3 => ?_) (fun hc3 => ?_)
  · replace hf := if_t hc3 hf
    refine ex_lload_n 1 (pc' := 13) dX11_part_12 rfl rfl rfl ?_
    refine ex_lload 0 (pc' := 15) dX11_part_13 rfl rfl ?_
    obtain ⟨hg4, hf⟩ := of_guardN hf
    refine ex_ldiv (pc' := 16) dX11_part_15 hg4 rfl ?_
    refine ex_goto (tgt := 23) dX11_part_16 (by decide) ?_
    exact ex_lret dX11_part_23 rfl (hR _ (Option.some.inj hf).symm)
  · replace hf := if_f hc3 hf
    refine ex_lload_n 2 (pc' := 20) dX11_part_19 rfl rfl rfl ?_
    refine ex_lload 0 (pc' := 22) dX11_part_20 rfl rfl ?_
    obtain ⟨hg5, hf⟩ := of_guardN hf
    refine ex_ldiv (pc' := 23) dX11_part_22 hg5 rfl ?_
    exact ex_lret dX11_part_23 rfl (hR _ (Option.some.inj hf).symm)
set_option maxRecDepth 100000 in
set_option maxHeartbeats 4000000 in
theorem k_X11_part (G : GX) {X : MX} {v0 : Int64} {v2 : Int64} {v4 : Int32}  {N : Nat} {I : MI} {L : ML} {z : Int64} (hf : f_X11_part N v0 v2 v4 = some z) : Con G mX11_part yX11_part rmX11_part (fun B => [.long v0, .long v2, .int v4]) X I L (some (.long z)) X I L :=
  Con.of (by decide) rfl (fun h => by cases h) (fun B => Nat.le_of_ble_eq_true rfl) (fun G => kb_X11_part  hf (fun _ he => by cases he; rfl))
theorem cl_X11_276 : CLS RX11 276 yX11_factor mX11_factor (some FieldType.long) 1 := ⟨⟨lwg_at 1346 (by decide +kernel) rfl, lwg_at 1347 (by decide +kernel) rfl, lwg_at 61 (by decide +kernel) rfl⟩, lwg_at 1348 (by decide +kernel) rfl, ⟨by decide +kernel, by decide +kernel, by decide +kernel⟩⟩
theorem cl_X11_280 : CLS RX11 280 yX11_part mX11_part (some FieldType.long) 3 := ⟨⟨lwg_at 1349 (by decide +kernel) rfl, lwg_at 1350 (by decide +kernel) rfl, lwg_at 61 (by decide +kernel) rfl⟩, lwg_at 1351 (by decide +kernel) rfl, ⟨by decide +kernel, by decide +kernel, by decide +kernel⟩⟩
-- X11_mean ('RookWordsModel', 'mean', '(II)J')
def rmX11_mean : RM := ((2, 55, 0, 0), false, (some FieldType.long))
def f_X11_mean_b31 (N : Nat) (v1 : Int32) (v2 : Int32) (v3 : Int64) (v5 : Int32) (I : MI) : Option ((Int64 × Int32) ⊕ (Int64)) := (if v5 < 7 then bnd1 (f_X11_hitsOf v1 v5 I) fun r10 => letv (v3 + ((Int32.toInt64 v5) * (Int32.toInt64 r10))) fun x12 => some (.inl (x12, v5 + 1)) else some (.inr v3))
set_option maxRecDepth 100000 in
set_option maxHeartbeats 4000000 in
theorem k_X11_mean_b31 {G : GX} {Q : State → Prop} {X : MX} (hO : shX11 X) {v1 : Int32} {v2 : Int32}  {v3 : Int64} {v5 : Int32} {N : Nat} {I : MI} {L : ML} {out : (Int64 × Int32) ⊕ (Int64)} (hf : f_X11_mean_b31 N v1 v2 v3 v5 I = some out) (hC : ∀ (v3' : Int64) (v5' : Int32), out = .inl (v3', v5') → Ex G mX11_mean rmX11_mean Q (0, 0) X I L 31 [(0, .ref (gB G + 99)), (1, .int v1), (2, .int v2), (3, .long v3'), (5, .int v5')] []) (hX : ∀ (w3 : Int64), out = .inr w3 → Ex G mX11_mean rmX11_mean Q (0, 0) X I L 59 [(0, .ref (gB G + 99)), (1, .int v1), (2, .int v2), (3, .long w3)] []) : Ex G mX11_mean rmX11_mean Q (0, 0) X I L 31 [(0, .ref (gB G + 99)), (1, .int v1), (2, .int v2), (3, .long v3), (5, .int v5)] [] := by
  unfold f_X11_mean_b31 at hf
  refine ex_iload 4 (pc' := 33) dX11_mean_31 rfl rfl ?_
  refine ex_bipush (v := 7) (pc' := 35) dX11_mean_33 bp_7 rfl ?_
  refine ex_icmpge (tgt := 59) (pc' := 38) dX11_mean_35 (by decide) rfl (fun hc9 => ?_) (fun hc9 => ?_)
  · replace hf := if_t hc9 hf
    refine ex_lload_n 3 (pc' := 39) dX11_mean_38 rfl rfl rfl ?_
    refine ex_iload 4 (pc' := 41) dX11_mean_39 rfl rfl ?_
    refine ex_i2l (pc' := 42) dX11_mean_41 rfl ?_
    refine ex_aload_n 0 (pc' := 43) dX11_mean_42 rfl rfl rfl ?_
    refine ex_iload_n 1 (pc' := 44) dX11_mean_43 rfl rfl rfl ?_
    refine ex_iload 4 (pc' := 46) dX11_mean_44 rfl rfl ?_
    obtain ⟨r10, hq11, hf⟩ := of_bnd1 hf
    refine ex_callV_i (rm' := rmX11_hitsOf) (st := [.long (Int32.toInt64 v5), .long v3]) (pc' := 49) [.int v1, .int v5] dX11_mean_46 cl_X11_199 (k_X11_hitsOf G hO hq11) rfl (sh11_k hO) ⟨_, _, rfl⟩ rfl rfl (ROOM_of rfl) (Nat.le_of_ble_eq_true rfl) rfl rfl ?_
    refine ex_i2l (pc' := 50) dX11_mean_49 rfl ?_
    refine ex_lmul (pc' := 51) dX11_mean_50 rfl ?_
    refine ex_ladd (pc' := 52) dX11_mean_51 rfl ?_
    obtain ⟨x12, hx12, hf⟩ := of_let hf
    rw [← hx12]
    refine ex_lstore_n (lv' := [(3, .long x12), (0, .ref (gB G + 99)), (1, .int v1), (2, .int v2), (5, .int v5)]) (pc' := 53) dX11_mean_52 rfl (Nat.le_of_ble_eq_true rfl) rfl rfl ?_
    refine ex_iincc (lv' := [(5, .int (v5 + 1)), (3, .long x12), (0, .ref (gB G + 99)), (1, .int v1), (2, .int v2)]) 4 (pc' := 56) dX11_mean_53 rfl ic_1 (Nat.le_of_ble_eq_true rfl) rfl rfl ?_
    refine ex_goto (tgt := 31) dX11_mean_56 (by decide) ?_
    exact ex_sub [2, 3, 4, 1, 0] rfl (hC _ _ (Option.some.inj hf).symm)
  · replace hf := if_f hc9 hf
    exact ex_sub [0, 1, 2, 3] rfl (hX _ (Option.some.inj hf).symm)
def f_X11_mean_l31 (N : Nat) (v1 : Int32) (v2 : Int32) (v3 : Int64) (v5 : Int32) (I : MI) : Option (Int64) := loopN (fun s => f_X11_mean_b31 N v1 v2 s.1 s.2 I) N (v3, v5)
set_option maxRecDepth 100000 in
set_option maxHeartbeats 4000000 in
theorem k_X11_mean_l31 {G : GX} {Q : State → Prop} {X : MX} (hO : shX11 X) {v1 : Int32} {v2 : Int32}  {N0 : Nat} {I : MI} {L : ML} {out : (Int64)} (hX : ∀ (w3 : Int64), out = w3 → Ex G mX11_mean rmX11_mean Q (0, 0) X I L 59 [(0, .ref (gB G + 99)), (1, .int v1), (2, .int v2), (3, .long w3)] []) : ∀ (N : Nat) (v3 : Int64) (v5 : Int32), loopN (fun s => f_X11_mean_b31 N0 v1 v2 s.1 s.2 I) N (v3, v5) = some out → Ex G mX11_mean rmX11_mean Q (0, 0) X I L 31 [(0, .ref (gB G + 99)), (1, .int v1), (2, .int v2), (3, .long v3), (5, .int v5)] [] := by
  intro N
  induction N with
  | zero => intro v3 v5 hf; exact absurd (loopN_zero hf) id
  | succ n ih =>
    intro v3 v5 hf
    rcases loopN_succ hf with ⟨s, hb, hl⟩ | hb
    · obtain ⟨v3', v5'⟩ := s
      refine k_X11_mean_b31 hO  hb (fun _ _ he => ?_) (fun _ he => by cases he)
      cases he
      exact ih v3' v5' hl
    · exact k_X11_mean_b31 hO  hb (fun _ _ he => by cases he) (fun x0 he => hX x0 (Sum.inr.inj he))
def f_X11_mean (N : Nat) (v1 : Int32) (v2 : Int32) (I : MI) : Option (Int64 × MI) := bnd1 (f_X11_isSix v1) fun r1 => (if r1 = 0 then some ((-9223372036854775808), I) else bnd1 (f_X11_in (Int32.toInt64 v2) 0 1) fun r4 => (if r4 = 0 then some ((-9223372036854775808), I) else bnd1 (f_X11_layHits N v1 I) fun I7 => bnd1 (f_X11_mean_l31 N v1 v2 0 0 I7) fun x13 => if inb v1 6 then bnd1 (f_X11_factor N (I7 103 (Int32.toNatClampNeg v1))) fun r16 => bnd1 (f_X11_part N x13 r16 v2) fun r18 => some (r18, I7) else none))
set_option maxRecDepth 100000 in
set_option maxHeartbeats 4000000 in
theorem kb_X11_mean {G : GX} {Q : State → Prop} {X : MX} (hO : shX11 X) {v1 : Int32} {v2 : Int32}  {N : Nat} {I : MI} {L : ML} {out : Int64 × MI} (hf : f_X11_mean N v1 v2 I = some out) (hR : ∀ (z : Int64) (I' : MI), out = (z, I') → Q = RetQ G (some (.long z)) X I' L (0, 0)) : Ex G mX11_mean rmX11_mean Q (0, 0) X I L 0 [(0, .ref (gB G + 99)), (1, .int v1), (2, .int v2)] [] := by
  unfold f_X11_mean at hf
  refine ex_iload_n 1 (pc' := 1) dX11_mean_0 rfl rfl rfl ?_
  obtain ⟨r1, hq2, hf⟩ := of_bnd1 hf
  refine ex_callS_i (rm' := rmX11_isSix) (st := []) (pc' := 4) [.int v1] dX11_mean_1 cl_X11_133 (k_X11_isSix G hq2) rfl rfl rfl (ROOM_of rfl) (Nat.le_of_ble_eq_true rfl) rfl rfl ?_
  refine ex_ifeq (tgt := 17) (pc' := 7) dX11_mean_4 (by decide) rfl (fun hc3 => ?_) (fun hc3 => ?_)
  · replace hf := if_t hc3 hf
    refine ex_ldc2 (v := (-9223372036854775808)) (pc' := 20) dX11_mean_17 co_X11_149 rfl ?_
    exact ex_lret dX11_mean_20 rfl (hR _ _ (Option.some.inj hf).symm)
  · replace hf := if_f hc3 hf
    refine ex_iload_n 2 (pc' := 8) dX11_mean_7 rfl rfl rfl ?_
    refine ex_i2l (pc' := 9) dX11_mean_8 rfl ?_
    refine ex_lconst (v := 0) (pc' := 10) dX11_mean_9 lc_0 rfl ?_
    refine ex_lconst (v := 1) (pc' := 11) dX11_mean_10 lc_1 rfl ?_
    obtain ⟨r4, hq5, hf⟩ := of_bnd1 hf
    refine ex_callS_i (rm' := rmX11_in) (st := []) (pc' := 14) [.long (Int32.toInt64 v2), .long 0, .long 1] dX11_mean_11 cl_X11_129 (k_X11_in G hq5) rfl rfl rfl (ROOM_of rfl) (Nat.le_of_ble_eq_true rfl) rfl rfl ?_
    refine ex_ifne (tgt := 21) (pc' := 17) dX11_mean_14 (by decide) rfl (fun hc6 => ?_) (fun hc6 => ?_)
    · replace hf := if_t hc6 hf
      refine ex_ldc2 (v := (-9223372036854775808)) (pc' := 20) dX11_mean_17 co_X11_149 rfl ?_
      exact ex_lret dX11_mean_20 rfl (hR _ _ (Option.some.inj hf).symm)
    · replace hf := if_f hc6 hf
      refine ex_aload_n 0 (pc' := 22) dX11_mean_21 rfl rfl rfl ?_
      refine ex_iload_n 1 (pc' := 23) dX11_mean_22 rfl rfl rfl ?_
      obtain ⟨I7, hq8, hf⟩ := of_bnd1 hf
      refine ex_callV_v (rm' := rmX11_layHits) (st := []) (pc' := 26) [.int v1] dX11_mean_23 cl_X11_196 (k_X11_layHits G hO hq8) rfl (sh11_k hO) ⟨_, _, rfl⟩ rfl rfl (ROOM_of rfl) (Nat.le_of_ble_eq_true rfl) rfl rfl ?_
      refine ex_lconst (v := 0) (pc' := 27) dX11_mean_26 lc_0 rfl ?_
      refine ex_lstore_n (lv' := [(3, .long 0), (0, .ref (gB G + 99)), (1, .int v1), (2, .int v2)]) (pc' := 28) dX11_mean_27 rfl (Nat.le_of_ble_eq_true rfl) rfl rfl ?_
      refine ex_iconst (v := 0) (pc' := 29) dX11_mean_28 ic_0 rfl ?_
      refine ex_istore (lv' := [(5, .int 0), (3, .long 0), (0, .ref (gB G + 99)), (1, .int v1), (2, .int v2)]) (pc' := 31) dX11_mean_29 (Nat.le_of_ble_eq_true rfl) rfl rfl ?_
      refine ex_sub (lv' := [(0, .ref (gB G + 99)), (1, .int v1), (2, .int v2), (3, .long 0), (5, .int 0)]) [2, 3, 4, 1, 0] rfl ?_
      obtain ⟨x13, hq14, hf⟩ := of_bnd1 hf
      refine k_X11_mean_l31 hO (fun x13' he => ?_) _ _ _ hq14
      cases he
      refine ex_lload_n 3 (pc' := 60) dX11_mean_59 rfl rfl rfl ?_
      refine ex_aload_n 0 (pc' := 61) dX11_mean_60 rfl rfl rfl ?_
      refine ex_getR (pc' := 64) dX11_mean_61 fl_X11_22 rfl (sh11_k hO) (sh11_F3 hO) rfl ?_
      refine ex_iload_n 1 (pc' := 65) dX11_mean_64 rfl rfl rfl ?_
      obtain ⟨hg15, hf⟩ := of_guard hf
      refine ex_iald (pc' := 66) dX11_mean_65 (sh11_T3 hO) (inb_in hg15) rfl ?_
      obtain ⟨r16, hq17, hf⟩ := of_bnd1 hf
      refine ex_callS_l (rm' := rmX11_factor) (st := [.long x13]) (pc' := 69) [.int (I7 103 (Int32.toNatClampNeg v1))] dX11_mean_66 cl_X11_276 (k_X11_factor G hq17) rfl rfl rfl (ROOM_of rfl) (Nat.le_of_ble_eq_true rfl) rfl rfl ?_
      refine ex_iload_n 2 (pc' := 70) dX11_mean_69 rfl rfl rfl ?_
      obtain ⟨r18, hq19, hf⟩ := of_bnd1 hf
      refine ex_callS_l (rm' := rmX11_part) (st := []) (pc' := 73) [.long x13, .long r16, .int v2] dX11_mean_70 cl_X11_280 (k_X11_part G hq19) rfl rfl rfl (ROOM_of rfl) (Nat.le_of_ble_eq_true rfl) rfl rfl ?_
      exact ex_lret dX11_mean_73 rfl (hR _ _ (Option.some.inj hf).symm)
set_option maxRecDepth 100000 in
set_option maxHeartbeats 4000000 in
theorem k_X11_mean (G : GX) {X : MX} (hO : shX11 X) {v1 : Int32} {v2 : Int32}  {N : Nat} {I : MI} {L : ML} {z : Int64} {I' : MI} (hf : f_X11_mean N v1 v2 I = some (z, I')) : Con G mX11_mean yX11_mean rmX11_mean (fun B => [.ref (B + 99), .int v1, .int v2]) X I L (some (.long z)) X I' L :=
  Con.of (by decide) rfl (fun h => by cases h) (fun B => Nat.le_of_ble_eq_true rfl) (fun G => kb_X11_mean hO  hf (fun _ _ he => by cases he; rfl))
theorem co_X11_170 : Cond.constantLong RX11 170 (12) ∈ lwg := lwg_at 1170 (by decide +kernel) rfl
-- X11_number ('RookWordsModel', 'number', '(II)J')
def rmX11_number : RM := ((1, 25, 0, 0), false, (some FieldType.long))
def f_X11_number (v1 : Int32) (v2 : Int32) (L : ML) : Option (Int64) := bnd1 (f_X11_in (Int32.toInt64 v1) 0 12) fun r1 => (if r1 = 0 then some 0 else bnd1 (f_X11_in (Int32.toInt64 v2) 0 12) fun r4 => (if r4 = 0 then some 0 else if inb ((13 * v1) + v2) 169 then some (L 102 (Int32.toNatClampNeg ((13 * v1) + v2))) else none))
set_option maxRecDepth 100000 in
set_option maxHeartbeats 4000000 in
theorem kb_X11_number {G : GX} {Q : State → Prop} {X : MX} (hO : shX11 X) {v1 : Int32} {v2 : Int32}  {I : MI} {L : ML} {out : Int64} (hf : f_X11_number v1 v2 L = some out) (hR : ∀ (z : Int64), out = z → Q = RetQ G (some (.long z)) X I L (0, 0)) : Ex G mX11_number rmX11_number Q (0, 0) X I L 0 [(0, .ref (gB G + 99)), (1, .int v1), (2, .int v2)] [] := by
  unfold f_X11_number at hf
  refine ex_iload_n 1 (pc' := 1) dX11_number_0 rfl rfl rfl ?_
  refine ex_i2l (pc' := 2) dX11_number_1 rfl ?_
  refine ex_lconst (v := 0) (pc' := 3) dX11_number_2 lc_0 rfl ?_
  refine ex_ldc2 (v := 12) (pc' := 6) dX11_number_3 co_X11_170 rfl ?_
  obtain ⟨r1, hq2, hf⟩ := of_bnd1 hf
  refine ex_callS_i (rm' := rmX11_in) (st := []) (pc' := 9) [.long (Int32.toInt64 v1), .long 0, .long 12] dX11_number_6 cl_X11_129 (k_X11_in G hq2) rfl rfl rfl (ROOM_of rfl) (Nat.le_of_ble_eq_true rfl) rfl rfl ?_
  refine ex_ifeq (tgt := 38) (pc' := 12) dX11_number_9 (by decide) rfl (fun hc3 => ?_) (fun hc3 => ?_)
  · replace hf := if_t hc3 hf
    refine ex_lconst (v := 0) (pc' := 39) dX11_number_38 lc_0 rfl ?_
    exact ex_lret dX11_number_39 rfl (hR _ (Option.some.inj hf).symm)
  · replace hf := if_f hc3 hf
    refine ex_iload_n 2 (pc' := 13) dX11_number_12 rfl rfl rfl ?_
    refine ex_i2l (pc' := 14) dX11_number_13 rfl ?_
    refine ex_lconst (v := 0) (pc' := 15) dX11_number_14 lc_0 rfl ?_
    refine ex_ldc2 (v := 12) (pc' := 18) dX11_number_15 co_X11_170 rfl ?_
    obtain ⟨r4, hq5, hf⟩ := of_bnd1 hf
    refine ex_callS_i (rm' := rmX11_in) (st := []) (pc' := 21) [.long (Int32.toInt64 v2), .long 0, .long 12] dX11_number_18 cl_X11_129 (k_X11_in G hq5) rfl rfl rfl (ROOM_of rfl) (Nat.le_of_ble_eq_true rfl) rfl rfl ?_
    refine ex_ifeq (tgt := 38) (pc' := 24) dX11_number_21 (by decide) rfl (fun hc6 => ?_) (fun hc6 => ?_)
    · replace hf := if_t hc6 hf
      refine ex_lconst (v := 0) (pc' := 39) dX11_number_38 lc_0 rfl ?_
      exact ex_lret dX11_number_39 rfl (hR _ (Option.some.inj hf).symm)
    · replace hf := if_f hc6 hf
      refine ex_aload_n 0 (pc' := 25) dX11_number_24 rfl rfl rfl ?_
      refine ex_getR (pc' := 28) dX11_number_25 fl_X11_18 rfl (sh11_k hO) (sh11_F2 hO) rfl ?_
      refine ex_bipush (v := 13) (pc' := 30) dX11_number_28 bp_13 rfl ?_
      refine ex_iload_n 1 (pc' := 31) dX11_number_30 rfl rfl rfl ?_
      refine ex_imul (pc' := 32) dX11_number_31 rfl ?_
      refine ex_iload_n 2 (pc' := 33) dX11_number_32 rfl rfl rfl ?_
      refine ex_iadd (pc' := 34) dX11_number_33 rfl ?_
      obtain ⟨hg7, hf⟩ := of_guard hf
      refine ex_lald (pc' := 35) dX11_number_34 (sh11_T2 hO) (inb_in hg7) rfl ?_
      refine ex_goto (tgt := 39) dX11_number_35 (by decide) ?_
      exact ex_lret dX11_number_39 rfl (hR _ (Option.some.inj hf).symm)
set_option maxRecDepth 100000 in
set_option maxHeartbeats 4000000 in
theorem k_X11_number (G : GX) {X : MX} (hO : shX11 X) {v1 : Int32} {v2 : Int32}  {I : MI} {L : ML} {z : Int64} (hf : f_X11_number v1 v2 L = some z) : Con G mX11_number yX11_number rmX11_number (fun B => [.ref (B + 99), .int v1, .int v2]) X I L (some (.long z)) X I L :=
  Con.of (by decide) rfl (fun h => by cases h) (fun B => Nat.le_of_ble_eq_true rfl) (fun G => kb_X11_number hO  hf (fun _ he => by cases he; rfl))
-- X11_numberOf ('RookWordsModel', 'numberOf', '(I)I')
def rmX11_numberOf : RM := ((2, 49, 0, 0), false, (some FieldType.int))
def f_X11_numberOf_b28 (N : Nat) (v1 : Int32) (v2 : Int32) (v3 : Int32) (v4 : Int32) (v5 : Int32) (I : MI) : Option ((Int32 × Int32) ⊕ (Int32)) := (if v5 < v2 then (if v4 = 0 then some (.inl (0, v5 + 1)) else if inb ((6 * v1) + v5) 36 then if inb ((6 * v3) + v5) 5544 then (if (I 104 (Int32.toNatClampNeg ((6 * v1) + v5))) = ((jshl 1 (I 132 (Int32.toNatClampNeg ((6 * v3) + v5)))) - 1) then some (.inl (1, v5 + 1)) else some (.inl (0, v5 + 1))) else none else none) else some (.inr v4))
set_option maxRecDepth 100000 in
set_option maxHeartbeats 4000000 in
theorem k_X11_numberOf_b28 {G : GX} {Q : State → Prop} {X : MX} (hO : shX11 X) {v1 : Int32} {v2 : Int32} {v3 : Int32}  {v4 : Int32} {v5 : Int32} {N : Nat} {I : MI} {L : ML} {out : (Int32 × Int32) ⊕ (Int32)} (hf : f_X11_numberOf_b28 N v1 v2 v3 v4 v5 I = some out) (hC : ∀ (v4' : Int32) (v5' : Int32), out = .inl (v4', v5') → Ex G mX11_numberOf rmX11_numberOf Q (0, 0) X I L 28 [(0, .ref (gB G + 99)), (1, .int v1), (2, .int v2), (3, .int v3), (4, .int v4'), (5, .int v5')] []) (hX : ∀ (w4 : Int32), out = .inr w4 → Ex G mX11_numberOf rmX11_numberOf Q (0, 0) X I L 83 [(0, .ref (gB G + 99)), (1, .int v1), (2, .int v2), (3, .int v3), (4, .int w4)] []) : Ex G mX11_numberOf rmX11_numberOf Q (0, 0) X I L 28 [(0, .ref (gB G + 99)), (1, .int v1), (2, .int v2), (3, .int v3), (4, .int v4), (5, .int v5)] [] := by
  unfold f_X11_numberOf_b28 at hf
  refine ex_iload 5 (pc' := 30) dX11_numberOf_28 rfl rfl ?_
  refine ex_iload_n 2 (pc' := 31) dX11_numberOf_30 rfl rfl rfl ?_
  refine ex_icmpge (tgt := 83) (pc' := 34) dX11_numberOf_31 (by decide) rfl (fun hc5 => ?_) (fun hc5 => ?_)
  · replace hf := if_t hc5 hf
    refine ex_iload 4 (pc' := 36) dX11_numberOf_34 rfl rfl ?_
    refine ex_ifeq (tgt := 74) (pc' := 39) dX11_numberOf_36 (by decide) rfl (fun hc6 => ?_) (fun hc6 => ?_)
    · replace hf := if_t hc6 hf
      refine ex_iconst (v := 0) (pc' := 75) dX11_numberOf_74 ic_0 rfl ?_
      refine ex_istore (lv' := [(4, .int 0), (0, .ref (gB G + 99)), (1, .int v1), (2, .int v2), (3, .int v3), (5, .int v5)]) (pc' := 77) dX11_numberOf_75 (Nat.le_of_ble_eq_true rfl) rfl rfl ?_
      refine ex_iincc (lv' := [(5, .int (v5 + 1)), (4, .int 0), (0, .ref (gB G + 99)), (1, .int v1), (2, .int v2), (3, .int v3)]) 5 (pc' := 80) dX11_numberOf_77 rfl ic_1 (Nat.le_of_ble_eq_true rfl) rfl rfl ?_
      refine ex_goto (tgt := 28) dX11_numberOf_80 (by decide) ?_
      exact ex_sub [2, 3, 4, 5, 1, 0] rfl (hC _ _ (Option.some.inj hf).symm)
    · replace hf := if_f hc6 hf
      refine ex_aload_n 0 (pc' := 40) dX11_numberOf_39 rfl rfl rfl ?_
      refine ex_getR (pc' := 43) dX11_numberOf_40 fl_X11_25 rfl (sh11_k hO) (sh11_F4 hO) rfl ?_
      refine ex_bipush (v := 6) (pc' := 45) dX11_numberOf_43 bp_6 rfl ?_
      refine ex_iload_n 1 (pc' := 46) dX11_numberOf_45 rfl rfl rfl ?_
      refine ex_imul (pc' := 47) dX11_numberOf_46 rfl ?_
      refine ex_iload 5 (pc' := 49) dX11_numberOf_47 rfl rfl ?_
      refine ex_iadd (pc' := 50) dX11_numberOf_49 rfl ?_
      obtain ⟨hg7, hf⟩ := of_guard hf
      refine ex_iald (pc' := 51) dX11_numberOf_50 (sh11_T4 hO) (inb_in hg7) rfl ?_
      refine ex_iconst (v := 1) (pc' := 52) dX11_numberOf_51 ic_1 rfl ?_
      refine ex_aload_n 0 (pc' := 53) dX11_numberOf_52 rfl rfl rfl ?_
      refine ex_getR (pc' := 56) dX11_numberOf_53 fl_X11_109 rfl (sh11_k hO) (sh11_F40 hO) rfl ?_
      refine ex_bipush (v := 6) (pc' := 58) dX11_numberOf_56 bp_6 rfl ?_
      refine ex_iload_n 3 (pc' := 59) dX11_numberOf_58 rfl rfl rfl ?_
      refine ex_imul (pc' := 60) dX11_numberOf_59 rfl ?_
      refine ex_iload 5 (pc' := 62) dX11_numberOf_60 rfl rfl ?_
      refine ex_iadd (pc' := 63) dX11_numberOf_62 rfl ?_
      obtain ⟨hg8, hf⟩ := of_guard hf
      refine ex_iald (pc' := 64) dX11_numberOf_63 (sh11_T40 hO) (inb_in hg8) rfl ?_
      refine ex_ishl (pc' := 65) dX11_numberOf_64 rfl ?_
      refine ex_iconst (v := 1) (pc' := 66) dX11_numberOf_65 ic_1 rfl ?_
      refine ex_isub (pc' := 67) dX11_numberOf_66 rfl ?_
      refine ex_icmpne (tgt := 74) (pc' := 70) dX11_numberOf_67 (by decide) rfl (fun hc9 => ?_) (fun hc9 => ?_)
      · replace hf := if_t hc9 hf
        refine ex_iconst (v := 1) (pc' := 71) dX11_numberOf_70 ic_1 rfl ?_
        refine ex_goto (tgt := 75) dX11_numberOf_71 (by decide) ?_
        refine ex_istore (lv' := [(4, .int 1), (0, .ref (gB G + 99)), (1, .int v1), (2, .int v2), (3, .int v3), (5, .int v5)]) (pc' := 77) dX11_numberOf_75 (Nat.le_of_ble_eq_true rfl) rfl rfl ?_
        refine ex_iincc (lv' := [(5, .int (v5 + 1)), (4, .int 1), (0, .ref (gB G + 99)), (1, .int v1), (2, .int v2), (3, .int v3)]) 5 (pc' := 80) dX11_numberOf_77 rfl ic_1 (Nat.le_of_ble_eq_true rfl) rfl rfl ?_
        refine ex_goto (tgt := 28) dX11_numberOf_80 (by decide) ?_
        exact ex_sub [2, 3, 4, 5, 1, 0] rfl (hC _ _ (Option.some.inj hf).symm)
      · replace hf := if_f hc9 hf
        refine ex_iconst (v := 0) (pc' := 75) dX11_numberOf_74 ic_0 rfl ?_
        refine ex_istore (lv' := [(4, .int 0), (0, .ref (gB G + 99)), (1, .int v1), (2, .int v2), (3, .int v3), (5, .int v5)]) (pc' := 77) dX11_numberOf_75 (Nat.le_of_ble_eq_true rfl) rfl rfl ?_
        refine ex_iincc (lv' := [(5, .int (v5 + 1)), (4, .int 0), (0, .ref (gB G + 99)), (1, .int v1), (2, .int v2), (3, .int v3)]) 5 (pc' := 80) dX11_numberOf_77 rfl ic_1 (Nat.le_of_ble_eq_true rfl) rfl rfl ?_
        refine ex_goto (tgt := 28) dX11_numberOf_80 (by decide) ?_
        exact ex_sub [2, 3, 4, 5, 1, 0] rfl (hC _ _ (Option.some.inj hf).symm)
  · replace hf := if_f hc5 hf
    exact ex_sub [0, 1, 2, 3, 4] rfl (hX _ (Option.some.inj hf).symm)
def f_X11_numberOf_l28 (N : Nat) (v1 : Int32) (v2 : Int32) (v3 : Int32) (v4 : Int32) (v5 : Int32) (I : MI) : Option (Int32) := loopN (fun s => f_X11_numberOf_b28 N v1 v2 v3 s.1 s.2 I) N (v4, v5)
set_option maxRecDepth 100000 in
set_option maxHeartbeats 4000000 in
theorem k_X11_numberOf_l28 {G : GX} {Q : State → Prop} {X : MX} (hO : shX11 X) {v1 : Int32} {v2 : Int32} {v3 : Int32}  {N0 : Nat} {I : MI} {L : ML} {out : (Int32)} (hX : ∀ (w4 : Int32), out = w4 → Ex G mX11_numberOf rmX11_numberOf Q (0, 0) X I L 83 [(0, .ref (gB G + 99)), (1, .int v1), (2, .int v2), (3, .int v3), (4, .int w4)] []) : ∀ (N : Nat) (v4 : Int32) (v5 : Int32), loopN (fun s => f_X11_numberOf_b28 N0 v1 v2 v3 s.1 s.2 I) N (v4, v5) = some out → Ex G mX11_numberOf rmX11_numberOf Q (0, 0) X I L 28 [(0, .ref (gB G + 99)), (1, .int v1), (2, .int v2), (3, .int v3), (4, .int v4), (5, .int v5)] [] := by
  intro N
  induction N with
  | zero => intro v4 v5 hf; exact absurd (loopN_zero hf) id
  | succ n ih =>
    intro v4 v5 hf
    rcases loopN_succ hf with ⟨s, hb, hl⟩ | hb
    · obtain ⟨v4', v5'⟩ := s
      refine k_X11_numberOf_b28 hO  hb (fun _ _ he => ?_) (fun _ he => by cases he)
      cases he
      exact ih v4' v5' hl
    · exact k_X11_numberOf_b28 hO  hb (fun _ _ he => by cases he) (fun x0 he => hX x0 (Sum.inr.inj he))
def f_X11_numberOf_b14 (N : Nat) (v1 : Int32) (v2 : Int32) (v3 : Int32) (I : MI) : Option ((Int32) ⊕ ((Unit) ⊕ (Int32 × MI))) := (if v3 < (I 99 38) then bnd1 (f_X11_numberOf_l28 N v1 v2 v3 1 0 I) fun x10 => (if x10 = 0 then some (.inl (v3 + 1)) else some (.inr (.inr (v3, I)))) else some (.inr (.inl ())))
set_option maxRecDepth 100000 in
set_option maxHeartbeats 4000000 in
theorem k_X11_numberOf_b14 {G : GX} {Q : State → Prop} {X : MX} (hO : shX11 X) {v1 : Int32} {v2 : Int32}  {v3 : Int32} {N : Nat} {I : MI} {L : ML} {out : (Int32) ⊕ ((Unit) ⊕ (Int32 × MI))} (hf : f_X11_numberOf_b14 N v1 v2 v3 I = some out) (hC : ∀ (v3' : Int32), out = .inl v3' → Ex G mX11_numberOf rmX11_numberOf Q (0, 0) X I L 14 [(0, .ref (gB G + 99)), (1, .int v1), (2, .int v2), (3, .int v3')] []) (hX : ∀ (u : Unit), out = .inr (.inl u) → Ex G mX11_numberOf rmX11_numberOf Q (0, 0) X I L 96 [] []) (hR : ∀ (z : Int32) (I' : MI), out = .inr (.inr (z, I')) → Q = RetQ G (some (.int z)) X I' L (0, 0)) : Ex G mX11_numberOf rmX11_numberOf Q (0, 0) X I L 14 [(0, .ref (gB G + 99)), (1, .int v1), (2, .int v2), (3, .int v3)] [] := by
  unfold f_X11_numberOf_b14 at hf
  refine ex_iload_n 3 (pc' := 15) dX11_numberOf_14 rfl rfl rfl ?_
  refine ex_aload_n 0 (pc' := 16) dX11_numberOf_15 rfl rfl rfl ?_
  refine ex_getI (pc' := 19) dX11_numberOf_16 fl_X11_209 rfl (sh11_k hO) rfl ?_
  refine ex_icmpge (tgt := 96) (pc' := 22) dX11_numberOf_19 (by decide) rfl (fun hc4 => ?_) (fun hc4 => ?_)
  · replace hf := if_t hc4 hf
    refine ex_iconst (v := 1) (pc' := 23) dX11_numberOf_22 ic_1 rfl ?_
    refine ex_istore (lv' := [(4, .int 1), (0, .ref (gB G + 99)), (1, .int v1), (2, .int v2), (3, .int v3)]) (pc' := 25) dX11_numberOf_23 (Nat.le_of_ble_eq_true rfl) rfl rfl ?_
    refine ex_iconst (v := 0) (pc' := 26) dX11_numberOf_25 ic_0 rfl ?_
    refine ex_istore (lv' := [(5, .int 0), (4, .int 1), (0, .ref (gB G + 99)), (1, .int v1), (2, .int v2), (3, .int v3)]) (pc' := 28) dX11_numberOf_26 (Nat.le_of_ble_eq_true rfl) rfl rfl ?_
    refine ex_sub (lv' := [(0, .ref (gB G + 99)), (1, .int v1), (2, .int v2), (3, .int v3), (4, .int 1), (5, .int 0)]) [2, 3, 4, 5, 1, 0] rfl ?_
    obtain ⟨x10, hq11, hf⟩ := of_bnd1 hf
    refine k_X11_numberOf_l28 hO (fun x10' he => ?_) _ _ _ hq11
    cases he
    refine ex_iload 4 (pc' := 85) dX11_numberOf_83 rfl rfl ?_
    refine ex_ifeq (tgt := 90) (pc' := 88) dX11_numberOf_85 (by decide) rfl (fun hc12 => ?_) (fun hc12 => ?_)
    · replace hf := if_t hc12 hf
      refine ex_iincc (lv' := [(3, .int (v3 + 1)), (0, .ref (gB G + 99)), (1, .int v1), (2, .int v2), (4, .int x10)]) 3 (pc' := 93) dX11_numberOf_90 rfl ic_1 (Nat.le_of_ble_eq_true rfl) rfl rfl ?_
      refine ex_goto (tgt := 14) dX11_numberOf_93 (by decide) ?_
      exact ex_sub [1, 2, 3, 0] rfl (hC _ (Option.some.inj hf).symm)
    · replace hf := if_f hc12 hf
      refine ex_iload_n 3 (pc' := 89) dX11_numberOf_88 rfl rfl rfl ?_
      exact ex_iret dX11_numberOf_89 rfl (hR _ _ (Option.some.inj hf).symm)
  · replace hf := if_f hc4 hf
    exact ex_sub [] rfl (hX _ (Option.some.inj hf).symm)
def f_X11_numberOf_l14 (N : Nat) (v1 : Int32) (v2 : Int32) (v3 : Int32) (I : MI) : Option ((Unit) ⊕ (Int32 × MI)) := loopN (fun s => f_X11_numberOf_b14 N v1 v2 s I) N v3
set_option maxRecDepth 100000 in
set_option maxHeartbeats 4000000 in
theorem k_X11_numberOf_l14 {G : GX} {Q : State → Prop} {X : MX} (hO : shX11 X) {v1 : Int32} {v2 : Int32}  {N0 : Nat} {I : MI} {L : ML} {out : ((Unit) ⊕ (Int32 × MI))} (hX : ∀ (u : Unit), out = .inl u → Ex G mX11_numberOf rmX11_numberOf Q (0, 0) X I L 96 [] []) (hR : ∀ (z : Int32) (I' : MI), out = .inr (z, I') → Q = RetQ G (some (.int z)) X I' L (0, 0)) : ∀ (N : Nat) (v3 : Int32), loopN (fun s => f_X11_numberOf_b14 N0 v1 v2 s I) N v3 = some out → Ex G mX11_numberOf rmX11_numberOf Q (0, 0) X I L 14 [(0, .ref (gB G + 99)), (1, .int v1), (2, .int v2), (3, .int v3)] [] := by
  intro N
  induction N with
  | zero => intro v3 hf; exact absurd (loopN_zero hf) id
  | succ n ih =>
    intro v3 hf
    rcases loopN_succ hf with ⟨s, hb, hl⟩ | hb
    · skip
      refine k_X11_numberOf_b14 hO  hb (fun _ he => ?_) (fun _ he => by cases he) (fun _ _ he => by cases he)
      cases he
      exact ih s hl
    · exact k_X11_numberOf_b14 hO  hb (fun _ he => by cases he) (fun x0 he => hX x0 (Sum.inr.inj he)) (fun z0 z1 he => hR z0 z1 (Sum.inr.inj he))
def f_X11_numberOf (N : Nat) (v1 : Int32) (I : MI) : Option (Int32 × MI) := if inb v1 6 then bnd1 (f_X11_layAll N (I 103 (Int32.toNatClampNeg v1)) I) fun I2 => bns1 (f_X11_numberOf_l14 N v1 (I 103 (Int32.toNatClampNeg v1)) 0 I2) (fun u13 => some ((-5), I2)) (fun q15 => some q15) else none
set_option maxRecDepth 100000 in
set_option maxHeartbeats 4000000 in
theorem kb_X11_numberOf {G : GX} {Q : State → Prop} {X : MX} (hO : shX11 X) {v1 : Int32}  {N : Nat} {I : MI} {L : ML} {out : Int32 × MI} (hf : f_X11_numberOf N v1 I = some out) (hR : ∀ (z : Int32) (I' : MI), out = (z, I') → Q = RetQ G (some (.int z)) X I' L (0, 0)) : Ex G mX11_numberOf rmX11_numberOf Q (0, 0) X I L 0 [(0, .ref (gB G + 99)), (1, .int v1)] [] := by
  unfold f_X11_numberOf at hf
  refine ex_aload_n 0 (pc' := 1) dX11_numberOf_0 rfl rfl rfl ?_
  refine ex_getR (pc' := 4) dX11_numberOf_1 fl_X11_22 rfl (sh11_k hO) (sh11_F3 hO) rfl ?_
  refine ex_iload_n 1 (pc' := 5) dX11_numberOf_4 rfl rfl rfl ?_
  obtain ⟨hg1, hf⟩ := of_guard hf
  refine ex_iald (pc' := 6) dX11_numberOf_5 (sh11_T3 hO) (inb_in hg1) rfl ?_
  refine ex_istore_n (lv' := [(2, .int (I 103 (Int32.toNatClampNeg v1))), (0, .ref (gB G + 99)), (1, .int v1)]) (pc' := 7) dX11_numberOf_6 rfl (Nat.le_of_ble_eq_true rfl) rfl rfl ?_
  refine ex_aload_n 1 (pc' := 8) dX11_numberOf_7 rfl rfl rfl ?_
  refine ex_iload_n 0 (pc' := 9) dX11_numberOf_8 rfl rfl rfl ?_
  obtain ⟨I2, hq3, hf⟩ := of_bnd1 hf
  refine ex_callV_v (rm' := rmX11_layAll) (st := []) (pc' := 12) [.int (I 103 (Int32.toNatClampNeg v1))] dX11_numberOf_9 cl_X11_215 (k_X11_layAll G hO hq3) rfl (sh11_k hO) ⟨_, _, rfl⟩ rfl rfl (ROOM_of rfl) (Nat.le_of_ble_eq_true rfl) rfl rfl ?_
  refine ex_iconst (v := 0) (pc' := 13) dX11_numberOf_12 ic_0 rfl ?_
  refine ex_istore_n (lv' := [(3, .int 0), (2, .int (I 103 (Int32.toNatClampNeg v1))), (0, .ref (gB G + 99)), (1, .int v1)]) (pc' := 14) dX11_numberOf_13 rfl (Nat.le_of_ble_eq_true rfl) rfl rfl ?_
  refine ex_sub (lv' := [(0, .ref (gB G + 99)), (1, .int v1), (2, .int (I 103 (Int32.toNatClampNeg v1))), (3, .int 0)]) [2, 3, 1, 0] rfl ?_
  rcases of_bns1 hf with ⟨u13, hq14, hf⟩ | ⟨q15, hq14, hf⟩
  · refine k_X11_numberOf_l14 hO (fun u13' he => ?_) (fun _ _ he => by cases he) _ _ hq14
    cases he
    refine ex_bipush (v := (-5)) (pc' := 98) dX11_numberOf_96 bp_m5 rfl ?_
    exact ex_iret dX11_numberOf_98 rfl (hR _ _ (Option.some.inj hf).symm)
  · refine k_X11_numberOf_l14 hO (fun _ he => by cases he) (fun z0 z1 he => ?_) _ _ hq14
    refine hR _ _ ?_
    rw [← Option.some.inj hf]
    cases he
    rfl
set_option maxRecDepth 100000 in
set_option maxHeartbeats 4000000 in
theorem k_X11_numberOf (G : GX) {X : MX} (hO : shX11 X) {v1 : Int32}  {N : Nat} {I : MI} {L : ML} {z : Int32} {I' : MI} (hf : f_X11_numberOf N v1 I = some (z, I')) : Con G mX11_numberOf yX11_numberOf rmX11_numberOf (fun B => [.ref (B + 99), .int v1]) X I L (some (.int z)) X I' L :=
  Con.of (by decide) rfl (fun h => by cases h) (fun B => Nat.le_of_ble_eq_true rfl) (fun G => kb_X11_numberOf hO  hf (fun _ _ he => by cases he; rfl))
-- X11_odds ('RookWordsModel', 'odds', '(II)J')
def rmX11_odds : RM := ((2, 55, 0, 0), false, (some FieldType.long))
def f_X11_odds (N : Nat) (v1 : Int32) (v2 : Int32) (I : MI) : Option (Int64 × MI) := bnd1 (f_X11_isSix v1) fun r1 => (if r1 = 0 then some ((-9223372036854775808), I) else bnd1 (f_X11_in (Int32.toInt64 v2) 0 1) fun r4 => (if r4 = 0 then some ((-9223372036854775808), I) else bnd1 (f_X11_layHits N v1 I) fun I7 => bnd1 (f_X11_hitsOf v1 0 I7) fun r9 => if inb v1 6 then bnd1 (f_X11_factor N (I7 103 (Int32.toNatClampNeg v1))) fun r12 => bnd1 (f_X11_part N (Int32.toInt64 r9) r12 v2) fun r14 => some (r14, I7) else none))
set_option maxRecDepth 100000 in
set_option maxHeartbeats 4000000 in
theorem kb_X11_odds {G : GX} {Q : State → Prop} {X : MX} (hO : shX11 X) {v1 : Int32} {v2 : Int32}  {N : Nat} {I : MI} {L : ML} {out : Int64 × MI} (hf : f_X11_odds N v1 v2 I = some out) (hR : ∀ (z : Int64) (I' : MI), out = (z, I') → Q = RetQ G (some (.long z)) X I' L (0, 0)) : Ex G mX11_odds rmX11_odds Q (0, 0) X I L 0 [(0, .ref (gB G + 99)), (1, .int v1), (2, .int v2)] [] := by
  unfold f_X11_odds at hf
  refine ex_iload_n 1 (pc' := 1) dX11_odds_0 rfl rfl rfl ?_
  obtain ⟨r1, hq2, hf⟩ := of_bnd1 hf
  refine ex_callS_i (rm' := rmX11_isSix) (st := []) (pc' := 4) [.int v1] dX11_odds_1 cl_X11_133 (k_X11_isSix G hq2) rfl rfl rfl (ROOM_of rfl) (Nat.le_of_ble_eq_true rfl) rfl rfl ?_
  refine ex_ifeq (tgt := 17) (pc' := 7) dX11_odds_4 (by decide) rfl (fun hc3 => ?_) (fun hc3 => ?_)
  · replace hf := if_t hc3 hf
    refine ex_ldc2 (v := (-9223372036854775808)) (pc' := 20) dX11_odds_17 co_X11_149 rfl ?_
    exact ex_lret dX11_odds_20 rfl (hR _ _ (Option.some.inj hf).symm)
  · replace hf := if_f hc3 hf
    refine ex_iload_n 2 (pc' := 8) dX11_odds_7 rfl rfl rfl ?_
    refine ex_i2l (pc' := 9) dX11_odds_8 rfl ?_
    refine ex_lconst (v := 0) (pc' := 10) dX11_odds_9 lc_0 rfl ?_
    refine ex_lconst (v := 1) (pc' := 11) dX11_odds_10 lc_1 rfl ?_
    obtain ⟨r4, hq5, hf⟩ := of_bnd1 hf
    refine ex_callS_i (rm' := rmX11_in) (st := []) (pc' := 14) [.long (Int32.toInt64 v2), .long 0, .long 1] dX11_odds_11 cl_X11_129 (k_X11_in G hq5) rfl rfl rfl (ROOM_of rfl) (Nat.le_of_ble_eq_true rfl) rfl rfl ?_
    refine ex_ifne (tgt := 21) (pc' := 17) dX11_odds_14 (by decide) rfl (fun hc6 => ?_) (fun hc6 => ?_)
    · replace hf := if_t hc6 hf
      refine ex_ldc2 (v := (-9223372036854775808)) (pc' := 20) dX11_odds_17 co_X11_149 rfl ?_
      exact ex_lret dX11_odds_20 rfl (hR _ _ (Option.some.inj hf).symm)
    · replace hf := if_f hc6 hf
      refine ex_aload_n 0 (pc' := 22) dX11_odds_21 rfl rfl rfl ?_
      refine ex_iload_n 1 (pc' := 23) dX11_odds_22 rfl rfl rfl ?_
      obtain ⟨I7, hq8, hf⟩ := of_bnd1 hf
      refine ex_callV_v (rm' := rmX11_layHits) (st := []) (pc' := 26) [.int v1] dX11_odds_23 cl_X11_196 (k_X11_layHits G hO hq8) rfl (sh11_k hO) ⟨_, _, rfl⟩ rfl rfl (ROOM_of rfl) (Nat.le_of_ble_eq_true rfl) rfl rfl ?_
      refine ex_aload_n 0 (pc' := 27) dX11_odds_26 rfl rfl rfl ?_
      refine ex_iload_n 1 (pc' := 28) dX11_odds_27 rfl rfl rfl ?_
      refine ex_iconst (v := 0) (pc' := 29) dX11_odds_28 ic_0 rfl ?_
      obtain ⟨r9, hq10, hf⟩ := of_bnd1 hf
      refine ex_callV_i (rm' := rmX11_hitsOf) (st := []) (pc' := 32) [.int v1, .int 0] dX11_odds_29 cl_X11_199 (k_X11_hitsOf G hO hq10) rfl (sh11_k hO) ⟨_, _, rfl⟩ rfl rfl (ROOM_of rfl) (Nat.le_of_ble_eq_true rfl) rfl rfl ?_
      refine ex_i2l (pc' := 33) dX11_odds_32 rfl ?_
      refine ex_aload_n 0 (pc' := 34) dX11_odds_33 rfl rfl rfl ?_
      refine ex_getR (pc' := 37) dX11_odds_34 fl_X11_22 rfl (sh11_k hO) (sh11_F3 hO) rfl ?_
      refine ex_iload_n 1 (pc' := 38) dX11_odds_37 rfl rfl rfl ?_
      obtain ⟨hg11, hf⟩ := of_guard hf
      refine ex_iald (pc' := 39) dX11_odds_38 (sh11_T3 hO) (inb_in hg11) rfl ?_
      obtain ⟨r12, hq13, hf⟩ := of_bnd1 hf
      refine ex_callS_l (rm' := rmX11_factor) (st := [.long (Int32.toInt64 r9)]) (pc' := 42) [.int (I7 103 (Int32.toNatClampNeg v1))] dX11_odds_39 cl_X11_276 (k_X11_factor G hq13) rfl rfl rfl (ROOM_of rfl) (Nat.le_of_ble_eq_true rfl) rfl rfl ?_
      refine ex_iload_n 2 (pc' := 43) dX11_odds_42 rfl rfl rfl ?_
      obtain ⟨r14, hq15, hf⟩ := of_bnd1 hf
      refine ex_callS_l (rm' := rmX11_part) (st := []) (pc' := 46) [.long (Int32.toInt64 r9), .long r12, .int v2] dX11_odds_43 cl_X11_280 (k_X11_part G hq15) rfl rfl rfl (ROOM_of rfl) (Nat.le_of_ble_eq_true rfl) rfl rfl ?_
      exact ex_lret dX11_odds_46 rfl (hR _ _ (Option.some.inj hf).symm)
set_option maxRecDepth 100000 in
set_option maxHeartbeats 4000000 in
theorem k_X11_odds (G : GX) {X : MX} (hO : shX11 X) {v1 : Int32} {v2 : Int32}  {N : Nat} {I : MI} {L : ML} {z : Int64} {I' : MI} (hf : f_X11_odds N v1 v2 I = some (z, I')) : Con G mX11_odds yX11_odds rmX11_odds (fun B => [.ref (B + 99), .int v1, .int v2]) X I L (some (.long z)) X I' L :=
  Con.of (by decide) rfl (fun h => by cases h) (fun B => Nat.le_of_ble_eq_true rfl) (fun G => kb_X11_odds hO  hf (fun _ _ he => by cases he; rfl))
theorem co_X11_218 : Cond.constantLong RX11 218 (4) ∈ lwg := lwg_at 1258 (by decide +kernel) rfl
theorem cl_X11_220 : CLV RX11 220 yX11_numberOf mX11_numberOf (some FieldType.int) 1 := ⟨⟨lwg_at 1259 (by decide +kernel) rfl, lwg_at 1261 (by decide +kernel) rfl, lwg_at 32 (by decide +kernel) rfl, lwg_at 61 (by decide +kernel) rfl⟩, lwg_at 1262 (by decide +kernel) rfl, ⟨by decide +kernel, by decide +kernel, by decide +kernel⟩⟩
-- X11_of ('RookWordsModel', 'of', '(II)I')
def rmX11_of : RM := ((3, 74, 0, 0), false, (some FieldType.int))
def f_X11_of_b93 (N : Nat)  (v3 : Int32) (I : MI) : Option ((Int32) ⊕ (Int32)) := if inb v3 7 then (if (I 130 (Int32.toNatClampNeg v3)) = 0 then some (.inl (v3 + (-1))) else some (.inr v3)) else none
set_option maxRecDepth 100000 in
set_option maxHeartbeats 4000000 in
theorem k_X11_of_b93 {G : GX} {Q : State → Prop} {X : MX} (hO : shX11 X)   {v3 : Int32} {N : Nat} {I : MI} {L : ML} {out : (Int32) ⊕ (Int32)} (hf : f_X11_of_b93 N v3 I = some out) (hC : ∀ (v3' : Int32), out = .inl v3' → Ex G mX11_of rmX11_of Q (0, 0) X I L 93 [(0, .ref (gB G + 99)), (3, .int v3')] []) (hX : ∀ (w3 : Int32), out = .inr w3 → Ex G mX11_of rmX11_of Q (0, 0) X I L 108 [(3, .int w3)] []) : Ex G mX11_of rmX11_of Q (0, 0) X I L 93 [(0, .ref (gB G + 99)), (3, .int v3)] [] := by
  unfold f_X11_of_b93 at hf
  refine ex_aload_n 0 (pc' := 94) dX11_of_93 rfl rfl rfl ?_
  refine ex_getR (pc' := 97) dX11_of_94 fl_X11_103 rfl (sh11_k hO) (sh11_F36 hO) rfl ?_
  refine ex_iload_n 1 (pc' := 98) dX11_of_97 rfl rfl rfl ?_
  obtain ⟨hg22, hf⟩ := of_guard hf
  refine ex_iald (pc' := 99) dX11_of_98 (sh11_T36 hO) (inb_in hg22) rfl ?_
  refine ex_ifne (tgt := 108) (pc' := 102) dX11_of_99 (by decide) rfl (fun hc23 => ?_) (fun hc23 => ?_)
  · replace hf := if_t hc23 hf
    refine ex_iincc (lv' := [(3, .int (v3 + (-1))), (0, .ref (gB G + 99))]) 1 (pc' := 105) dX11_of_102 rfl ic_m1 (Nat.le_of_ble_eq_true rfl) rfl rfl ?_
    refine ex_goto (tgt := 93) dX11_of_105 (by decide) ?_
    exact ex_sub [1, 0] rfl (hC _ (Option.some.inj hf).symm)
  · replace hf := if_f hc23 hf
    exact ex_sub [1] rfl (hX _ (Option.some.inj hf).symm)
def f_X11_of_l93 (N : Nat)  (v3 : Int32) (I : MI) : Option (Int32) := loopN (fun s => f_X11_of_b93 N s I) N v3
set_option maxRecDepth 100000 in
set_option maxHeartbeats 4000000 in
theorem k_X11_of_l93 {G : GX} {Q : State → Prop} {X : MX} (hO : shX11 X)   {N0 : Nat} {I : MI} {L : ML} {out : (Int32)} (hX : ∀ (w3 : Int32), out = w3 → Ex G mX11_of rmX11_of Q (0, 0) X I L 108 [(3, .int w3)] []) : ∀ (N : Nat) (v3 : Int32), loopN (fun s => f_X11_of_b93 N0 s I) N v3 = some out → Ex G mX11_of rmX11_of Q (0, 0) X I L 93 [(0, .ref (gB G + 99)), (3, .int v3)] [] := by
  intro N
  induction N with
  | zero => intro v3 hf; exact absurd (loopN_zero hf) id
  | succ n ih =>
    intro v3 hf
    rcases loopN_succ hf with ⟨s, hb, hl⟩ | hb
    · skip
      refine k_X11_of_b93 hO  hb (fun _ he => ?_) (fun _ he => by cases he)
      cases he
      exact ih s hl
    · exact k_X11_of_b93 hO  hb (fun _ he => by cases he) (fun x0 he => hX x0 (Sum.inr.inj he))
def f_X11_of (N : Nat) (v1 : Int32) (v2 : Int32) (I : MI) : Option (Int32 × MI) := bnd1 (f_X11_isSix v1) fun r1 => (if r1 = 0 then some ((-1), I) else bnd1 (f_X11_in (Int32.toInt64 v2) 0 4) fun r4 => (if r4 = 0 then some ((-1), I) else (if v2 = 0 then if inb v1 6 then some (I 103 (Int32.toNatClampNeg v1), I) else none else (if v2 = 1 then bnd1 (f_X11_cells N v1 I) fun r10 => some (r10, I) else (if v2 = 2 then bnd1 (f_X11_isSteps N v1 I) fun r13 => (if r13 = 0 then some (0, I) else some (1, I)) else (if v2 = 3 then bnd2 (f_X11_numberOf N v1 I) fun r17 I18 => some (r17, I18) else bnd1 (f_X11_layCounts N v1 I) fun I20 => bnd1 (f_X11_of_l93 N 6 I20) fun x24 => some (x24, I20)))))))
set_option maxRecDepth 100000 in
set_option maxHeartbeats 4000000 in
theorem kb_X11_of {G : GX} {Q : State → Prop} {X : MX} (hO : shX11 X) {v1 : Int32} {v2 : Int32}  {N : Nat} {I : MI} {L : ML} {out : Int32 × MI} (hf : f_X11_of N v1 v2 I = some out) (hR : ∀ (z : Int32) (I' : MI), out = (z, I') → Q = RetQ G (some (.int z)) X I' L (0, 0)) : Ex G mX11_of rmX11_of Q (0, 0) X I L 0 [(0, .ref (gB G + 99)), (1, .int v1), (2, .int v2)] [] := by
  unfold f_X11_of at hf
  refine ex_iload_n 1 (pc' := 1) dX11_of_0 rfl rfl rfl ?_
  obtain ⟨r1, hq2, hf⟩ := of_bnd1 hf
  refine ex_callS_i (rm' := rmX11_isSix) (st := []) (pc' := 4) [.int v1] dX11_of_1 cl_X11_133 (k_X11_isSix G hq2) rfl rfl rfl (ROOM_of rfl) (Nat.le_of_ble_eq_true rfl) rfl rfl ?_
  refine ex_ifeq (tgt := 19) (pc' := 7) dX11_of_4 (by decide) rfl (fun hc3 => ?_) (fun hc3 => ?_)
  · replace hf := if_t hc3 hf
    refine ex_iconst (v := (-1)) (pc' := 20) dX11_of_19 ic_m1 rfl ?_
    exact ex_iret dX11_of_20 rfl (hR _ _ (Option.some.inj hf).symm)
  · replace hf := if_f hc3 hf
    refine ex_iload_n 2 (pc' := 8) dX11_of_7 rfl rfl rfl ?_
    refine ex_i2l (pc' := 9) dX11_of_8 rfl ?_
    refine ex_lconst (v := 0) (pc' := 10) dX11_of_9 lc_0 rfl ?_
    refine ex_ldc2 (v := 4) (pc' := 13) dX11_of_10 co_X11_218 rfl ?_
    obtain ⟨r4, hq5, hf⟩ := of_bnd1 hf
    refine ex_callS_i (rm' := rmX11_in) (st := []) (pc' := 16) [.long (Int32.toInt64 v2), .long 0, .long 4] dX11_of_13 cl_X11_129 (k_X11_in G hq5) rfl rfl rfl (ROOM_of rfl) (Nat.le_of_ble_eq_true rfl) rfl rfl ?_
    refine ex_ifne (tgt := 21) (pc' := 19) dX11_of_16 (by decide) rfl (fun hc6 => ?_) (fun hc6 => ?_)
    · replace hf := if_t hc6 hf
      refine ex_iconst (v := (-1)) (pc' := 20) dX11_of_19 ic_m1 rfl ?_
      exact ex_iret dX11_of_20 rfl (hR _ _ (Option.some.inj hf).symm)
    · replace hf := if_f hc6 hf
      refine ex_iload_n 2 (pc' := 22) dX11_of_21 rfl rfl rfl ?_
      by_cases hc7 : v2 = 0
      · replace hf := if_t hc7 hf
        refine ex_tableIn (off := 30) (tgt := 52) dX11_of_22 (by rw [hc7]; decide) (by rw [hc7]; decide) (by rw [hc7]; decide) (by decide) ?_
        refine ex_aload_n 0 (pc' := 53) dX11_of_52 rfl rfl rfl ?_
        refine ex_getR (pc' := 56) dX11_of_53 fl_X11_22 rfl (sh11_k hO) (sh11_F3 hO) rfl ?_
        refine ex_iload_n 1 (pc' := 57) dX11_of_56 rfl rfl rfl ?_
        obtain ⟨hg8, hf⟩ := of_guard hf
        refine ex_iald (pc' := 58) dX11_of_57 (sh11_T3 hO) (inb_in hg8) rfl ?_
        exact ex_iret dX11_of_58 rfl (hR _ _ (Option.some.inj hf).symm)
      replace hf := if_f hc7 hf
      by_cases hc9 : v2 = 1
      · replace hf := if_t hc9 hf
        refine ex_tableIn (off := 37) (tgt := 59) dX11_of_22 (by rw [hc9]; decide) (by rw [hc9]; decide) (by rw [hc9]; decide) (by decide) ?_
        refine ex_aload_n 0 (pc' := 60) dX11_of_59 rfl rfl rfl ?_
        refine ex_iload_n 1 (pc' := 61) dX11_of_60 rfl rfl rfl ?_
        obtain ⟨r10, hq11, hf⟩ := of_bnd1 hf
        refine ex_callV_i (rm' := rmX11_cells) (st := []) (pc' := 64) [.int v1] dX11_of_61 cl_X11_186 (k_X11_cells G hO hq11) rfl (sh11_k hO) ⟨_, _, rfl⟩ rfl rfl (ROOM_of rfl) (Nat.le_of_ble_eq_true rfl) rfl rfl ?_
        exact ex_iret dX11_of_64 rfl (hR _ _ (Option.some.inj hf).symm)
      replace hf := if_f hc9 hf
      by_cases hc12 : v2 = 2
      · replace hf := if_t hc12 hf
        refine ex_tableIn (off := 43) (tgt := 65) dX11_of_22 (by rw [hc12]; decide) (by rw [hc12]; decide) (by rw [hc12]; decide) (by decide) ?_
        refine ex_aload_n 0 (pc' := 66) dX11_of_65 rfl rfl rfl ?_
        refine ex_iload_n 1 (pc' := 67) dX11_of_66 rfl rfl rfl ?_
        obtain ⟨r13, hq14, hf⟩ := of_bnd1 hf
        refine ex_callV_i (rm' := rmX11_isSteps) (st := []) (pc' := 70) [.int v1] dX11_of_67 cl_X11_203 (k_X11_isSteps G hO hq14) rfl (sh11_k hO) ⟨_, _, rfl⟩ rfl rfl (ROOM_of rfl) (Nat.le_of_ble_eq_true rfl) rfl rfl ?_
        refine ex_ifeq (tgt := 77) (pc' := 73) dX11_of_70 (by decide) rfl (fun hc15 => ?_) (fun hc15 => ?_)
        · replace hf := if_t hc15 hf
          refine ex_iconst (v := 0) (pc' := 78) dX11_of_77 ic_0 rfl ?_
          exact ex_iret dX11_of_78 rfl (hR _ _ (Option.some.inj hf).symm)
        · replace hf := if_f hc15 hf
          refine ex_iconst (v := 1) (pc' := 74) dX11_of_73 ic_1 rfl ?_
          refine ex_goto (tgt := 78) dX11_of_74 (by decide) ?_
          exact ex_iret dX11_of_78 rfl (hR _ _ (Option.some.inj hf).symm)
      replace hf := if_f hc12 hf
      by_cases hc16 : v2 = 3
      · replace hf := if_t hc16 hf
        refine ex_tableIn (off := 57) (tgt := 79) dX11_of_22 (by rw [hc16]; decide) (by rw [hc16]; decide) (by rw [hc16]; decide) (by decide) ?_
        refine ex_aload_n 0 (pc' := 80) dX11_of_79 rfl rfl rfl ?_
        refine ex_iload_n 1 (pc' := 81) dX11_of_80 rfl rfl rfl ?_
        obtain ⟨r17, I18, hq19, hf⟩ := of_bnd2 hf
        refine ex_callV_i (rm' := rmX11_numberOf) (st := []) (pc' := 84) [.int v1] dX11_of_81 cl_X11_220 (k_X11_numberOf G hO hq19) rfl (sh11_k hO) ⟨_, _, rfl⟩ rfl rfl (ROOM_of rfl) (Nat.le_of_ble_eq_true rfl) rfl rfl ?_
        exact ex_iret dX11_of_84 rfl (hR _ _ (Option.some.inj hf).symm)
      replace hf := if_f hc16 hf
      have hc7t := lv_neT (a := 0) hc7 (by decide)
      have hc9t := lv_neT (a := 1) hc9 (by decide)
      have hc12t := lv_neT (a := 2) hc12 (by decide)
      have hc16t := lv_neT (a := 3) hc16 (by decide)
      refine ex_tableOut (tgt := 85) dX11_of_22 (by omega) (by decide) ?_
      refine ex_aload_n 0 (pc' := 86) dX11_of_85 rfl rfl rfl ?_
      refine ex_iload_n 1 (pc' := 87) dX11_of_86 rfl rfl rfl ?_
      obtain ⟨I20, hq21, hf⟩ := of_bnd1 hf
      refine ex_callV_v (rm' := rmX11_layCounts) (st := []) (pc' := 90) [.int v1] dX11_of_87 cl_X11_193 (k_X11_layCounts G hO hq21) rfl (sh11_k hO) ⟨_, _, rfl⟩ rfl rfl (ROOM_of rfl) (Nat.le_of_ble_eq_true rfl) rfl rfl ?_
      refine ex_bipush (v := 6) (pc' := 92) dX11_of_90 bp_6 rfl ?_
      refine ex_istore_n (lv' := [(3, .int 6), (0, .ref (gB G + 99)), (1, .int v1), (2, .int v2)]) (pc' := 93) dX11_of_92 rfl (Nat.le_of_ble_eq_true rfl) rfl rfl ?_
      refine ex_sub (lv' := [(0, .ref (gB G + 99)), (3, .int 6)]) [1, 0] rfl ?_
      obtain ⟨x24, hq25, hf⟩ := of_bnd1 hf
      refine k_X11_of_l93 hO (fun x24' he => ?_) _ _ hq25
      cases he
      refine ex_iload_n 0 (pc' := 109) dX11_of_108 rfl rfl rfl ?_
      exact ex_iret dX11_of_109 rfl (hR _ _ (Option.some.inj hf).symm)
set_option maxRecDepth 100000 in
set_option maxHeartbeats 4000000 in
theorem k_X11_of (G : GX) {X : MX} (hO : shX11 X) {v1 : Int32} {v2 : Int32}  {N : Nat} {I : MI} {L : ML} {z : Int32} {I' : MI} (hf : f_X11_of N v1 v2 I = some (z, I')) : Con G mX11_of yX11_of rmX11_of (fun B => [.ref (B + 99), .int v1, .int v2]) X I L (some (.int z)) X I' L :=
  Con.of (by decide) rfl (fun h => by cases h) (fun B => Nat.le_of_ble_eq_true rfl) (fun G => kb_X11_of hO  hf (fun _ _ he => by cases he; rfl))
-- X11_order ('RookWordsModel', 'order', '(II)J')
def rmX11_order : RM := ((2, 45, 0, 0), false, (some FieldType.long))
def f_X11_order (N : Nat) (v1 : Int32) (v2 : Int32) (I : MI) (L : ML) : Option (Int64 × ML) := bnd1 (f_X11_isSix v1) fun r1 => (if r1 = 0 then some ((-9223372036854775808), L) else (if v2 < 0 then some ((-9223372036854775808), L) else bnd1 (f_X11_layOrders N v1 I L) fun L5 => (if v2 < 14 then if inb v2 14 then some (L5 124 (Int32.toNatClampNeg v2), L5) else none else some (0, L5))))
set_option maxRecDepth 100000 in
set_option maxHeartbeats 4000000 in
theorem kb_X11_order {G : GX} {Q : State → Prop} {X : MX} (hO : shX11 X) {v1 : Int32} {v2 : Int32}  {N : Nat} {I : MI} {L : ML} {out : Int64 × ML} (hf : f_X11_order N v1 v2 I L = some out) (hR : ∀ (z : Int64) (L' : ML), out = (z, L') → Q = RetQ G (some (.long z)) X I L' (0, 0)) : Ex G mX11_order rmX11_order Q (0, 0) X I L 0 [(0, .ref (gB G + 99)), (1, .int v1), (2, .int v2)] [] := by
  unfold f_X11_order at hf
  refine ex_iload_n 1 (pc' := 1) dX11_order_0 rfl rfl rfl ?_
  obtain ⟨r1, hq2, hf⟩ := of_bnd1 hf
  refine ex_callS_i (rm' := rmX11_isSix) (st := []) (pc' := 4) [.int v1] dX11_order_1 cl_X11_133 (k_X11_isSix G hq2) rfl rfl rfl (ROOM_of rfl) (Nat.le_of_ble_eq_true rfl) rfl rfl ?_
  refine ex_ifeq (tgt := 11) (pc' := 7) dX11_order_4 (by decide) rfl (fun hc3 => ?_) (fun hc3 => ?_)
  · replace hf := if_t hc3 hf
    refine ex_ldc2 (v := (-9223372036854775808)) (pc' := 14) dX11_order_11 co_X11_149 rfl ?_
    exact ex_lret dX11_order_14 rfl (hR _ _ (Option.some.inj hf).symm)
  · replace hf := if_f hc3 hf
    refine ex_iload_n 2 (pc' := 8) dX11_order_7 rfl rfl rfl ?_
    refine ex_ifge (tgt := 15) (pc' := 11) dX11_order_8 (by decide) rfl (fun hc4 => ?_) (fun hc4 => ?_)
    · replace hf := if_t hc4 hf
      refine ex_ldc2 (v := (-9223372036854775808)) (pc' := 14) dX11_order_11 co_X11_149 rfl ?_
      exact ex_lret dX11_order_14 rfl (hR _ _ (Option.some.inj hf).symm)
    · replace hf := if_f hc4 hf
      refine ex_aload_n 0 (pc' := 16) dX11_order_15 rfl rfl rfl ?_
      refine ex_iload_n 1 (pc' := 17) dX11_order_16 rfl rfl rfl ?_
      obtain ⟨L5, hq6, hf⟩ := of_bnd1 hf
      refine ex_callV_v (rm' := rmX11_layOrders) (st := []) (pc' := 20) [.int v1] dX11_order_17 cl_X11_151 (k_X11_layOrders G hO hq6) rfl (sh11_k hO) ⟨_, _, rfl⟩ rfl rfl (ROOM_of rfl) (Nat.le_of_ble_eq_true rfl) rfl rfl ?_
      refine ex_iload_n 2 (pc' := 21) dX11_order_20 rfl rfl rfl ?_
      refine ex_bipush (v := 14) (pc' := 23) dX11_order_21 bp_14 rfl ?_
      refine ex_icmpge (tgt := 35) (pc' := 26) dX11_order_23 (by decide) rfl (fun hc7 => ?_) (fun hc7 => ?_)
      · replace hf := if_t hc7 hf
        refine ex_aload_n 0 (pc' := 27) dX11_order_26 rfl rfl rfl ?_
        refine ex_getR (pc' := 30) dX11_order_27 fl_X11_85 rfl (sh11_k hO) (sh11_F30 hO) rfl ?_
        refine ex_iload_n 2 (pc' := 31) dX11_order_30 rfl rfl rfl ?_
        obtain ⟨hg8, hf⟩ := of_guard hf
        refine ex_lald (pc' := 32) dX11_order_31 (sh11_T30 hO) (inb_in hg8) rfl ?_
        refine ex_goto (tgt := 36) dX11_order_32 (by decide) ?_
        exact ex_lret dX11_order_36 rfl (hR _ _ (Option.some.inj hf).symm)
      · replace hf := if_f hc7 hf
        refine ex_lconst (v := 0) (pc' := 36) dX11_order_35 lc_0 rfl ?_
        exact ex_lret dX11_order_36 rfl (hR _ _ (Option.some.inj hf).symm)
set_option maxRecDepth 100000 in
set_option maxHeartbeats 4000000 in
theorem k_X11_order (G : GX) {X : MX} (hO : shX11 X) {v1 : Int32} {v2 : Int32}  {N : Nat} {I : MI} {L : ML} {z : Int64} {L' : ML} (hf : f_X11_order N v1 v2 I L = some (z, L')) : Con G mX11_order yX11_order rmX11_order (fun B => [.ref (B + 99), .int v1, .int v2]) X I L (some (.long z)) X I L' :=
  Con.of (by decide) rfl (fun h => by cases h) (fun B => Nat.le_of_ble_eq_true rfl) (fun G => kb_X11_order hO  hf (fun _ _ he => by cases he; rfl))
-- X11_other ('RookWordsModel', 'other', '(I)I')
def rmX11_other : RM := ((2, 45, 0, 0), false, (some FieldType.int))
def f_X11_other_b11 (N : Nat) (v1 : Int32) (v2 : Int32) (I : MI) : Option ((Int32 × MI) ⊕ (MI)) := if inb v1 6 then (if v2 < (I 103 (Int32.toNatClampNeg v1)) then if inb ((6 * v1) + v2) 36 then if inb v1 6 then if inb ((6 * v1) + v2) 36 then letv (upI I 104 (Int32.toNatClampNeg ((6 * v1) + v2)) ((I 104 (Int32.toNatClampNeg ((6 * v1) + v2))) ^^^ ((jshl 1 (I 103 (Int32.toNatClampNeg v1))) - 1))) fun I9 => some (.inl (v2 + 1, I9)) else none else none else none else some (.inr I)) else none
set_option maxRecDepth 100000 in
set_option maxHeartbeats 4000000 in
theorem k_X11_other_b11 {G : GX} {Q : State → Prop} {X : MX} (hO : shX11 X) {v1 : Int32}  {v2 : Int32} {N : Nat} {I : MI} {L : ML} {out : (Int32 × MI) ⊕ (MI)} (hf : f_X11_other_b11 N v1 v2 I = some out) (hC : ∀ (v2' : Int32) (I' : MI), out = .inl (v2', I') → Ex G mX11_other rmX11_other Q (0, 0) X I' L 11 [(0, .ref (gB G + 99)), (1, .int v1), (2, .int v2')] []) (hX : ∀ (I' : MI), out = .inr I' → Ex G mX11_other rmX11_other Q (0, 0) X I' L 51 [(0, .ref (gB G + 99)), (1, .int v1)] []) : Ex G mX11_other rmX11_other Q (0, 0) X I L 11 [(0, .ref (gB G + 99)), (1, .int v1), (2, .int v2)] [] := by
  unfold f_X11_other_b11 at hf
  refine ex_iload_n 2 (pc' := 12) dX11_other_11 rfl rfl rfl ?_
  refine ex_aload_n 0 (pc' := 13) dX11_other_12 rfl rfl rfl ?_
  refine ex_getR (pc' := 16) dX11_other_13 fl_X11_22 rfl (sh11_k hO) (sh11_F3 hO) rfl ?_
  refine ex_iload_n 1 (pc' := 17) dX11_other_16 rfl rfl rfl ?_
  obtain ⟨hg4, hf⟩ := of_guard hf
  refine ex_iald (pc' := 18) dX11_other_17 (sh11_T3 hO) (inb_in hg4) rfl ?_
  refine ex_icmpge (tgt := 51) (pc' := 21) dX11_other_18 (by decide) rfl (fun hc5 => ?_) (fun hc5 => ?_)
  · replace hf := if_t hc5 hf
    refine ex_aload_n 0 (pc' := 22) dX11_other_21 rfl rfl rfl ?_
    refine ex_getR (pc' := 25) dX11_other_22 fl_X11_25 rfl (sh11_k hO) (sh11_F4 hO) rfl ?_
    refine ex_bipush (v := 6) (pc' := 27) dX11_other_25 bp_6 rfl ?_
    refine ex_iload_n 1 (pc' := 28) dX11_other_27 rfl rfl rfl ?_
    refine ex_imul (pc' := 29) dX11_other_28 rfl ?_
    refine ex_iload_n 2 (pc' := 30) dX11_other_29 rfl rfl rfl ?_
    refine ex_iadd (pc' := 31) dX11_other_30 rfl ?_
    refine ex_dup2 (pc' := 32) dX11_other_31 rfl rfl rfl ?_
    obtain ⟨hg6, hf⟩ := of_guard hf
    refine ex_iald (pc' := 33) dX11_other_32 (sh11_T4 hO) (inb_in hg6) rfl ?_
    refine ex_iconst (v := 1) (pc' := 34) dX11_other_33 ic_1 rfl ?_
    refine ex_aload_n 0 (pc' := 35) dX11_other_34 rfl rfl rfl ?_
    refine ex_getR (pc' := 38) dX11_other_35 fl_X11_22 rfl (sh11_k hO) (sh11_F3 hO) rfl ?_
    refine ex_iload_n 1 (pc' := 39) dX11_other_38 rfl rfl rfl ?_
    obtain ⟨hg7, hf⟩ := of_guard hf
    refine ex_iald (pc' := 40) dX11_other_39 (sh11_T3 hO) (inb_in hg7) rfl ?_
    refine ex_ishl (pc' := 41) dX11_other_40 rfl ?_
    refine ex_iconst (v := 1) (pc' := 42) dX11_other_41 ic_1 rfl ?_
    refine ex_isub (pc' := 43) dX11_other_42 rfl ?_
    refine ex_ixor (pc' := 44) dX11_other_43 rfl ?_
    obtain ⟨hg8, hf⟩ := of_guard hf
    refine ex_iast (pc' := 45) dX11_other_44 (sh11_T4 hO) (inb_in hg8) rfl ?_
    obtain ⟨I9, hI9, hf⟩ := of_let hf
    rw [← hI9]
    refine ex_iincc (lv' := [(2, .int (v2 + 1)), (0, .ref (gB G + 99)), (1, .int v1)]) 2 (pc' := 48) dX11_other_45 rfl ic_1 (Nat.le_of_ble_eq_true rfl) rfl rfl ?_
    refine ex_goto (tgt := 11) dX11_other_48 (by decide) ?_
    exact ex_sub [1, 2, 0] rfl (hC _ _ (Option.some.inj hf).symm)
  · replace hf := if_f hc5 hf
    exact ex_sub [0, 1] rfl (hX _ (Option.some.inj hf).symm)
def f_X11_other_l11 (N : Nat) (v1 : Int32) (v2 : Int32) (I : MI) : Option (MI) := loopN (fun s => f_X11_other_b11 N v1 s.1 s.2) N (v2, I)
set_option maxRecDepth 100000 in
set_option maxHeartbeats 4000000 in
theorem k_X11_other_l11 {G : GX} {Q : State → Prop} {X : MX} (hO : shX11 X) {v1 : Int32}  {N0 : Nat} {L : ML} {out : (MI)} (hX : ∀ (I' : MI), out = I' → Ex G mX11_other rmX11_other Q (0, 0) X I' L 51 [(0, .ref (gB G + 99)), (1, .int v1)] []) : ∀ (N : Nat) (v2 : Int32) (I : MI), loopN (fun s => f_X11_other_b11 N0 v1 s.1 s.2) N (v2, I) = some out → Ex G mX11_other rmX11_other Q (0, 0) X I L 11 [(0, .ref (gB G + 99)), (1, .int v1), (2, .int v2)] [] := by
  intro N
  induction N with
  | zero => intro v2 I hf; exact absurd (loopN_zero hf) id
  | succ n ih =>
    intro v2 I hf
    rcases loopN_succ hf with ⟨s, hb, hl⟩ | hb
    · obtain ⟨v2', I'⟩ := s
      refine k_X11_other_b11 hO  hb (fun _ _ he => ?_) (fun _ he => by cases he)
      cases he
      exact ih v2' I' hl
    · exact k_X11_other_b11 hO  hb (fun _ _ he => by cases he) (fun x0 he => hX x0 (Sum.inr.inj he))
def f_X11_other (N : Nat) (v1 : Int32) (I : MI) : Option (Int32 × MI) := bnd1 (f_X11_isSix v1) fun r1 => (if r1 = 0 then some ((-1), I) else bnd1 (f_X11_other_l11 N v1 0 I) fun I10 => letv (upI I10 99 9 0) fun I12 => bnd1 (f_X11_cells N v1 I12) fun r13 => some (r13, I12))
set_option maxRecDepth 100000 in
set_option maxHeartbeats 4000000 in
theorem kb_X11_other {G : GX} {Q : State → Prop} {X : MX} (hO : shX11 X) {v1 : Int32}  {N : Nat} {I : MI} {L : ML} {out : Int32 × MI} (hf : f_X11_other N v1 I = some out) (hR : ∀ (z : Int32) (I' : MI), out = (z, I') → Q = RetQ G (some (.int z)) X I' L (0, 0)) : Ex G mX11_other rmX11_other Q (0, 0) X I L 0 [(0, .ref (gB G + 99)), (1, .int v1)] [] := by
  unfold f_X11_other at hf
  refine ex_iload_n 1 (pc' := 1) dX11_other_0 rfl rfl rfl ?_
  obtain ⟨r1, hq2, hf⟩ := of_bnd1 hf
  refine ex_callS_i (rm' := rmX11_isSix) (st := []) (pc' := 4) [.int v1] dX11_other_1 cl_X11_133 (k_X11_isSix G hq2) rfl rfl rfl (ROOM_of rfl) (Nat.le_of_ble_eq_true rfl) rfl rfl ?_
  refine ex_ifne (tgt := 9) (pc' := 7) dX11_other_4 (by decide) rfl (fun hc3 => ?_) (fun hc3 => ?_)
  · replace hf := if_t hc3 hf
    refine ex_iconst (v := (-1)) (pc' := 8) dX11_other_7 ic_m1 rfl ?_
    exact ex_iret dX11_other_8 rfl (hR _ _ (Option.some.inj hf).symm)
  · replace hf := if_f hc3 hf
    refine ex_iconst (v := 0) (pc' := 10) dX11_other_9 ic_0 rfl ?_
    refine ex_istore_n (lv' := [(2, .int 0), (0, .ref (gB G + 99)), (1, .int v1)]) (pc' := 11) dX11_other_10 rfl (Nat.le_of_ble_eq_true rfl) rfl rfl ?_
    refine ex_sub (lv' := [(0, .ref (gB G + 99)), (1, .int v1), (2, .int 0)]) [1, 2, 0] rfl ?_
    obtain ⟨I10, hq11, hf⟩ := of_bnd1 hf
    refine k_X11_other_l11 hO (fun I10' he => ?_) _ _ _ hq11
    cases he
    refine ex_aload_n 0 (pc' := 52) dX11_other_51 rfl rfl rfl ?_
    refine ex_iconst (v := 0) (pc' := 53) dX11_other_52 ic_0 rfl ?_
    refine ex_putI (pc' := 56) dX11_other_53 fl_X11_175 rfl (sh11_k hO) rfl ?_
    obtain ⟨I12, hI12, hf⟩ := of_let hf
    rw [← hI12]
    refine ex_aload_n 0 (pc' := 57) dX11_other_56 rfl rfl rfl ?_
    refine ex_iload_n 1 (pc' := 58) dX11_other_57 rfl rfl rfl ?_
    obtain ⟨r13, hq14, hf⟩ := of_bnd1 hf
    refine ex_callV_i (rm' := rmX11_cells) (st := []) (pc' := 61) [.int v1] dX11_other_58 cl_X11_186 (k_X11_cells G hO hq14) rfl (sh11_k hO) ⟨_, _, rfl⟩ rfl rfl (ROOM_of rfl) (Nat.le_of_ble_eq_true rfl) rfl rfl ?_
    exact ex_iret dX11_other_61 rfl (hR _ _ (Option.some.inj hf).symm)
set_option maxRecDepth 100000 in
set_option maxHeartbeats 4000000 in
theorem k_X11_other (G : GX) {X : MX} (hO : shX11 X) {v1 : Int32}  {N : Nat} {I : MI} {L : ML} {z : Int32} {I' : MI} (hf : f_X11_other N v1 I = some (z, I')) : Con G mX11_other yX11_other rmX11_other (fun B => [.ref (B + 99), .int v1]) X I L (some (.int z)) X I' L :=
  Con.of (by decide) rfl (fun h => by cases h) (fun B => Nat.le_of_ble_eq_true rfl) (fun G => kb_X11_other hO  hf (fun _ _ he => by cases he; rfl))
-- X11_paper ('RookWordsModel', 'paper', '(I)I')
def rmX11_paper : RM := ((1, 25, 0, 0), false, (some FieldType.int))
def f_X11_paper (v1 : Int32) (I : MI) : Option (Int32) := bnd1 (f_X11_in (Int32.toInt64 v1) 0 (Int32.toInt64 ((I 99 15) - 1))) fun r1 => (if r1 = 0 then some (-1) else if inb v1 24 then some (I 112 (Int32.toNatClampNeg v1)) else none)
set_option maxRecDepth 100000 in
set_option maxHeartbeats 4000000 in
theorem kb_X11_paper {G : GX} {Q : State → Prop} {X : MX} (hO : shX11 X) {v1 : Int32}  {I : MI} {L : ML} {out : Int32} (hf : f_X11_paper v1 I = some out) (hR : ∀ (z : Int32), out = z → Q = RetQ G (some (.int z)) X I L (0, 0)) : Ex G mX11_paper rmX11_paper Q (0, 0) X I L 0 [(0, .ref (gB G + 99)), (1, .int v1)] [] := by
  unfold f_X11_paper at hf
  refine ex_iload_n 1 (pc' := 1) dX11_paper_0 rfl rfl rfl ?_
  refine ex_i2l (pc' := 2) dX11_paper_1 rfl ?_
  refine ex_lconst (v := 0) (pc' := 3) dX11_paper_2 lc_0 rfl ?_
  refine ex_aload_n 0 (pc' := 4) dX11_paper_3 rfl rfl rfl ?_
  refine ex_getI (pc' := 7) dX11_paper_4 fl_X11_310 rfl (sh11_k hO) rfl ?_
  refine ex_iconst (v := 1) (pc' := 8) dX11_paper_7 ic_1 rfl ?_
  refine ex_isub (pc' := 9) dX11_paper_8 rfl ?_
  refine ex_i2l (pc' := 10) dX11_paper_9 rfl ?_
  obtain ⟨r1, hq2, hf⟩ := of_bnd1 hf
  refine ex_callS_i (rm' := rmX11_in) (st := []) (pc' := 13) [.long (Int32.toInt64 v1), .long 0, .long (Int32.toInt64 ((I 99 15) - 1))] dX11_paper_10 cl_X11_129 (k_X11_in G hq2) rfl rfl rfl (ROOM_of rfl) (Nat.le_of_ble_eq_true rfl) rfl rfl ?_
  refine ex_ifeq (tgt := 25) (pc' := 16) dX11_paper_13 (by decide) rfl (fun hc3 => ?_) (fun hc3 => ?_)
  · replace hf := if_t hc3 hf
    refine ex_iconst (v := (-1)) (pc' := 26) dX11_paper_25 ic_m1 rfl ?_
    exact ex_iret dX11_paper_26 rfl (hR _ (Option.some.inj hf).symm)
  · replace hf := if_f hc3 hf
    refine ex_aload_n 0 (pc' := 17) dX11_paper_16 rfl rfl rfl ?_
    refine ex_getR (pc' := 20) dX11_paper_17 fl_X11_49 rfl (sh11_k hO) (sh11_F16 hO) rfl ?_
    refine ex_iload_n 1 (pc' := 21) dX11_paper_20 rfl rfl rfl ?_
    obtain ⟨hg4, hf⟩ := of_guard hf
    refine ex_iald (pc' := 22) dX11_paper_21 (sh11_T16 hO) (inb_in hg4) rfl ?_
    refine ex_goto (tgt := 26) dX11_paper_22 (by decide) ?_
    exact ex_iret dX11_paper_26 rfl (hR _ (Option.some.inj hf).symm)
set_option maxRecDepth 100000 in
set_option maxHeartbeats 4000000 in
theorem k_X11_paper (G : GX) {X : MX} (hO : shX11 X) {v1 : Int32}  {I : MI} {L : ML} {z : Int32} (hf : f_X11_paper v1 I = some z) : Con G mX11_paper yX11_paper rmX11_paper (fun B => [.ref (B + 99), .int v1]) X I L (some (.int z)) X I L :=
  Con.of (by decide) rfl (fun h => by cases h) (fun B => Nat.le_of_ble_eq_true rfl) (fun G => kb_X11_paper hO  hf (fun _ he => by cases he; rfl))
-- X11_peek ('RookWordsModel', 'peek', '(II)J')
def rmX11_peek : RM := ((2, 45, 0, 0), false, (some FieldType.long))
def f_X11_peek (v1 : Int32) (v2 : Int32) (I : MI) (L : ML) : Option (Int64) := bnd1 (f_X11_isSix v1) fun r1 => (if r1 = 0 then some (-9223372036854775808) else if inb v1 6 then (if (I 113 (Int32.toNatClampNeg v1)) < 0 then some (-9223372036854775808) else if inb v1 6 then bnd1 (f_X11_in (Int32.toInt64 v2) 0 (Int32.toInt64 ((I 114 (Int32.toNatClampNeg v1)) - 1))) fun r7 => (if r7 = 0 then some (-9223372036854775808) else if inb ((60 * v1) + v2) 360 then some (L 115 (Int32.toNatClampNeg ((60 * v1) + v2))) else none) else none) else none)
set_option maxRecDepth 100000 in
set_option maxHeartbeats 4000000 in
theorem kb_X11_peek {G : GX} {Q : State → Prop} {X : MX} (hO : shX11 X) {v1 : Int32} {v2 : Int32}  {I : MI} {L : ML} {out : Int64} (hf : f_X11_peek v1 v2 I L = some out) (hR : ∀ (z : Int64), out = z → Q = RetQ G (some (.long z)) X I L (0, 0)) : Ex G mX11_peek rmX11_peek Q (0, 0) X I L 0 [(0, .ref (gB G + 99)), (1, .int v1), (2, .int v2)] [] := by
  unfold f_X11_peek at hf
  refine ex_iload_n 1 (pc' := 1) dX11_peek_0 rfl rfl rfl ?_
  obtain ⟨r1, hq2, hf⟩ := of_bnd1 hf
  refine ex_callS_i (rm' := rmX11_isSix) (st := []) (pc' := 4) [.int v1] dX11_peek_1 cl_X11_133 (k_X11_isSix G hq2) rfl rfl rfl (ROOM_of rfl) (Nat.le_of_ble_eq_true rfl) rfl rfl ?_
  refine ex_ifeq (tgt := 48) (pc' := 7) dX11_peek_4 (by decide) rfl (fun hc3 => ?_) (fun hc3 => ?_)
  · replace hf := if_t hc3 hf
    refine ex_ldc2 (v := (-9223372036854775808)) (pc' := 51) dX11_peek_48 co_X11_149 rfl ?_
    exact ex_lret dX11_peek_51 rfl (hR _ (Option.some.inj hf).symm)
  · replace hf := if_f hc3 hf
    refine ex_aload_n 0 (pc' := 8) dX11_peek_7 rfl rfl rfl ?_
    refine ex_getR (pc' := 11) dX11_peek_8 fl_X11_52 rfl (sh11_k hO) (sh11_F17 hO) rfl ?_
    refine ex_iload_n 1 (pc' := 12) dX11_peek_11 rfl rfl rfl ?_
    obtain ⟨hg4, hf⟩ := of_guard hf
    refine ex_iald (pc' := 13) dX11_peek_12 (sh11_T17 hO) (inb_in hg4) rfl ?_
    refine ex_iflt (tgt := 48) (pc' := 16) dX11_peek_13 (by decide) rfl (fun hc5 => ?_) (fun hc5 => ?_)
    · replace hf := if_t hc5 hf
      refine ex_ldc2 (v := (-9223372036854775808)) (pc' := 51) dX11_peek_48 co_X11_149 rfl ?_
      exact ex_lret dX11_peek_51 rfl (hR _ (Option.some.inj hf).symm)
    · replace hf := if_f hc5 hf
      refine ex_iload_n 2 (pc' := 17) dX11_peek_16 rfl rfl rfl ?_
      refine ex_i2l (pc' := 18) dX11_peek_17 rfl ?_
      refine ex_lconst (v := 0) (pc' := 19) dX11_peek_18 lc_0 rfl ?_
      refine ex_aload_n 0 (pc' := 20) dX11_peek_19 rfl rfl rfl ?_
      refine ex_getR (pc' := 23) dX11_peek_20 fl_X11_55 rfl (sh11_k hO) (sh11_F18 hO) rfl ?_
      refine ex_iload_n 1 (pc' := 24) dX11_peek_23 rfl rfl rfl ?_
      obtain ⟨hg6, hf⟩ := of_guard hf
      refine ex_iald (pc' := 25) dX11_peek_24 (sh11_T18 hO) (inb_in hg6) rfl ?_
      refine ex_iconst (v := 1) (pc' := 26) dX11_peek_25 ic_1 rfl ?_
      refine ex_isub (pc' := 27) dX11_peek_26 rfl ?_
      refine ex_i2l (pc' := 28) dX11_peek_27 rfl ?_
      obtain ⟨r7, hq8, hf⟩ := of_bnd1 hf
      refine ex_callS_i (rm' := rmX11_in) (st := []) (pc' := 31) [.long (Int32.toInt64 v2), .long 0, .long (Int32.toInt64 ((I 114 (Int32.toNatClampNeg v1)) - 1))] dX11_peek_28 cl_X11_129 (k_X11_in G hq8) rfl rfl rfl (ROOM_of rfl) (Nat.le_of_ble_eq_true rfl) rfl rfl ?_
      refine ex_ifeq (tgt := 48) (pc' := 34) dX11_peek_31 (by decide) rfl (fun hc9 => ?_) (fun hc9 => ?_)
      · replace hf := if_t hc9 hf
        refine ex_ldc2 (v := (-9223372036854775808)) (pc' := 51) dX11_peek_48 co_X11_149 rfl ?_
        exact ex_lret dX11_peek_51 rfl (hR _ (Option.some.inj hf).symm)
      · replace hf := if_f hc9 hf
        refine ex_aload_n 0 (pc' := 35) dX11_peek_34 rfl rfl rfl ?_
        refine ex_getR (pc' := 38) dX11_peek_35 fl_X11_58 rfl (sh11_k hO) (sh11_F19 hO) rfl ?_
        refine ex_bipush (v := 60) (pc' := 40) dX11_peek_38 bp_60 rfl ?_
        refine ex_iload_n 1 (pc' := 41) dX11_peek_40 rfl rfl rfl ?_
        refine ex_imul (pc' := 42) dX11_peek_41 rfl ?_
        refine ex_iload_n 2 (pc' := 43) dX11_peek_42 rfl rfl rfl ?_
        refine ex_iadd (pc' := 44) dX11_peek_43 rfl ?_
        obtain ⟨hg10, hf⟩ := of_guard hf
        refine ex_lald (pc' := 45) dX11_peek_44 (sh11_T19 hO) (inb_in hg10) rfl ?_
        refine ex_goto (tgt := 51) dX11_peek_45 (by decide) ?_
        exact ex_lret dX11_peek_51 rfl (hR _ (Option.some.inj hf).symm)
set_option maxRecDepth 100000 in
set_option maxHeartbeats 4000000 in
theorem k_X11_peek (G : GX) {X : MX} (hO : shX11 X) {v1 : Int32} {v2 : Int32}  {I : MI} {L : ML} {z : Int64} (hf : f_X11_peek v1 v2 I L = some z) : Con G mX11_peek yX11_peek rmX11_peek (fun B => [.ref (B + 99), .int v1, .int v2]) X I L (some (.long z)) X I L :=
  Con.of (by decide) rfl (fun h => by cases h) (fun B => Nat.le_of_ble_eq_true rfl) (fun G => kb_X11_peek hO  hf (fun _ he => by cases he; rfl))
theorem fl_X11_121 : FLD RX11 121 11 49 true := ⟨RX11, TX11, 51, rfl, inX11, by decide, lwg_at 983 (by decide +kernel) rfl, nmX11, tyX11_ok, rfl, rfl⟩
theorem fl_X11_118 : FLD RX11 118 11 48 true := ⟨RX11, TX11, 51, rfl, inX11, by decide, lwg_at 982 (by decide +kernel) rfl, nmX11, tyX11_ok, rfl, rfl⟩
-- X11_textLetters ('RookWordsModel', 'textLetters', '()I')
def rmX11_textLetters : RM := ((1, 25, 0, 0), false, (some FieldType.int))
def f_X11_textLetters_b16_j226 (N : Nat) (v1 : Int32) (v2 : Int32) (v3 : Int32) (v4 : Int32) (v5 : Int32) (s0 : Int32) (I : MI) : Option ((Int32 × Int32 × Int32 × Int32 × MI) ⊕ ((Int32 × MI) ⊕ (Int32 × MI))) := (if v5 = 40 then some (.inl (v1, v2, v3, v4 + 1, I)) else (if s0 = 0 then if inb v2 5 then (if 12 < (v1 - (I 136 (Int32.toNatClampNeg v2))) then some (.inr (.inr ((-4), I))) else some (.inl (v1, v2, v3, v4 + 1, I))) else none else some (.inl (v1, v2, v3, v4 + 1, I))))
set_option maxRecDepth 100000 in
set_option maxHeartbeats 4000000 in
theorem k_X11_textLetters_b16_j226 {G : GX} {Q : State → Prop} {X : MX} (hO : shX11 X) {v1 : Int32} {v2 : Int32} {v3 : Int32} {v4 : Int32} {v5 : Int32} {s0 : Int32}   {N : Nat} {I : MI} {L : ML} {out : (Int32 × Int32 × Int32 × Int32 × MI) ⊕ ((Int32 × MI) ⊕ (Int32 × MI))} (hf : f_X11_textLetters_b16_j226 N v1 v2 v3 v4 v5 s0 I = some out) (hC : ∀ (v1' : Int32) (v2' : Int32) (v3' : Int32) (v4' : Int32) (I' : MI), out = .inl (v1', v2', v3', v4', I') → Ex G mX11_textLetters rmX11_textLetters Q (0, 0) X I' L 16 [(0, .ref (gB G + 99)), (1, .int v1'), (2, .int v2'), (3, .int v3'), (4, .int v4')] []) (hX : ∀ (w1 : Int32) (I' : MI), out = .inr (.inl (w1, I')) → Ex G mX11_textLetters rmX11_textLetters Q (0, 0) X I' L 262 [(1, .int w1)] []) (hR : ∀ (z : Int32) (I' : MI), out = .inr (.inr (z, I')) → Q = RetQ G (some (.int z)) X I' L (0, 0)) : Ex G mX11_textLetters rmX11_textLetters Q (0, 0) X I L 226 [(0, .ref (gB G + 99)), (1, .int v1), (2, .int v2), (3, .int v3), (4, .int v4), (5, .int v5)] [.int s0] := by
  unfold f_X11_textLetters_b16_j226 at hf
  refine ex_istore (lv' := [(6, .int s0), (0, .ref (gB G + 99)), (1, .int v1), (2, .int v2), (3, .int v3), (4, .int v4), (5, .int v5)]) (pc' := 228) dX11_textLetters_226 (Nat.le_of_ble_eq_true rfl) rfl rfl ?_
  refine ex_iload 6 (pc' := 230) dX11_textLetters_228 rfl rfl ?_
  refine ex_bipush (v := 40) (pc' := 232) dX11_textLetters_230 bp_40 rfl ?_
  refine ex_icmpeq (tgt := 256) (pc' := 235) dX11_textLetters_232 (by decide) rfl (fun hc13 => ?_) (fun hc13 => ?_)
  · replace hf := if_t hc13 hf
    refine ex_iincc (lv' := [(4, .int (v4 + 1)), (6, .int s0), (0, .ref (gB G + 99)), (1, .int v1), (2, .int v2), (3, .int v3), (5, .int v5)]) 5 (pc' := 259) dX11_textLetters_256 rfl ic_1 (Nat.le_of_ble_eq_true rfl) rfl rfl ?_
    refine ex_goto (tgt := 16) dX11_textLetters_259 (by decide) ?_
    exact ex_sub [2, 3, 4, 5, 0] rfl (hC _ _ _ _ _ (Option.some.inj hf).symm)
  · replace hf := if_f hc13 hf
    refine ex_iload 0 (pc' := 237) dX11_textLetters_235 rfl rfl ?_
    refine ex_ifne (tgt := 256) (pc' := 240) dX11_textLetters_237 (by decide) rfl (fun hc14 => ?_) (fun hc14 => ?_)
    · replace hf := if_t hc14 hf
      refine ex_iload_n 2 (pc' := 241) dX11_textLetters_240 rfl rfl rfl ?_
      refine ex_aload_n 1 (pc' := 242) dX11_textLetters_241 rfl rfl rfl ?_
      refine ex_getR (pc' := 245) dX11_textLetters_242 fl_X11_121 rfl (sh11_k hO) (sh11_F49 hO) rfl ?_
      refine ex_iload_n 3 (pc' := 246) dX11_textLetters_245 rfl rfl rfl ?_
      obtain ⟨hg15, hf⟩ := of_guard hf
      refine ex_iald (pc' := 247) dX11_textLetters_246 (sh11_T49 hO) (inb_in hg15) rfl ?_
      refine ex_isub (pc' := 248) dX11_textLetters_247 rfl ?_
      refine ex_bipush (v := 12) (pc' := 250) dX11_textLetters_248 bp_12 rfl ?_
      refine ex_icmple (tgt := 256) (pc' := 253) dX11_textLetters_250 (by decide) rfl (fun hc16 => ?_) (fun hc16 => ?_)
      · replace hf := if_t hc16 hf
        refine ex_bipush (v := (-4)) (pc' := 255) dX11_textLetters_253 bp_m4 rfl ?_
        exact ex_iret dX11_textLetters_255 rfl (hR _ _ (Option.some.inj hf).symm)
      · replace hf := if_f hc16 hf
        refine ex_iincc (lv' := [(4, .int (v4 + 1)), (6, .int s0), (0, .ref (gB G + 99)), (1, .int v1), (2, .int v2), (3, .int v3), (5, .int v5)]) 5 (pc' := 259) dX11_textLetters_256 rfl ic_1 (Nat.le_of_ble_eq_true rfl) rfl rfl ?_
        refine ex_goto (tgt := 16) dX11_textLetters_259 (by decide) ?_
        exact ex_sub [2, 3, 4, 5, 0] rfl (hC _ _ _ _ _ (Option.some.inj hf).symm)
    · replace hf := if_f hc14 hf
      refine ex_iincc (lv' := [(4, .int (v4 + 1)), (6, .int s0), (0, .ref (gB G + 99)), (1, .int v1), (2, .int v2), (3, .int v3), (5, .int v5)]) 5 (pc' := 259) dX11_textLetters_256 rfl ic_1 (Nat.le_of_ble_eq_true rfl) rfl rfl ?_
      refine ex_goto (tgt := 16) dX11_textLetters_259 (by decide) ?_
      exact ex_sub [2, 3, 4, 5, 0] rfl (hC _ _ _ _ _ (Option.some.inj hf).symm)
def f_X11_textLetters_b16_j225 (N : Nat) (v1 : Int32) (v2 : Int32) (v3 : Int32) (v4 : Int32) (v5 : Int32) (I : MI) : Option ((Int32 × Int32 × Int32 × Int32 × MI) ⊕ ((Int32 × MI) ⊕ (Int32 × MI))) := f_X11_textLetters_b16_j226 N v1 v2 v3 v4 v5 0 I
set_option maxRecDepth 100000 in
set_option maxHeartbeats 4000000 in
theorem k_X11_textLetters_b16_j225 {G : GX} {Q : State → Prop} {X : MX} (hO : shX11 X) {v1 : Int32} {v2 : Int32} {v3 : Int32} {v4 : Int32} {v5 : Int32}   {N : Nat} {I : MI} {L : ML} {out : (Int32 × Int32 × Int32 × Int32 × MI) ⊕ ((Int32 × MI) ⊕ (Int32 × MI))} (hf : f_X11_textLetters_b16_j225 N v1 v2 v3 v4 v5 I = some out) (hC : ∀ (v1' : Int32) (v2' : Int32) (v3' : Int32) (v4' : Int32) (I' : MI), out = .inl (v1', v2', v3', v4', I') → Ex G mX11_textLetters rmX11_textLetters Q (0, 0) X I' L 16 [(0, .ref (gB G + 99)), (1, .int v1'), (2, .int v2'), (3, .int v3'), (4, .int v4')] []) (hX : ∀ (w1 : Int32) (I' : MI), out = .inr (.inl (w1, I')) → Ex G mX11_textLetters rmX11_textLetters Q (0, 0) X I' L 262 [(1, .int w1)] []) (hR : ∀ (z : Int32) (I' : MI), out = .inr (.inr (z, I')) → Q = RetQ G (some (.int z)) X I' L (0, 0)) : Ex G mX11_textLetters rmX11_textLetters Q (0, 0) X I L 225 [(0, .ref (gB G + 99)), (1, .int v1), (2, .int v2), (3, .int v3), (4, .int v4), (5, .int v5)] [] := by
  unfold f_X11_textLetters_b16_j225 at hf
  refine ex_iconst (v := 0) (pc' := 226) dX11_textLetters_225 ic_0 rfl ?_
  refine ex_sub [0, 1, 2, 3, 4, 5] rfl (k_X11_textLetters_b16_j226 hO  hf hC hX hR)
def f_X11_textLetters_b16_j188 (N : Nat) (v1 : Int32) (v2 : Int32) (v3 : Int32) (v4 : Int32) (v5 : Int32) (I : MI) : Option ((Int32 × Int32 × Int32 × Int32 × MI) ⊕ ((Int32 × MI) ⊕ (Int32 × MI))) := (if (v4 + 1) < (I 99 13) then if inb (v4 + 1) 80 then bnd1 (f_X11_in (Int32.toInt64 (I 111 (Int32.toNatClampNeg (v4 + 1)))) 48 57) fun r10 => (if r10 = 0 then f_X11_textLetters_b16_j225 N v1 v2 v3 v4 v5 I else f_X11_textLetters_b16_j226 N v1 v2 v3 v4 v5 1 I) else none else f_X11_textLetters_b16_j225 N v1 v2 v3 v4 v5 I)
set_option maxRecDepth 100000 in
set_option maxHeartbeats 4000000 in
theorem k_X11_textLetters_b16_j188 {G : GX} {Q : State → Prop} {X : MX} (hO : shX11 X) {v1 : Int32} {v2 : Int32} {v3 : Int32} {v4 : Int32} {v5 : Int32}   {N : Nat} {I : MI} {L : ML} {out : (Int32 × Int32 × Int32 × Int32 × MI) ⊕ ((Int32 × MI) ⊕ (Int32 × MI))} (hf : f_X11_textLetters_b16_j188 N v1 v2 v3 v4 v5 I = some out) (hC : ∀ (v1' : Int32) (v2' : Int32) (v3' : Int32) (v4' : Int32) (I' : MI), out = .inl (v1', v2', v3', v4', I') → Ex G mX11_textLetters rmX11_textLetters Q (0, 0) X I' L 16 [(0, .ref (gB G + 99)), (1, .int v1'), (2, .int v2'), (3, .int v3'), (4, .int v4')] []) (hX : ∀ (w1 : Int32) (I' : MI), out = .inr (.inl (w1, I')) → Ex G mX11_textLetters rmX11_textLetters Q (0, 0) X I' L 262 [(1, .int w1)] []) (hR : ∀ (z : Int32) (I' : MI), out = .inr (.inr (z, I')) → Q = RetQ G (some (.int z)) X I' L (0, 0)) : Ex G mX11_textLetters rmX11_textLetters Q (0, 0) X I L 188 [(0, .ref (gB G + 99)), (1, .int v1), (2, .int v2), (3, .int v3), (4, .int v4), (5, .int v5)] [] := by
  unfold f_X11_textLetters_b16_j188 at hf
  refine ex_iload 4 (pc' := 190) dX11_textLetters_188 rfl rfl ?_
  refine ex_iconst (v := 1) (pc' := 191) dX11_textLetters_190 ic_1 rfl ?_
  refine ex_iadd (pc' := 192) dX11_textLetters_191 rfl ?_
  refine ex_aload_n 0 (pc' := 193) dX11_textLetters_192 rfl rfl rfl ?_
  refine ex_getI (pc' := 196) dX11_textLetters_193 fl_X11_297 rfl (sh11_k hO) rfl ?_
  refine ex_icmpge (tgt := 225) (pc' := 199) dX11_textLetters_196 (by decide) rfl (fun hc8 => ?_) (fun hc8 => ?_)
  · replace hf := if_t hc8 hf
    refine ex_aload_n 0 (pc' := 200) dX11_textLetters_199 rfl rfl rfl ?_
    refine ex_getR (pc' := 203) dX11_textLetters_200 fl_X11_46 rfl (sh11_k hO) (sh11_F14 hO) rfl ?_
    refine ex_iload 4 (pc' := 205) dX11_textLetters_203 rfl rfl ?_
    refine ex_iconst (v := 1) (pc' := 206) dX11_textLetters_205 ic_1 rfl ?_
    refine ex_iadd (pc' := 207) dX11_textLetters_206 rfl ?_
    obtain ⟨hg9, hf⟩ := of_guard hf
    refine ex_iald (pc' := 208) dX11_textLetters_207 (sh11_T14 hO) (inb_in hg9) rfl ?_
    refine ex_i2l (pc' := 209) dX11_textLetters_208 rfl ?_
    refine ex_ldc2 (v := 48) (pc' := 212) dX11_textLetters_209 co_X11_300 rfl ?_
    refine ex_ldc2 (v := 57) (pc' := 215) dX11_textLetters_212 co_X11_302 rfl ?_
    obtain ⟨r10, hq11, hf⟩ := of_bnd1 hf
    refine ex_callS_i (rm' := rmX11_in) (st := []) (pc' := 218) [.long (Int32.toInt64 (I 111 (Int32.toNatClampNeg (v4 + 1)))), .long 48, .long 57] dX11_textLetters_215 cl_X11_129 (k_X11_in G hq11) rfl rfl rfl (ROOM_of rfl) (Nat.le_of_ble_eq_true rfl) rfl rfl ?_
    refine ex_ifeq (tgt := 225) (pc' := 221) dX11_textLetters_218 (by decide) rfl (fun hc12 => ?_) (fun hc12 => ?_)
    · replace hf := if_t hc12 hf
      refine ex_sub [0, 1, 2, 3, 4, 5] rfl (k_X11_textLetters_b16_j225 hO  hf hC hX hR)
    · replace hf := if_f hc12 hf
      refine ex_iconst (v := 1) (pc' := 222) dX11_textLetters_221 ic_1 rfl ?_
      refine ex_goto (tgt := 226) dX11_textLetters_222 (by decide) ?_
      refine ex_sub [0, 1, 2, 3, 4, 5] rfl (k_X11_textLetters_b16_j226 hO  hf hC hX hR)
  · replace hf := if_f hc8 hf
    refine ex_sub [0, 1, 2, 3, 4, 5] rfl (k_X11_textLetters_b16_j225 hO  hf hC hX hR)
def f_X11_textLetters_b16_j107 (N : Nat) (v1 : Int32) (v2 : Int32) (v3 : Int32) (v4 : Int32) (v5 : Int32) (s0 : Int32) (s1 : Int32) (I : MI) : Option ((Int32 × Int32 × Int32 × Int32 × MI) ⊕ ((Int32 × MI) ⊕ (Int32 × MI))) := if inb s1 160 then letv (upI I 135 (Int32.toNatClampNeg s1) s0) fun I22 => f_X11_textLetters_b16_j188 N (v1 + 1) v2 v3 v4 v5 I22 else none
set_option maxRecDepth 100000 in
set_option maxHeartbeats 4000000 in
theorem k_X11_textLetters_b16_j107 {G : GX} {Q : State → Prop} {X : MX} (hO : shX11 X) {v1 : Int32} {v2 : Int32} {v3 : Int32} {v4 : Int32} {v5 : Int32} {s0 : Int32} {s1 : Int32}   {N : Nat} {I : MI} {L : ML} {out : (Int32 × Int32 × Int32 × Int32 × MI) ⊕ ((Int32 × MI) ⊕ (Int32 × MI))} (hf : f_X11_textLetters_b16_j107 N v1 v2 v3 v4 v5 s0 s1 I = some out) (hC : ∀ (v1' : Int32) (v2' : Int32) (v3' : Int32) (v4' : Int32) (I' : MI), out = .inl (v1', v2', v3', v4', I') → Ex G mX11_textLetters rmX11_textLetters Q (0, 0) X I' L 16 [(0, .ref (gB G + 99)), (1, .int v1'), (2, .int v2'), (3, .int v3'), (4, .int v4')] []) (hX : ∀ (w1 : Int32) (I' : MI), out = .inr (.inl (w1, I')) → Ex G mX11_textLetters rmX11_textLetters Q (0, 0) X I' L 262 [(1, .int w1)] []) (hR : ∀ (z : Int32) (I' : MI), out = .inr (.inr (z, I')) → Q = RetQ G (some (.int z)) X I' L (0, 0)) : Ex G mX11_textLetters rmX11_textLetters Q (0, 0) X I L 107 [(0, .ref (gB G + 99)), (1, .int v1), (2, .int v2), (3, .int v3), (4, .int v4), (5, .int v5)] [.int s0, .int s1, .ref (gB G + 135)] := by
  unfold f_X11_textLetters_b16_j107 at hf
  obtain ⟨hg21, hf⟩ := of_guard hf
  refine ex_iast (pc' := 108) dX11_textLetters_107 (sh11_T48 hO) (inb_in hg21) rfl ?_
  obtain ⟨I22, hI22, hf⟩ := of_let hf
  rw [← hI22]
  refine ex_iincc (lv' := [(1, .int (v1 + 1)), (0, .ref (gB G + 99)), (2, .int v2), (3, .int v3), (4, .int v4), (5, .int v5)]) 1 (pc' := 111) dX11_textLetters_108 rfl ic_1 (Nat.le_of_ble_eq_true rfl) rfl rfl ?_
  refine ex_goto (tgt := 188) dX11_textLetters_111 (by decide) ?_
  refine ex_sub [1, 0, 2, 3, 4, 5] rfl (k_X11_textLetters_b16_j188 hO  hf hC hX hR)
def f_X11_textLetters_b16_j88 (N : Nat) (v1 : Int32) (v2 : Int32) (v4 : Int32) (v5 : Int32) (I : MI) : Option ((Int32 × Int32 × Int32 × Int32 × MI) ⊕ ((Int32 × MI) ⊕ (Int32 × MI))) := (if v5 = 85 then f_X11_textLetters_b16_j107 N v1 v2 v1 v4 v5 0 v1 I else f_X11_textLetters_b16_j107 N v1 v2 v1 v4 v5 1 v1 I)
set_option maxRecDepth 100000 in
set_option maxHeartbeats 4000000 in
theorem k_X11_textLetters_b16_j88 {G : GX} {Q : State → Prop} {X : MX} (hO : shX11 X) {v1 : Int32} {v2 : Int32} {v4 : Int32} {v5 : Int32}   {N : Nat} {I : MI} {L : ML} {out : (Int32 × Int32 × Int32 × Int32 × MI) ⊕ ((Int32 × MI) ⊕ (Int32 × MI))} (hf : f_X11_textLetters_b16_j88 N v1 v2 v4 v5 I = some out) (hC : ∀ (v1' : Int32) (v2' : Int32) (v3' : Int32) (v4' : Int32) (I' : MI), out = .inl (v1', v2', v3', v4', I') → Ex G mX11_textLetters rmX11_textLetters Q (0, 0) X I' L 16 [(0, .ref (gB G + 99)), (1, .int v1'), (2, .int v2'), (3, .int v3'), (4, .int v4')] []) (hX : ∀ (w1 : Int32) (I' : MI), out = .inr (.inl (w1, I')) → Ex G mX11_textLetters rmX11_textLetters Q (0, 0) X I' L 262 [(1, .int w1)] []) (hR : ∀ (z : Int32) (I' : MI), out = .inr (.inr (z, I')) → Q = RetQ G (some (.int z)) X I' L (0, 0)) : Ex G mX11_textLetters rmX11_textLetters Q (0, 0) X I L 88 [(0, .ref (gB G + 99)), (1, .int v1), (2, .int v2), (4, .int v4), (5, .int v5)] [] := by
  unfold f_X11_textLetters_b16_j88 at hf
  refine ex_iload_n 1 (pc' := 89) dX11_textLetters_88 rfl rfl rfl ?_
  refine ex_istore_n (lv' := [(3, .int v1), (0, .ref (gB G + 99)), (1, .int v1), (2, .int v2), (4, .int v4), (5, .int v5)]) (pc' := 90) dX11_textLetters_89 rfl (Nat.le_of_ble_eq_true rfl) rfl rfl ?_
  refine ex_aload_n 1 (pc' := 91) dX11_textLetters_90 rfl rfl rfl ?_
  refine ex_getR (pc' := 94) dX11_textLetters_91 fl_X11_118 rfl (sh11_k hO) (sh11_F48 hO) rfl ?_
  refine ex_iload_n 2 (pc' := 95) dX11_textLetters_94 rfl rfl rfl ?_
  refine ex_iload 5 (pc' := 97) dX11_textLetters_95 rfl rfl ?_
  refine ex_bipush (v := 85) (pc' := 99) dX11_textLetters_97 bp_85 rfl ?_
  refine ex_icmpne (tgt := 106) (pc' := 102) dX11_textLetters_99 (by decide) rfl (fun hc20 => ?_) (fun hc20 => ?_)
  · replace hf := if_t hc20 hf
    refine ex_iconst (v := 0) (pc' := 103) dX11_textLetters_102 ic_0 rfl ?_
    refine ex_goto (tgt := 107) dX11_textLetters_103 (by decide) ?_
    refine ex_sub [1, 2, 3, 0, 4, 5] rfl (k_X11_textLetters_b16_j107 hO  hf hC hX hR)
  · replace hf := if_f hc20 hf
    refine ex_iconst (v := 1) (pc' := 107) dX11_textLetters_106 ic_1 rfl ?_
    refine ex_sub [1, 2, 3, 0, 4, 5] rfl (k_X11_textLetters_b16_j107 hO  hf hC hX hR)
def f_X11_textLetters_b143 (N : Nat) (v2 : Int32) (v3 : Int32) (v4 : Int32) (v5 : Int32) (v6 : Int32) (v7 : Int32) (v8 : Int32) (I : MI) : Option ((Int32 × MI) ⊕ (MI)) := (if v8 < (v6 * v7) then if inb ((v3 + v8) - v6) 160 then if inb (v3 + v8) 160 then letv (upI I 135 (Int32.toNatClampNeg (v3 + v8)) (I 135 (Int32.toNatClampNeg ((v3 + v8) - v6)))) fun I29 => some (.inl (v8 + 1, I29)) else none else none else some (.inr I))
set_option maxRecDepth 100000 in
set_option maxHeartbeats 4000000 in
theorem k_X11_textLetters_b143 {G : GX} {Q : State → Prop} {X : MX} (hO : shX11 X) {v2 : Int32} {v3 : Int32} {v4 : Int32} {v5 : Int32} {v6 : Int32} {v7 : Int32}  {v8 : Int32} {N : Nat} {I : MI} {L : ML} {out : (Int32 × MI) ⊕ (MI)} (hf : f_X11_textLetters_b143 N v2 v3 v4 v5 v6 v7 v8 I = some out) (hC : ∀ (v8' : Int32) (I' : MI), out = .inl (v8', I') → Ex G mX11_textLetters rmX11_textLetters Q (0, 0) X I' L 143 [(0, .ref (gB G + 99)), (2, .int v2), (3, .int v3), (4, .int v4), (5, .int v5), (6, .int v6), (7, .int v7), (8, .int v8')] []) (hX : ∀ (I' : MI), out = .inr I' → Ex G mX11_textLetters rmX11_textLetters Q (0, 0) X I' L 180 [(0, .ref (gB G + 99)), (2, .int v2), (3, .int v3), (4, .int v4), (5, .int v5), (6, .int v6), (7, .int v7)] []) : Ex G mX11_textLetters rmX11_textLetters Q (0, 0) X I L 143 [(0, .ref (gB G + 99)), (2, .int v2), (3, .int v3), (4, .int v4), (5, .int v5), (6, .int v6), (7, .int v7), (8, .int v8)] [] := by
  unfold f_X11_textLetters_b143 at hf
  refine ex_iload 7 (pc' := 145) dX11_textLetters_143 rfl rfl ?_
  refine ex_iload 5 (pc' := 147) dX11_textLetters_145 rfl rfl ?_
  refine ex_iload 6 (pc' := 149) dX11_textLetters_147 rfl rfl ?_
  refine ex_imul (pc' := 150) dX11_textLetters_149 rfl ?_
  refine ex_icmpge (tgt := 180) (pc' := 153) dX11_textLetters_150 (by decide) rfl (fun hc26 => ?_) (fun hc26 => ?_)
  · replace hf := if_t hc26 hf
    refine ex_aload_n 0 (pc' := 154) dX11_textLetters_153 rfl rfl rfl ?_
    refine ex_getR (pc' := 157) dX11_textLetters_154 fl_X11_118 rfl (sh11_k hO) (sh11_F48 hO) rfl ?_
    refine ex_iload_n 2 (pc' := 158) dX11_textLetters_157 rfl rfl rfl ?_
    refine ex_iload 7 (pc' := 160) dX11_textLetters_158 rfl rfl ?_
    refine ex_iadd (pc' := 161) dX11_textLetters_160 rfl ?_
    refine ex_aload_n 0 (pc' := 162) dX11_textLetters_161 rfl rfl rfl ?_
    refine ex_getR (pc' := 165) dX11_textLetters_162 fl_X11_118 rfl (sh11_k hO) (sh11_F48 hO) rfl ?_
    refine ex_iload_n 2 (pc' := 166) dX11_textLetters_165 rfl rfl rfl ?_
    refine ex_iload 7 (pc' := 168) dX11_textLetters_166 rfl rfl ?_
    refine ex_iadd (pc' := 169) dX11_textLetters_168 rfl ?_
    refine ex_iload 5 (pc' := 171) dX11_textLetters_169 rfl rfl ?_
    refine ex_isub (pc' := 172) dX11_textLetters_171 rfl ?_
    obtain ⟨hg27, hf⟩ := of_guard hf
    refine ex_iald (pc' := 173) dX11_textLetters_172 (sh11_T48 hO) (inb_in hg27) rfl ?_
    obtain ⟨hg28, hf⟩ := of_guard hf
    refine ex_iast (pc' := 174) dX11_textLetters_173 (sh11_T48 hO) (inb_in hg28) rfl ?_
    obtain ⟨I29, hI29, hf⟩ := of_let hf
    rw [← hI29]
    refine ex_iincc (lv' := [(8, .int (v8 + 1)), (0, .ref (gB G + 99)), (2, .int v2), (3, .int v3), (4, .int v4), (5, .int v5), (6, .int v6), (7, .int v7)]) 7 (pc' := 177) dX11_textLetters_174 rfl ic_1 (Nat.le_of_ble_eq_true rfl) rfl rfl ?_
    refine ex_goto (tgt := 143) dX11_textLetters_177 (by decide) ?_
    exact ex_sub [1, 2, 3, 4, 5, 6, 7, 0] rfl (hC _ _ (Option.some.inj hf).symm)
  · replace hf := if_f hc26 hf
    exact ex_sub [0, 1, 2, 3, 4, 5, 6] rfl (hX _ (Option.some.inj hf).symm)
def f_X11_textLetters_l143 (N : Nat) (v2 : Int32) (v3 : Int32) (v4 : Int32) (v5 : Int32) (v6 : Int32) (v7 : Int32) (v8 : Int32) (I : MI) : Option (MI) := loopN (fun s => f_X11_textLetters_b143 N v2 v3 v4 v5 v6 v7 s.1 s.2) N (v8, I)
set_option maxRecDepth 100000 in
set_option maxHeartbeats 4000000 in
theorem k_X11_textLetters_l143 {G : GX} {Q : State → Prop} {X : MX} (hO : shX11 X) {v2 : Int32} {v3 : Int32} {v4 : Int32} {v5 : Int32} {v6 : Int32} {v7 : Int32}  {N0 : Nat} {L : ML} {out : (MI)} (hX : ∀ (I' : MI), out = I' → Ex G mX11_textLetters rmX11_textLetters Q (0, 0) X I' L 180 [(0, .ref (gB G + 99)), (2, .int v2), (3, .int v3), (4, .int v4), (5, .int v5), (6, .int v6), (7, .int v7)] []) : ∀ (N : Nat) (v8 : Int32) (I : MI), loopN (fun s => f_X11_textLetters_b143 N0 v2 v3 v4 v5 v6 v7 s.1 s.2) N (v8, I) = some out → Ex G mX11_textLetters rmX11_textLetters Q (0, 0) X I L 143 [(0, .ref (gB G + 99)), (2, .int v2), (3, .int v3), (4, .int v4), (5, .int v5), (6, .int v6), (7, .int v7), (8, .int v8)] [] := by
  intro N
  induction N with
  | zero => intro v8 I hf; exact absurd (loopN_zero hf) id
  | succ n ih =>
    intro v8 I hf
    rcases loopN_succ hf with ⟨s, hb, hl⟩ | hb
    · obtain ⟨v8', I'⟩ := s
      refine k_X11_textLetters_b143 hO  hb (fun _ _ he => ?_) (fun _ he => by cases he)
      cases he
      exact ih v8' I' hl
    · exact k_X11_textLetters_b143 hO  hb (fun _ _ he => by cases he) (fun x0 he => hX x0 (Sum.inr.inj he))
def f_X11_textLetters_b16 (N : Nat)  (v1 : Int32) (v2 : Int32) (v3 : Int32) (v4 : Int32) (I : MI) : Option ((Int32 × Int32 × Int32 × Int32 × MI) ⊕ ((Int32 × MI) ⊕ (Int32 × MI))) := (if v4 < (I 99 13) then if inb v4 80 then (if (I 111 (Int32.toNatClampNeg v4)) = 40 then if inb (v2 + 1) 5 then letv (upI I 136 (Int32.toNatClampNeg (v2 + 1)) v1) fun I7 => f_X11_textLetters_b16_j188 N v1 (v2 + 1) v3 v4 (I 111 (Int32.toNatClampNeg v4)) I7 else none else (if (I 111 (Int32.toNatClampNeg v4)) = 41 then if inb v2 5 then f_X11_textLetters_b16_j188 N v1 (v2 + (-1)) (I 136 (Int32.toNatClampNeg v2)) v4 (I 111 (Int32.toNatClampNeg v4)) I else none else (if (I 111 (Int32.toNatClampNeg v4)) = 85 then f_X11_textLetters_b16_j88 N v1 v2 v4 (I 111 (Int32.toNatClampNeg v4)) I else (if (I 111 (Int32.toNatClampNeg v4)) = 68 then f_X11_textLetters_b16_j88 N v1 v2 v4 (I 111 (Int32.toNatClampNeg v4)) I else letv ((I 111 (Int32.toNatClampNeg v4)) - 48) fun x24 => (if 12 < ((v1 - v3) * x24) then some (.inr (.inr ((-4), I))) else bnd1 (f_X11_textLetters_l143 N v2 v3 v4 (I 111 (Int32.toNatClampNeg v4)) (v1 - v3) x24 (v1 - v3) I) fun I30 => f_X11_textLetters_b16_j188 N (v3 + ((v1 - v3) * x24)) v2 v3 v4 (I 111 (Int32.toNatClampNeg v4)) I30))))) else none else some (.inr (.inl (v1, I))))
set_option maxRecDepth 100000 in
set_option maxHeartbeats 4000000 in
theorem k_X11_textLetters_b16 {G : GX} {Q : State → Prop} {X : MX} (hO : shX11 X)   {v1 : Int32} {v2 : Int32} {v3 : Int32} {v4 : Int32} {N : Nat} {I : MI} {L : ML} {out : (Int32 × Int32 × Int32 × Int32 × MI) ⊕ ((Int32 × MI) ⊕ (Int32 × MI))} (hf : f_X11_textLetters_b16 N v1 v2 v3 v4 I = some out) (hC : ∀ (v1' : Int32) (v2' : Int32) (v3' : Int32) (v4' : Int32) (I' : MI), out = .inl (v1', v2', v3', v4', I') → Ex G mX11_textLetters rmX11_textLetters Q (0, 0) X I' L 16 [(0, .ref (gB G + 99)), (1, .int v1'), (2, .int v2'), (3, .int v3'), (4, .int v4')] []) (hX : ∀ (w1 : Int32) (I' : MI), out = .inr (.inl (w1, I')) → Ex G mX11_textLetters rmX11_textLetters Q (0, 0) X I' L 262 [(1, .int w1)] []) (hR : ∀ (z : Int32) (I' : MI), out = .inr (.inr (z, I')) → Q = RetQ G (some (.int z)) X I' L (0, 0)) : Ex G mX11_textLetters rmX11_textLetters Q (0, 0) X I L 16 [(0, .ref (gB G + 99)), (1, .int v1), (2, .int v2), (3, .int v3), (4, .int v4)] [] := by
  unfold f_X11_textLetters_b16 at hf
  refine ex_iload 4 (pc' := 18) dX11_textLetters_16 rfl rfl ?_
  refine ex_aload_n 0 (pc' := 19) dX11_textLetters_18 rfl rfl rfl ?_
  refine ex_getI (pc' := 22) dX11_textLetters_19 fl_X11_297 rfl (sh11_k hO) rfl ?_
  refine ex_icmpge (tgt := 262) (pc' := 25) dX11_textLetters_22 (by decide) rfl (fun hc3 => ?_) (fun hc3 => ?_)
  · replace hf := if_t hc3 hf
    refine ex_aload_n 0 (pc' := 26) dX11_textLetters_25 rfl rfl rfl ?_
    refine ex_getR (pc' := 29) dX11_textLetters_26 fl_X11_46 rfl (sh11_k hO) (sh11_F14 hO) rfl ?_
    refine ex_iload 4 (pc' := 31) dX11_textLetters_29 rfl rfl ?_
    obtain ⟨hg4, hf⟩ := of_guard hf
    refine ex_iald (pc' := 32) dX11_textLetters_31 (sh11_T14 hO) (inb_in hg4) rfl ?_
    refine ex_istore (lv' := [(5, .int (I 111 (Int32.toNatClampNeg v4))), (0, .ref (gB G + 99)), (1, .int v1), (2, .int v2), (3, .int v3), (4, .int v4)]) (pc' := 34) dX11_textLetters_32 (Nat.le_of_ble_eq_true rfl) rfl rfl ?_
    refine ex_iload 0 (pc' := 36) dX11_textLetters_34 rfl rfl ?_
    refine ex_bipush (v := 40) (pc' := 38) dX11_textLetters_36 bp_40 rfl ?_
    refine ex_icmpne (tgt := 54) (pc' := 41) dX11_textLetters_38 (by decide) rfl (fun hc5 => ?_) (fun hc5 => ?_)
    · replace hf := if_t hc5 hf
      refine ex_iincc (lv' := [(2, .int (v2 + 1)), (5, .int (I 111 (Int32.toNatClampNeg v4))), (0, .ref (gB G + 99)), (1, .int v1), (3, .int v3), (4, .int v4)]) 3 (pc' := 44) dX11_textLetters_41 rfl ic_1 (Nat.le_of_ble_eq_true rfl) rfl rfl ?_
      refine ex_aload_n 2 (pc' := 45) dX11_textLetters_44 rfl rfl rfl ?_
      refine ex_getR (pc' := 48) dX11_textLetters_45 fl_X11_121 rfl (sh11_k hO) (sh11_F49 hO) rfl ?_
      refine ex_iload_n 0 (pc' := 49) dX11_textLetters_48 rfl rfl rfl ?_
      refine ex_iload_n 3 (pc' := 50) dX11_textLetters_49 rfl rfl rfl ?_
      obtain ⟨hg6, hf⟩ := of_guard hf
      refine ex_iast (pc' := 51) dX11_textLetters_50 (sh11_T49 hO) (inb_in hg6) rfl ?_
      obtain ⟨I7, hI7, hf⟩ := of_let hf
      rw [← hI7]
      refine ex_goto (tgt := 188) dX11_textLetters_51 (by decide) ?_
      refine ex_sub [2, 3, 0, 4, 5, 1] rfl (k_X11_textLetters_b16_j188 hO  hf hC hX hR)
    · replace hf := if_f hc5 hf
      refine ex_iload 0 (pc' := 56) dX11_textLetters_54 rfl rfl ?_
      refine ex_bipush (v := 41) (pc' := 58) dX11_textLetters_56 bp_41 rfl ?_
      refine ex_icmpne (tgt := 74) (pc' := 61) dX11_textLetters_58 (by decide) rfl (fun hc17 => ?_) (fun hc17 => ?_)
      · replace hf := if_t hc17 hf
        refine ex_aload_n 1 (pc' := 62) dX11_textLetters_61 rfl rfl rfl ?_
        refine ex_getR (pc' := 65) dX11_textLetters_62 fl_X11_121 rfl (sh11_k hO) (sh11_F49 hO) rfl ?_
        refine ex_iload_n 3 (pc' := 66) dX11_textLetters_65 rfl rfl rfl ?_
        obtain ⟨hg18, hf⟩ := of_guard hf
        refine ex_iald (pc' := 67) dX11_textLetters_66 (sh11_T49 hO) (inb_in hg18) rfl ?_
        refine ex_istore_n (lv' := [(3, .int (I 136 (Int32.toNatClampNeg v2))), (5, .int (I 111 (Int32.toNatClampNeg v4))), (0, .ref (gB G + 99)), (1, .int v1), (2, .int v2), (4, .int v4)]) (pc' := 68) dX11_textLetters_67 rfl (Nat.le_of_ble_eq_true rfl) rfl rfl ?_
        refine ex_iincc (lv' := [(2, .int (v2 + (-1))), (3, .int (I 136 (Int32.toNatClampNeg v2))), (5, .int (I 111 (Int32.toNatClampNeg v4))), (0, .ref (gB G + 99)), (1, .int v1), (4, .int v4)]) 4 (pc' := 71) dX11_textLetters_68 rfl ic_m1 (Nat.le_of_ble_eq_true rfl) rfl rfl ?_
        refine ex_goto (tgt := 188) dX11_textLetters_71 (by decide) ?_
        refine ex_sub [3, 4, 0, 1, 5, 2] rfl (k_X11_textLetters_b16_j188 hO  hf hC hX hR)
      · replace hf := if_f hc17 hf
        refine ex_iload 0 (pc' := 76) dX11_textLetters_74 rfl rfl ?_
        refine ex_bipush (v := 85) (pc' := 78) dX11_textLetters_76 bp_85 rfl ?_
        refine ex_icmpeq (tgt := 88) (pc' := 81) dX11_textLetters_78 (by decide) rfl (fun hc19 => ?_) (fun hc19 => ?_)
        · replace hf := if_t hc19 hf
          refine ex_sub [1, 2, 3, 5, 0] rfl (k_X11_textLetters_b16_j88 hO  hf hC hX hR)
        · replace hf := if_f hc19 hf
          refine ex_iload 0 (pc' := 83) dX11_textLetters_81 rfl rfl ?_
          refine ex_bipush (v := 68) (pc' := 85) dX11_textLetters_83 bp_68 rfl ?_
          refine ex_icmpne (tgt := 114) (pc' := 88) dX11_textLetters_85 (by decide) rfl (fun hc23 => ?_) (fun hc23 => ?_)
          · replace hf := if_t hc23 hf
            refine ex_sub [1, 2, 3, 5, 0] rfl (k_X11_textLetters_b16_j88 hO  hf hC hX hR)
          · replace hf := if_f hc23 hf
            refine ex_iload_n 2 (pc' := 115) dX11_textLetters_114 rfl rfl rfl ?_
            refine ex_iload_n 4 (pc' := 116) dX11_textLetters_115 rfl rfl rfl ?_
            refine ex_isub (pc' := 117) dX11_textLetters_116 rfl ?_
            refine ex_istore (lv' := [(6, .int (v1 - v3)), (5, .int (I 111 (Int32.toNatClampNeg v4))), (0, .ref (gB G + 99)), (1, .int v1), (2, .int v2), (3, .int v3), (4, .int v4)]) (pc' := 119) dX11_textLetters_117 (Nat.le_of_ble_eq_true rfl) rfl rfl ?_
            refine ex_iload 1 (pc' := 121) dX11_textLetters_119 rfl rfl ?_
            refine ex_bipush (v := 48) (pc' := 123) dX11_textLetters_121 bp_48 rfl ?_
            refine ex_isub (pc' := 124) dX11_textLetters_123 rfl ?_
            obtain ⟨x24, hx24, hf⟩ := of_let hf
            rw [← hx24]
            refine ex_istore (lv' := [(7, .int x24), (6, .int (v1 - v3)), (5, .int (I 111 (Int32.toNatClampNeg v4))), (0, .ref (gB G + 99)), (1, .int v1), (2, .int v2), (3, .int v3), (4, .int v4)]) (pc' := 126) dX11_textLetters_124 (Nat.le_of_ble_eq_true rfl) rfl rfl ?_
            refine ex_iload 1 (pc' := 128) dX11_textLetters_126 rfl rfl ?_
            refine ex_iload 0 (pc' := 130) dX11_textLetters_128 rfl rfl ?_
            refine ex_imul (pc' := 131) dX11_textLetters_130 rfl ?_
            refine ex_bipush (v := 12) (pc' := 133) dX11_textLetters_131 bp_12 rfl ?_
            refine ex_icmple (tgt := 139) (pc' := 136) dX11_textLetters_133 (by decide) rfl (fun hc25 => ?_) (fun hc25 => ?_)
            · replace hf := if_t hc25 hf
              refine ex_bipush (v := (-4)) (pc' := 138) dX11_textLetters_136 bp_m4 rfl ?_
              exact ex_iret dX11_textLetters_138 rfl (hR _ _ (Option.some.inj hf).symm)
            · replace hf := if_f hc25 hf
              refine ex_iload 1 (pc' := 141) dX11_textLetters_139 rfl rfl ?_
              refine ex_istore (lv' := [(8, .int (v1 - v3)), (7, .int x24), (6, .int (v1 - v3)), (5, .int (I 111 (Int32.toNatClampNeg v4))), (0, .ref (gB G + 99)), (1, .int v1), (2, .int v2), (3, .int v3), (4, .int v4)]) (pc' := 143) dX11_textLetters_141 (Nat.le_of_ble_eq_true rfl) rfl rfl ?_
              refine ex_sub (lv' := [(0, .ref (gB G + 99)), (2, .int v2), (3, .int v3), (4, .int v4), (5, .int (I 111 (Int32.toNatClampNeg v4))), (6, .int (v1 - v3)), (7, .int x24), (8, .int (v1 - v3))]) [4, 6, 7, 8, 3, 2, 1, 0] rfl ?_
              obtain ⟨I30, hq31, hf⟩ := of_bnd1 hf
              refine k_X11_textLetters_l143 hO (fun I30' he => ?_) _ _ _ hq31
              cases he
              refine ex_iload_n 2 (pc' := 181) dX11_textLetters_180 rfl rfl rfl ?_
              refine ex_iload 5 (pc' := 183) dX11_textLetters_181 rfl rfl ?_
              refine ex_iload 6 (pc' := 185) dX11_textLetters_183 rfl rfl ?_
              refine ex_imul (pc' := 186) dX11_textLetters_185 rfl ?_
              refine ex_iadd (pc' := 187) dX11_textLetters_186 rfl ?_
              refine ex_istore_n (lv' := [(1, .int (v3 + ((v1 - v3) * x24))), (0, .ref (gB G + 99)), (2, .int v2), (3, .int v3), (4, .int v4), (5, .int (I 111 (Int32.toNatClampNeg v4))), (6, .int (v1 - v3)), (7, .int x24)]) (pc' := 188) dX11_textLetters_187 rfl (Nat.le_of_ble_eq_true rfl) rfl rfl ?_
              refine ex_sub [1, 0, 2, 3, 4, 5] rfl (k_X11_textLetters_b16_j188 hO  hf hC hX hR)
  · replace hf := if_f hc3 hf
    exact ex_sub [1] rfl (hX _ _ (Option.some.inj hf).symm)
def f_X11_textLetters_l16 (N : Nat)  (v1 : Int32) (v2 : Int32) (v3 : Int32) (v4 : Int32) (I : MI) : Option ((Int32 × MI) ⊕ (Int32 × MI)) := loopN (fun s => f_X11_textLetters_b16 N s.1 s.2.1 s.2.2.1 s.2.2.2.1 s.2.2.2.2) N (v1, v2, v3, v4, I)
set_option maxRecDepth 100000 in
set_option maxHeartbeats 4000000 in
theorem k_X11_textLetters_l16 {G : GX} {Q : State → Prop} {X : MX} (hO : shX11 X)   {N0 : Nat} {L : ML} {out : ((Int32 × MI) ⊕ (Int32 × MI))} (hX : ∀ (w1 : Int32) (I' : MI), out = .inl (w1, I') → Ex G mX11_textLetters rmX11_textLetters Q (0, 0) X I' L 262 [(1, .int w1)] []) (hR : ∀ (z : Int32) (I' : MI), out = .inr (z, I') → Q = RetQ G (some (.int z)) X I' L (0, 0)) : ∀ (N : Nat) (v1 : Int32) (v2 : Int32) (v3 : Int32) (v4 : Int32) (I : MI), loopN (fun s => f_X11_textLetters_b16 N0 s.1 s.2.1 s.2.2.1 s.2.2.2.1 s.2.2.2.2) N (v1, v2, v3, v4, I) = some out → Ex G mX11_textLetters rmX11_textLetters Q (0, 0) X I L 16 [(0, .ref (gB G + 99)), (1, .int v1), (2, .int v2), (3, .int v3), (4, .int v4)] [] := by
  intro N
  induction N with
  | zero => intro v1 v2 v3 v4 I hf; exact absurd (loopN_zero hf) id
  | succ n ih =>
    intro v1 v2 v3 v4 I hf
    rcases loopN_succ hf with ⟨s, hb, hl⟩ | hb
    · obtain ⟨v1', v2', v3', v4', I'⟩ := s
      refine k_X11_textLetters_b16 hO  hb (fun _ _ _ _ _ he => ?_) (fun _ _ he => by cases he) (fun _ _ he => by cases he)
      cases he
      exact ih v1' v2' v3' v4' I' hl
    · exact k_X11_textLetters_b16 hO  hb (fun _ _ _ _ _ he => by cases he) (fun x0 x1 he => hX x0 x1 (Sum.inr.inj he)) (fun z0 z1 he => hR z0 z1 (Sum.inr.inj he))
def f_X11_textLetters (N : Nat)  (I : MI) : Option (Int32 × MI) := if inb 0 5 then letv (upI I 136 (Int32.toNatClampNeg 0) 0) fun I2 => bns2 (f_X11_textLetters_l16 N 0 0 0 0 I2) (fun x32 I33 => some (x32, I33)) (fun q35 => some q35) else none
set_option maxRecDepth 100000 in
set_option maxHeartbeats 4000000 in
theorem kb_X11_textLetters {G : GX} {Q : State → Prop} {X : MX} (hO : shX11 X)   {N : Nat} {I : MI} {L : ML} {out : Int32 × MI} (hf : f_X11_textLetters N I = some out) (hR : ∀ (z : Int32) (I' : MI), out = (z, I') → Q = RetQ G (some (.int z)) X I' L (0, 0)) : Ex G mX11_textLetters rmX11_textLetters Q (0, 0) X I L 0 [(0, .ref (gB G + 99))] [] := by
  unfold f_X11_textLetters at hf
  refine ex_iconst (v := 0) (pc' := 1) dX11_textLetters_0 ic_0 rfl ?_
  refine ex_istore_n (lv' := [(1, .int 0), (0, .ref (gB G + 99))]) (pc' := 2) dX11_textLetters_1 rfl (Nat.le_of_ble_eq_true rfl) rfl rfl ?_
  refine ex_iconst (v := 0) (pc' := 3) dX11_textLetters_2 ic_0 rfl ?_
  refine ex_istore_n (lv' := [(2, .int 0), (1, .int 0), (0, .ref (gB G + 99))]) (pc' := 4) dX11_textLetters_3 rfl (Nat.le_of_ble_eq_true rfl) rfl rfl ?_
  refine ex_iconst (v := 0) (pc' := 5) dX11_textLetters_4 ic_0 rfl ?_
  refine ex_istore_n (lv' := [(3, .int 0), (2, .int 0), (1, .int 0), (0, .ref (gB G + 99))]) (pc' := 6) dX11_textLetters_5 rfl (Nat.le_of_ble_eq_true rfl) rfl rfl ?_
  refine ex_aload_n 3 (pc' := 7) dX11_textLetters_6 rfl rfl rfl ?_
  refine ex_getR (pc' := 10) dX11_textLetters_7 fl_X11_121 rfl (sh11_k hO) (sh11_F49 hO) rfl ?_
  refine ex_iconst (v := 0) (pc' := 11) dX11_textLetters_10 ic_0 rfl ?_
  refine ex_iconst (v := 0) (pc' := 12) dX11_textLetters_11 ic_0 rfl ?_
  obtain ⟨hg1, hf⟩ := of_guard hf
  refine ex_iast (pc' := 13) dX11_textLetters_12 (sh11_T49 hO) (inb_in hg1) rfl ?_
  obtain ⟨I2, hI2, hf⟩ := of_let hf
  rw [← hI2]
  refine ex_iconst (v := 0) (pc' := 14) dX11_textLetters_13 ic_0 rfl ?_
  refine ex_istore (lv' := [(4, .int 0), (3, .int 0), (2, .int 0), (1, .int 0), (0, .ref (gB G + 99))]) (pc' := 16) dX11_textLetters_14 (Nat.le_of_ble_eq_true rfl) rfl rfl ?_
  refine ex_sub (lv' := [(0, .ref (gB G + 99)), (1, .int 0), (2, .int 0), (3, .int 0), (4, .int 0)]) [4, 3, 2, 1, 0] rfl ?_
  rcases of_bns2 hf with ⟨x32, I33, hq34, hf⟩ | ⟨q35, hq34, hf⟩
  · refine k_X11_textLetters_l16 hO (fun x32' I33' he => ?_) (fun _ _ he => by cases he) _ _ _ _ _ _ hq34
    cases he
    refine ex_iload_n 0 (pc' := 263) dX11_textLetters_262 rfl rfl rfl ?_
    exact ex_iret dX11_textLetters_263 rfl (hR _ _ (Option.some.inj hf).symm)
  · refine k_X11_textLetters_l16 hO (fun _ _ he => by cases he) (fun z0 z1 he => ?_) _ _ _ _ _ _ hq34
    refine hR _ _ ?_
    rw [← Option.some.inj hf]
    cases he
    rfl
set_option maxRecDepth 100000 in
set_option maxHeartbeats 4000000 in
theorem k_X11_textLetters (G : GX) {X : MX} (hO : shX11 X)   {N : Nat} {I : MI} {L : ML} {z : Int32} {I' : MI} (hf : f_X11_textLetters N I = some (z, I')) : Con G mX11_textLetters yX11_textLetters rmX11_textLetters (fun B => [.ref (B + 99)]) X I L (some (.int z)) X I' L :=
  Con.of (by decide) rfl (fun h => by cases h) (fun B => Nat.le_of_ble_eq_true rfl) (fun G => kb_X11_textLetters hO  hf (fun _ _ he => by cases he; rfl))
theorem cl_X11_304 : CLV RX11 304 yX11_faultAt mX11_faultAt (some FieldType.int) 0 := ⟨⟨lwg_at 1380 (by decide +kernel) rfl, lwg_at 1382 (by decide +kernel) rfl, lwg_at 45 (by decide +kernel) rfl, lwg_at 61 (by decide +kernel) rfl⟩, lwg_at 1383 (by decide +kernel) rfl, ⟨by decide +kernel, by decide +kernel, by decide +kernel⟩⟩
theorem cl_X11_307 : CLV RX11 307 yX11_textLetters mX11_textLetters (some FieldType.int) 0 := ⟨⟨lwg_at 1386 (by decide +kernel) rfl, lwg_at 1388 (by decide +kernel) rfl, lwg_at 46 (by decide +kernel) rfl, lwg_at 61 (by decide +kernel) rfl⟩, lwg_at 1389 (by decide +kernel) rfl, ⟨by decide +kernel, by decide +kernel, by decide +kernel⟩⟩
-- X11_read ('RookWordsModel', 'read', '(I)I')
def rmX11_read : RM := ((2, 53, 0, 0), false, (some FieldType.int))
def f_X11_read_b53 (N : Nat) (v1 : Int32) (v3 : Int32) (v4 : Int32) (I : MI) : Option ((Int32 × MI) ⊕ (MI)) := (if v4 < v3 then if inb v4 160 then if inb ((12 * v1) + v4) 72 then letv (upI I 101 (Int32.toNatClampNeg ((12 * v1) + v4)) (I 135 (Int32.toNatClampNeg v4))) fun I16 => some (.inl (v4 + 1, I16)) else none else none else some (.inr I))
set_option maxRecDepth 100000 in
set_option maxHeartbeats 4000000 in
theorem k_X11_read_b53 {G : GX} {Q : State → Prop} {X : MX} (hO : shX11 X) {v1 : Int32} {v3 : Int32}  {v4 : Int32} {N : Nat} {I : MI} {L : ML} {out : (Int32 × MI) ⊕ (MI)} (hf : f_X11_read_b53 N v1 v3 v4 I = some out) (hC : ∀ (v4' : Int32) (I' : MI), out = .inl (v4', I') → Ex G mX11_read rmX11_read Q (0, 0) X I' L 53 [(0, .ref (gB G + 99)), (1, .int v1), (3, .int v3), (4, .int v4')] []) (hX : ∀ (I' : MI), out = .inr I' → Ex G mX11_read rmX11_read Q (0, 0) X I' L 84 [(0, .ref (gB G + 99)), (1, .int v1), (3, .int v3)] []) : Ex G mX11_read rmX11_read Q (0, 0) X I L 53 [(0, .ref (gB G + 99)), (1, .int v1), (3, .int v3), (4, .int v4)] [] := by
  unfold f_X11_read_b53 at hf
  refine ex_iload 3 (pc' := 55) dX11_read_53 rfl rfl ?_
  refine ex_iload_n 2 (pc' := 56) dX11_read_55 rfl rfl rfl ?_
  refine ex_icmpge (tgt := 84) (pc' := 59) dX11_read_56 (by decide) rfl (fun hc13 => ?_) (fun hc13 => ?_)
  · replace hf := if_t hc13 hf
    refine ex_aload_n 0 (pc' := 60) dX11_read_59 rfl rfl rfl ?_
    refine ex_getR (pc' := 63) dX11_read_60 fl_X11_15 rfl (sh11_k hO) (sh11_F1 hO) rfl ?_
    refine ex_bipush (v := 12) (pc' := 65) dX11_read_63 bp_12 rfl ?_
    refine ex_iload_n 1 (pc' := 66) dX11_read_65 rfl rfl rfl ?_
    refine ex_imul (pc' := 67) dX11_read_66 rfl ?_
    refine ex_iload 3 (pc' := 69) dX11_read_67 rfl rfl ?_
    refine ex_iadd (pc' := 70) dX11_read_69 rfl ?_
    refine ex_aload_n 0 (pc' := 71) dX11_read_70 rfl rfl rfl ?_
    refine ex_getR (pc' := 74) dX11_read_71 fl_X11_118 rfl (sh11_k hO) (sh11_F48 hO) rfl ?_
    refine ex_iload 3 (pc' := 76) dX11_read_74 rfl rfl ?_
    obtain ⟨hg14, hf⟩ := of_guard hf
    refine ex_iald (pc' := 77) dX11_read_76 (sh11_T48 hO) (inb_in hg14) rfl ?_
    obtain ⟨hg15, hf⟩ := of_guard hf
    refine ex_iast (pc' := 78) dX11_read_77 (sh11_T1 hO) (inb_in hg15) rfl ?_
    obtain ⟨I16, hI16, hf⟩ := of_let hf
    rw [← hI16]
    refine ex_iincc (lv' := [(4, .int (v4 + 1)), (0, .ref (gB G + 99)), (1, .int v1), (3, .int v3)]) 3 (pc' := 81) dX11_read_78 rfl ic_1 (Nat.le_of_ble_eq_true rfl) rfl rfl ?_
    refine ex_goto (tgt := 53) dX11_read_81 (by decide) ?_
    exact ex_sub [1, 2, 3, 0] rfl (hC _ _ (Option.some.inj hf).symm)
  · replace hf := if_f hc13 hf
    exact ex_sub [0, 1, 2] rfl (hX _ (Option.some.inj hf).symm)
def f_X11_read_l53 (N : Nat) (v1 : Int32) (v3 : Int32) (v4 : Int32) (I : MI) : Option (MI) := loopN (fun s => f_X11_read_b53 N v1 v3 s.1 s.2) N (v4, I)
set_option maxRecDepth 100000 in
set_option maxHeartbeats 4000000 in
theorem k_X11_read_l53 {G : GX} {Q : State → Prop} {X : MX} (hO : shX11 X) {v1 : Int32} {v3 : Int32}  {N0 : Nat} {L : ML} {out : (MI)} (hX : ∀ (I' : MI), out = I' → Ex G mX11_read rmX11_read Q (0, 0) X I' L 84 [(0, .ref (gB G + 99)), (1, .int v1), (3, .int v3)] []) : ∀ (N : Nat) (v4 : Int32) (I : MI), loopN (fun s => f_X11_read_b53 N0 v1 v3 s.1 s.2) N (v4, I) = some out → Ex G mX11_read rmX11_read Q (0, 0) X I L 53 [(0, .ref (gB G + 99)), (1, .int v1), (3, .int v3), (4, .int v4)] [] := by
  intro N
  induction N with
  | zero => intro v4 I hf; exact absurd (loopN_zero hf) id
  | succ n ih =>
    intro v4 I hf
    rcases loopN_succ hf with ⟨s, hb, hl⟩ | hb
    · obtain ⟨v4', I'⟩ := s
      refine k_X11_read_b53 hO  hb (fun _ _ he => ?_) (fun _ he => by cases he)
      cases he
      exact ih v4' I' hl
    · exact k_X11_read_b53 hO  hb (fun _ _ he => by cases he) (fun x0 he => hX x0 (Sum.inr.inj he))
def f_X11_read_j26 (N : Nat) (v1 : Int32) (v2 : Int32) (s0 : Int32) (I : MI) : Option (Int32 × MI) := letv (upI I 99 13 0) fun I10 => (if v2 < 0 then (if s0 = (-4) then some ((-4), I10) else bnd1 (f_X11_read_l53 N v1 s0 0 I10) fun I17 => if inb v1 6 then letv (upI I17 100 (Int32.toNatClampNeg v1) s0) fun I20 => some (s0, I20) else none) else some ((-100) - v2, I10))
set_option maxRecDepth 100000 in
set_option maxHeartbeats 4000000 in
theorem k_X11_read_j26 {G : GX} {Q : State → Prop} {X : MX} (hO : shX11 X) {v1 : Int32} {v2 : Int32} {s0 : Int32}  {N : Nat} {I : MI} {L : ML} {out : Int32 × MI} (hf : f_X11_read_j26 N v1 v2 s0 I = some out) (hR : ∀ (z : Int32) (I' : MI), out = (z, I') → Q = RetQ G (some (.int z)) X I' L (0, 0)) : Ex G mX11_read rmX11_read Q (0, 0) X I L 26 [(0, .ref (gB G + 99)), (1, .int v1), (2, .int v2)] [.int s0] := by
  unfold f_X11_read_j26 at hf
  refine ex_istore_n (lv' := [(3, .int s0), (0, .ref (gB G + 99)), (1, .int v1), (2, .int v2)]) (pc' := 27) dX11_read_26 rfl (Nat.le_of_ble_eq_true rfl) rfl rfl ?_
  refine ex_aload_n 1 (pc' := 28) dX11_read_27 rfl rfl rfl ?_
  refine ex_iconst (v := 0) (pc' := 29) dX11_read_28 ic_0 rfl ?_
  refine ex_putI (pc' := 32) dX11_read_29 fl_X11_297 rfl (sh11_k hO) rfl ?_
  obtain ⟨I10, hI10, hf⟩ := of_let hf
  rw [← hI10]
  refine ex_iload_n 3 (pc' := 33) dX11_read_32 rfl rfl rfl ?_
  refine ex_iflt (tgt := 41) (pc' := 36) dX11_read_33 (by decide) rfl (fun hc11 => ?_) (fun hc11 => ?_)
  · replace hf := if_t hc11 hf
    refine ex_iload_n 0 (pc' := 42) dX11_read_41 rfl rfl rfl ?_
    refine ex_bipush (v := (-4)) (pc' := 44) dX11_read_42 bp_m4 rfl ?_
    refine ex_icmpne (tgt := 50) (pc' := 47) dX11_read_44 (by decide) rfl (fun hc12 => ?_) (fun hc12 => ?_)
    · replace hf := if_t hc12 hf
      refine ex_bipush (v := (-4)) (pc' := 49) dX11_read_47 bp_m4 rfl ?_
      exact ex_iret dX11_read_49 rfl (hR _ _ (Option.some.inj hf).symm)
    · replace hf := if_f hc12 hf
      refine ex_iconst (v := 0) (pc' := 51) dX11_read_50 ic_0 rfl ?_
      refine ex_istore (lv' := [(4, .int 0), (3, .int s0), (0, .ref (gB G + 99)), (1, .int v1), (2, .int v2)]) (pc' := 53) dX11_read_51 (Nat.le_of_ble_eq_true rfl) rfl rfl ?_
      refine ex_sub (lv' := [(0, .ref (gB G + 99)), (1, .int v1), (3, .int s0), (4, .int 0)]) [2, 3, 1, 0] rfl ?_
      obtain ⟨I17, hq18, hf⟩ := of_bnd1 hf
      refine k_X11_read_l53 hO (fun I17' he => ?_) _ _ _ hq18
      cases he
      refine ex_aload_n 0 (pc' := 85) dX11_read_84 rfl rfl rfl ?_
      refine ex_getR (pc' := 88) dX11_read_85 fl_X11_9 rfl (sh11_k hO) (sh11_F0 hO) rfl ?_
      refine ex_iload_n 1 (pc' := 89) dX11_read_88 rfl rfl rfl ?_
      refine ex_iload_n 2 (pc' := 90) dX11_read_89 rfl rfl rfl ?_
      obtain ⟨hg19, hf⟩ := of_guard hf
      refine ex_iast (pc' := 91) dX11_read_90 (sh11_T0 hO) (inb_in hg19) rfl ?_
      obtain ⟨I20, hI20, hf⟩ := of_let hf
      rw [← hI20]
      refine ex_iload_n 2 (pc' := 92) dX11_read_91 rfl rfl rfl ?_
      exact ex_iret dX11_read_92 rfl (hR _ _ (Option.some.inj hf).symm)
  · replace hf := if_f hc11 hf
    refine ex_bipush (v := (-100)) (pc' := 38) dX11_read_36 bp_m100 rfl ?_
    refine ex_iload_n 3 (pc' := 39) dX11_read_38 rfl rfl rfl ?_
    refine ex_isub (pc' := 40) dX11_read_39 rfl ?_
    exact ex_iret dX11_read_40 rfl (hR _ _ (Option.some.inj hf).symm)
def f_X11_read (N : Nat) (v1 : Int32) (I : MI) : Option (Int32 × MI) := bnd1 (f_X11_isSix v1) fun r1 => (if r1 = 0 then some ((-1), I) else bnd1 (f_X11_faultAt N I) fun r4 => (if r4 < 0 then bnd2 (f_X11_textLetters N I) fun r7 I8 => f_X11_read_j26 N v1 r4 r7 I8 else f_X11_read_j26 N v1 r4 0 I))
set_option maxRecDepth 100000 in
set_option maxHeartbeats 4000000 in
theorem kb_X11_read {G : GX} {Q : State → Prop} {X : MX} (hO : shX11 X) {v1 : Int32}  {N : Nat} {I : MI} {L : ML} {out : Int32 × MI} (hf : f_X11_read N v1 I = some out) (hR : ∀ (z : Int32) (I' : MI), out = (z, I') → Q = RetQ G (some (.int z)) X I' L (0, 0)) : Ex G mX11_read rmX11_read Q (0, 0) X I L 0 [(0, .ref (gB G + 99)), (1, .int v1)] [] := by
  unfold f_X11_read at hf
  refine ex_iload_n 1 (pc' := 1) dX11_read_0 rfl rfl rfl ?_
  obtain ⟨r1, hq2, hf⟩ := of_bnd1 hf
  refine ex_callS_i (rm' := rmX11_isSix) (st := []) (pc' := 4) [.int v1] dX11_read_1 cl_X11_133 (k_X11_isSix G hq2) rfl rfl rfl (ROOM_of rfl) (Nat.le_of_ble_eq_true rfl) rfl rfl ?_
  refine ex_ifne (tgt := 9) (pc' := 7) dX11_read_4 (by decide) rfl (fun hc3 => ?_) (fun hc3 => ?_)
  · replace hf := if_t hc3 hf
    refine ex_iconst (v := (-1)) (pc' := 8) dX11_read_7 ic_m1 rfl ?_
    exact ex_iret dX11_read_8 rfl (hR _ _ (Option.some.inj hf).symm)
  · replace hf := if_f hc3 hf
    refine ex_aload_n 0 (pc' := 10) dX11_read_9 rfl rfl rfl ?_
    obtain ⟨r4, hq5, hf⟩ := of_bnd1 hf
    refine ex_callV_i (rm' := rmX11_faultAt) (st := []) (pc' := 13) [] dX11_read_10 cl_X11_304 (k_X11_faultAt G hO hq5) rfl (sh11_k hO) ⟨_, _, rfl⟩ rfl rfl (ROOM_of rfl) (Nat.le_of_ble_eq_true rfl) rfl rfl ?_
    refine ex_istore_n (lv' := [(2, .int r4), (0, .ref (gB G + 99)), (1, .int v1)]) (pc' := 14) dX11_read_13 rfl (Nat.le_of_ble_eq_true rfl) rfl rfl ?_
    refine ex_iload_n 0 (pc' := 15) dX11_read_14 rfl rfl rfl ?_
    refine ex_ifge (tgt := 25) (pc' := 18) dX11_read_15 (by decide) rfl (fun hc6 => ?_) (fun hc6 => ?_)
    · replace hf := if_t hc6 hf
      refine ex_aload_n 1 (pc' := 19) dX11_read_18 rfl rfl rfl ?_
      obtain ⟨r7, I8, hq9, hf⟩ := of_bnd2 hf
      refine ex_callV_i (rm' := rmX11_textLetters) (st := []) (pc' := 22) [] dX11_read_19 cl_X11_307 (k_X11_textLetters G hO hq9) rfl (sh11_k hO) ⟨_, _, rfl⟩ rfl rfl (ROOM_of rfl) (Nat.le_of_ble_eq_true rfl) rfl rfl ?_
      refine ex_goto (tgt := 26) dX11_read_22 (by decide) ?_
      refine ex_sub [1, 2, 0] rfl (k_X11_read_j26 hO  hf hR)
    · replace hf := if_f hc6 hf
      refine ex_iconst (v := 0) (pc' := 26) dX11_read_25 ic_0 rfl ?_
      refine ex_sub [1, 2, 0] rfl (k_X11_read_j26 hO  hf hR)
set_option maxRecDepth 100000 in
set_option maxHeartbeats 4000000 in
theorem k_X11_read (G : GX) {X : MX} (hO : shX11 X) {v1 : Int32}  {N : Nat} {I : MI} {L : ML} {z : Int32} {I' : MI} (hf : f_X11_read N v1 I = some (z, I')) : Con G mX11_read yX11_read rmX11_read (fun B => [.ref (B + 99), .int v1]) X I L (some (.int z)) X I' L :=
  Con.of (by decide) rfl (fun h => by cases h) (fun B => Nat.le_of_ble_eq_true rfl) (fun G => kb_X11_read hO  hf (fun _ _ he => by cases he; rfl))
-- X11_restore ('RookWordsModel', 'restore', '()I')
def rmX11_restore : RM := ((1, 22, 0, 0), false, (some FieldType.int))
def f_X11_restore_b12 (N : Nat)  (v1 : Int32) (I : MI) : Option ((Int32 × MI) ⊕ (MI)) := (if v1 < 6 then if inb v1 6 then if inb v1 6 then letv (upI I 100 (Int32.toNatClampNeg v1) (I 116 (Int32.toNatClampNeg v1))) fun I5 => if inb v1 6 then if inb v1 6 then letv (upI I5 103 (Int32.toNatClampNeg v1) (I5 119 (Int32.toNatClampNeg v1))) fun I8 => some (.inl (v1 + 1, I8)) else none else none else none else none else some (.inr I))
set_option maxRecDepth 100000 in
set_option maxHeartbeats 4000000 in
theorem k_X11_restore_b12 {G : GX} {Q : State → Prop} {X : MX} (hO : shX11 X)   {v1 : Int32} {N : Nat} {I : MI} {L : ML} {out : (Int32 × MI) ⊕ (MI)} (hf : f_X11_restore_b12 N v1 I = some out) (hC : ∀ (v1' : Int32) (I' : MI), out = .inl (v1', I') → Ex G mX11_restore rmX11_restore Q (0, 0) X I' L 12 [(0, .ref (gB G + 99)), (1, .int v1')] []) (hX : ∀ (I' : MI), out = .inr I' → Ex G mX11_restore rmX11_restore Q (0, 0) X I' L 48 [(0, .ref (gB G + 99))] []) : Ex G mX11_restore rmX11_restore Q (0, 0) X I L 12 [(0, .ref (gB G + 99)), (1, .int v1)] [] := by
  unfold f_X11_restore_b12 at hf
  refine ex_iload_n 1 (pc' := 13) dX11_restore_12 rfl rfl rfl ?_
  refine ex_bipush (v := 6) (pc' := 15) dX11_restore_13 bp_6 rfl ?_
  refine ex_icmpge (tgt := 48) (pc' := 18) dX11_restore_15 (by decide) rfl (fun hc2 => ?_) (fun hc2 => ?_)
  · replace hf := if_t hc2 hf
    refine ex_aload_n 0 (pc' := 19) dX11_restore_18 rfl rfl rfl ?_
    refine ex_getR (pc' := 22) dX11_restore_19 fl_X11_9 rfl (sh11_k hO) (sh11_F0 hO) rfl ?_
    refine ex_iload_n 1 (pc' := 23) dX11_restore_22 rfl rfl rfl ?_
    refine ex_aload_n 0 (pc' := 24) dX11_restore_23 rfl rfl rfl ?_
    refine ex_getR (pc' := 27) dX11_restore_24 fl_X11_61 rfl (sh11_k hO) (sh11_F21 hO) rfl ?_
    refine ex_iload_n 1 (pc' := 28) dX11_restore_27 rfl rfl rfl ?_
    obtain ⟨hg3, hf⟩ := of_guard hf
    refine ex_iald (pc' := 29) dX11_restore_28 (sh11_T21 hO) (inb_in hg3) rfl ?_
    obtain ⟨hg4, hf⟩ := of_guard hf
    refine ex_iast (pc' := 30) dX11_restore_29 (sh11_T0 hO) (inb_in hg4) rfl ?_
    obtain ⟨I5, hI5, hf⟩ := of_let hf
    rw [← hI5]
    refine ex_aload_n 0 (pc' := 31) dX11_restore_30 rfl rfl rfl ?_
    refine ex_getR (pc' := 34) dX11_restore_31 fl_X11_22 rfl (sh11_k hO) (sh11_F3 hO) rfl ?_
    refine ex_iload_n 1 (pc' := 35) dX11_restore_34 rfl rfl rfl ?_
    refine ex_aload_n 0 (pc' := 36) dX11_restore_35 rfl rfl rfl ?_
    refine ex_getR (pc' := 39) dX11_restore_36 fl_X11_70 rfl (sh11_k hO) (sh11_F24 hO) rfl ?_
    refine ex_iload_n 1 (pc' := 40) dX11_restore_39 rfl rfl rfl ?_
    obtain ⟨hg6, hf⟩ := of_guard hf
    refine ex_iald (pc' := 41) dX11_restore_40 (sh11_T24 hO) (inb_in hg6) rfl ?_
    obtain ⟨hg7, hf⟩ := of_guard hf
    refine ex_iast (pc' := 42) dX11_restore_41 (sh11_T3 hO) (inb_in hg7) rfl ?_
    obtain ⟨I8, hI8, hf⟩ := of_let hf
    rw [← hI8]
    refine ex_iincc (lv' := [(1, .int (v1 + 1)), (0, .ref (gB G + 99))]) 1 (pc' := 45) dX11_restore_42 rfl ic_1 (Nat.le_of_ble_eq_true rfl) rfl rfl ?_
    refine ex_goto (tgt := 12) dX11_restore_45 (by decide) ?_
    exact ex_sub [1, 0] rfl (hC _ _ (Option.some.inj hf).symm)
  · replace hf := if_f hc2 hf
    exact ex_sub [0] rfl (hX _ (Option.some.inj hf).symm)
def f_X11_restore_l12 (N : Nat)  (v1 : Int32) (I : MI) : Option (MI) := loopN (fun s => f_X11_restore_b12 N s.1 s.2) N (v1, I)
set_option maxRecDepth 100000 in
set_option maxHeartbeats 4000000 in
theorem k_X11_restore_l12 {G : GX} {Q : State → Prop} {X : MX} (hO : shX11 X)   {N0 : Nat} {L : ML} {out : (MI)} (hX : ∀ (I' : MI), out = I' → Ex G mX11_restore rmX11_restore Q (0, 0) X I' L 48 [(0, .ref (gB G + 99))] []) : ∀ (N : Nat) (v1 : Int32) (I : MI), loopN (fun s => f_X11_restore_b12 N0 s.1 s.2) N (v1, I) = some out → Ex G mX11_restore rmX11_restore Q (0, 0) X I L 12 [(0, .ref (gB G + 99)), (1, .int v1)] [] := by
  intro N
  induction N with
  | zero => intro v1 I hf; exact absurd (loopN_zero hf) id
  | succ n ih =>
    intro v1 I hf
    rcases loopN_succ hf with ⟨s, hb, hl⟩ | hb
    · obtain ⟨v1', I'⟩ := s
      refine k_X11_restore_b12 hO  hb (fun _ _ he => ?_) (fun _ he => by cases he)
      cases he
      exact ih v1' I' hl
    · exact k_X11_restore_b12 hO  hb (fun _ _ he => by cases he) (fun x0 he => hX x0 (Sum.inr.inj he))
def f_X11_restore_b50 (N : Nat)  (v1 : Int32) (I : MI) : Option ((Int32 × MI) ⊕ (MI)) := (if v1 < 72 then if inb v1 72 then if inb v1 72 then letv (upI I 101 (Int32.toNatClampNeg v1) (I 117 (Int32.toNatClampNeg v1))) fun I14 => some (.inl (v1 + 1, I14)) else none else none else some (.inr I))
set_option maxRecDepth 100000 in
set_option maxHeartbeats 4000000 in
theorem k_X11_restore_b50 {G : GX} {Q : State → Prop} {X : MX} (hO : shX11 X)   {v1 : Int32} {N : Nat} {I : MI} {L : ML} {out : (Int32 × MI) ⊕ (MI)} (hf : f_X11_restore_b50 N v1 I = some out) (hC : ∀ (v1' : Int32) (I' : MI), out = .inl (v1', I') → Ex G mX11_restore rmX11_restore Q (0, 0) X I' L 50 [(0, .ref (gB G + 99)), (1, .int v1')] []) (hX : ∀ (I' : MI), out = .inr I' → Ex G mX11_restore rmX11_restore Q (0, 0) X I' L 74 [(0, .ref (gB G + 99))] []) : Ex G mX11_restore rmX11_restore Q (0, 0) X I L 50 [(0, .ref (gB G + 99)), (1, .int v1)] [] := by
  unfold f_X11_restore_b50 at hf
  refine ex_iload_n 1 (pc' := 51) dX11_restore_50 rfl rfl rfl ?_
  refine ex_bipush (v := 72) (pc' := 53) dX11_restore_51 bp_72 rfl ?_
  refine ex_icmpge (tgt := 74) (pc' := 56) dX11_restore_53 (by decide) rfl (fun hc11 => ?_) (fun hc11 => ?_)
  · replace hf := if_t hc11 hf
    refine ex_aload_n 0 (pc' := 57) dX11_restore_56 rfl rfl rfl ?_
    refine ex_getR (pc' := 60) dX11_restore_57 fl_X11_15 rfl (sh11_k hO) (sh11_F1 hO) rfl ?_
    refine ex_iload_n 1 (pc' := 61) dX11_restore_60 rfl rfl rfl ?_
    refine ex_aload_n 0 (pc' := 62) dX11_restore_61 rfl rfl rfl ?_
    refine ex_getR (pc' := 65) dX11_restore_62 fl_X11_64 rfl (sh11_k hO) (sh11_F22 hO) rfl ?_
    refine ex_iload_n 1 (pc' := 66) dX11_restore_65 rfl rfl rfl ?_
    obtain ⟨hg12, hf⟩ := of_guard hf
    refine ex_iald (pc' := 67) dX11_restore_66 (sh11_T22 hO) (inb_in hg12) rfl ?_
    obtain ⟨hg13, hf⟩ := of_guard hf
    refine ex_iast (pc' := 68) dX11_restore_67 (sh11_T1 hO) (inb_in hg13) rfl ?_
    obtain ⟨I14, hI14, hf⟩ := of_let hf
    rw [← hI14]
    refine ex_iincc (lv' := [(1, .int (v1 + 1)), (0, .ref (gB G + 99))]) 1 (pc' := 71) dX11_restore_68 rfl ic_1 (Nat.le_of_ble_eq_true rfl) rfl rfl ?_
    refine ex_goto (tgt := 50) dX11_restore_71 (by decide) ?_
    exact ex_sub [1, 0] rfl (hC _ _ (Option.some.inj hf).symm)
  · replace hf := if_f hc11 hf
    exact ex_sub [0] rfl (hX _ (Option.some.inj hf).symm)
def f_X11_restore_l50 (N : Nat)  (v1 : Int32) (I : MI) : Option (MI) := loopN (fun s => f_X11_restore_b50 N s.1 s.2) N (v1, I)
set_option maxRecDepth 100000 in
set_option maxHeartbeats 4000000 in
theorem k_X11_restore_l50 {G : GX} {Q : State → Prop} {X : MX} (hO : shX11 X)   {N0 : Nat} {L : ML} {out : (MI)} (hX : ∀ (I' : MI), out = I' → Ex G mX11_restore rmX11_restore Q (0, 0) X I' L 74 [(0, .ref (gB G + 99))] []) : ∀ (N : Nat) (v1 : Int32) (I : MI), loopN (fun s => f_X11_restore_b50 N0 s.1 s.2) N (v1, I) = some out → Ex G mX11_restore rmX11_restore Q (0, 0) X I L 50 [(0, .ref (gB G + 99)), (1, .int v1)] [] := by
  intro N
  induction N with
  | zero => intro v1 I hf; exact absurd (loopN_zero hf) id
  | succ n ih =>
    intro v1 I hf
    rcases loopN_succ hf with ⟨s, hb, hl⟩ | hb
    · obtain ⟨v1', I'⟩ := s
      refine k_X11_restore_b50 hO  hb (fun _ _ he => ?_) (fun _ he => by cases he)
      cases he
      exact ih v1' I' hl
    · exact k_X11_restore_b50 hO  hb (fun _ _ he => by cases he) (fun x0 he => hX x0 (Sum.inr.inj he))
def f_X11_restore_b76 (N : Nat)  (v1 : Int32) (L : ML) : Option ((Int32 × ML) ⊕ (ML)) := (if v1 < 169 then if inb v1 169 then if inb v1 169 then letv (upL L 102 (Int32.toNatClampNeg v1) (L 118 (Int32.toNatClampNeg v1))) fun L20 => some (.inl (v1 + 1, L20)) else none else none else some (.inr L))
set_option maxRecDepth 100000 in
set_option maxHeartbeats 4000000 in
theorem k_X11_restore_b76 {G : GX} {Q : State → Prop} {X : MX} (hO : shX11 X)   {v1 : Int32} {N : Nat} {I : MI} {L : ML} {out : (Int32 × ML) ⊕ (ML)} (hf : f_X11_restore_b76 N v1 L = some out) (hC : ∀ (v1' : Int32) (L' : ML), out = .inl (v1', L') → Ex G mX11_restore rmX11_restore Q (0, 0) X I L' 76 [(0, .ref (gB G + 99)), (1, .int v1')] []) (hX : ∀ (L' : ML), out = .inr L' → Ex G mX11_restore rmX11_restore Q (0, 0) X I L' 101 [(0, .ref (gB G + 99))] []) : Ex G mX11_restore rmX11_restore Q (0, 0) X I L 76 [(0, .ref (gB G + 99)), (1, .int v1)] [] := by
  unfold f_X11_restore_b76 at hf
  refine ex_iload_n 1 (pc' := 77) dX11_restore_76 rfl rfl rfl ?_
  refine ex_sipush (v := 169) (pc' := 80) dX11_restore_77 sp_169 rfl ?_
  refine ex_icmpge (tgt := 101) (pc' := 83) dX11_restore_80 (by decide) rfl (fun hc17 => ?_) (fun hc17 => ?_)
  · replace hf := if_t hc17 hf
    refine ex_aload_n 0 (pc' := 84) dX11_restore_83 rfl rfl rfl ?_
    refine ex_getR (pc' := 87) dX11_restore_84 fl_X11_18 rfl (sh11_k hO) (sh11_F2 hO) rfl ?_
    refine ex_iload_n 1 (pc' := 88) dX11_restore_87 rfl rfl rfl ?_
    refine ex_aload_n 0 (pc' := 89) dX11_restore_88 rfl rfl rfl ?_
    refine ex_getR (pc' := 92) dX11_restore_89 fl_X11_67 rfl (sh11_k hO) (sh11_F23 hO) rfl ?_
    refine ex_iload_n 1 (pc' := 93) dX11_restore_92 rfl rfl rfl ?_
    obtain ⟨hg18, hf⟩ := of_guard hf
    refine ex_lald (pc' := 94) dX11_restore_93 (sh11_T23 hO) (inb_in hg18) rfl ?_
    obtain ⟨hg19, hf⟩ := of_guard hf
    refine ex_last (pc' := 95) dX11_restore_94 (sh11_T2 hO) (inb_in hg19) rfl ?_
    obtain ⟨L20, hL20, hf⟩ := of_let hf
    rw [← hL20]
    refine ex_iincc (lv' := [(1, .int (v1 + 1)), (0, .ref (gB G + 99))]) 1 (pc' := 98) dX11_restore_95 rfl ic_1 (Nat.le_of_ble_eq_true rfl) rfl rfl ?_
    refine ex_goto (tgt := 76) dX11_restore_98 (by decide) ?_
    exact ex_sub [1, 0] rfl (hC _ _ (Option.some.inj hf).symm)
  · replace hf := if_f hc17 hf
    exact ex_sub [0] rfl (hX _ (Option.some.inj hf).symm)
def f_X11_restore_l76 (N : Nat)  (v1 : Int32) (L : ML) : Option (ML) := loopN (fun s => f_X11_restore_b76 N s.1 s.2) N (v1, L)
set_option maxRecDepth 100000 in
set_option maxHeartbeats 4000000 in
theorem k_X11_restore_l76 {G : GX} {Q : State → Prop} {X : MX} (hO : shX11 X)   {N0 : Nat} {I : MI} {out : (ML)} (hX : ∀ (L' : ML), out = L' → Ex G mX11_restore rmX11_restore Q (0, 0) X I L' 101 [(0, .ref (gB G + 99))] []) : ∀ (N : Nat) (v1 : Int32) (L : ML), loopN (fun s => f_X11_restore_b76 N0 s.1 s.2) N (v1, L) = some out → Ex G mX11_restore rmX11_restore Q (0, 0) X I L 76 [(0, .ref (gB G + 99)), (1, .int v1)] [] := by
  intro N
  induction N with
  | zero => intro v1 L hf; exact absurd (loopN_zero hf) id
  | succ n ih =>
    intro v1 L hf
    rcases loopN_succ hf with ⟨s, hb, hl⟩ | hb
    · obtain ⟨v1', L'⟩ := s
      refine k_X11_restore_b76 hO  hb (fun _ _ he => ?_) (fun _ he => by cases he)
      cases he
      exact ih v1' L' hl
    · exact k_X11_restore_b76 hO  hb (fun _ _ he => by cases he) (fun x0 he => hX x0 (Sum.inr.inj he))
def f_X11_restore_b103 (N : Nat)  (v1 : Int32) (I : MI) : Option ((Int32 × MI) ⊕ (MI)) := (if v1 < 36 then if inb v1 36 then if inb v1 36 then letv (upI I 104 (Int32.toNatClampNeg v1) (I 120 (Int32.toNatClampNeg v1))) fun I26 => if inb v1 36 then if inb v1 36 then letv (upI I26 105 (Int32.toNatClampNeg v1) (I26 121 (Int32.toNatClampNeg v1))) fun I29 => some (.inl (v1 + 1, I29)) else none else none else none else none else some (.inr I))
set_option maxRecDepth 100000 in
set_option maxHeartbeats 4000000 in
theorem k_X11_restore_b103 {G : GX} {Q : State → Prop} {X : MX} (hO : shX11 X)   {v1 : Int32} {N : Nat} {I : MI} {L : ML} {out : (Int32 × MI) ⊕ (MI)} (hf : f_X11_restore_b103 N v1 I = some out) (hC : ∀ (v1' : Int32) (I' : MI), out = .inl (v1', I') → Ex G mX11_restore rmX11_restore Q (0, 0) X I' L 103 [(0, .ref (gB G + 99)), (1, .int v1')] []) (hX : ∀ (I' : MI), out = .inr I' → Ex G mX11_restore rmX11_restore Q (0, 0) X I' L 139 [(0, .ref (gB G + 99))] []) : Ex G mX11_restore rmX11_restore Q (0, 0) X I L 103 [(0, .ref (gB G + 99)), (1, .int v1)] [] := by
  unfold f_X11_restore_b103 at hf
  refine ex_iload_n 1 (pc' := 104) dX11_restore_103 rfl rfl rfl ?_
  refine ex_bipush (v := 36) (pc' := 106) dX11_restore_104 bp_36 rfl ?_
  refine ex_icmpge (tgt := 139) (pc' := 109) dX11_restore_106 (by decide) rfl (fun hc23 => ?_) (fun hc23 => ?_)
  · replace hf := if_t hc23 hf
    refine ex_aload_n 0 (pc' := 110) dX11_restore_109 rfl rfl rfl ?_
    refine ex_getR (pc' := 113) dX11_restore_110 fl_X11_25 rfl (sh11_k hO) (sh11_F4 hO) rfl ?_
    refine ex_iload_n 1 (pc' := 114) dX11_restore_113 rfl rfl rfl ?_
    refine ex_aload_n 0 (pc' := 115) dX11_restore_114 rfl rfl rfl ?_
    refine ex_getR (pc' := 118) dX11_restore_115 fl_X11_73 rfl (sh11_k hO) (sh11_F25 hO) rfl ?_
    refine ex_iload_n 1 (pc' := 119) dX11_restore_118 rfl rfl rfl ?_
    obtain ⟨hg24, hf⟩ := of_guard hf
    refine ex_iald (pc' := 120) dX11_restore_119 (sh11_T25 hO) (inb_in hg24) rfl ?_
    obtain ⟨hg25, hf⟩ := of_guard hf
    refine ex_iast (pc' := 121) dX11_restore_120 (sh11_T4 hO) (inb_in hg25) rfl ?_
    obtain ⟨I26, hI26, hf⟩ := of_let hf
    rw [← hI26]
    refine ex_aload_n 0 (pc' := 122) dX11_restore_121 rfl rfl rfl ?_
    refine ex_getR (pc' := 125) dX11_restore_122 fl_X11_28 rfl (sh11_k hO) (sh11_F5 hO) rfl ?_
    refine ex_iload_n 1 (pc' := 126) dX11_restore_125 rfl rfl rfl ?_
    refine ex_aload_n 0 (pc' := 127) dX11_restore_126 rfl rfl rfl ?_
    refine ex_getR (pc' := 130) dX11_restore_127 fl_X11_76 rfl (sh11_k hO) (sh11_F26 hO) rfl ?_
    refine ex_iload_n 1 (pc' := 131) dX11_restore_130 rfl rfl rfl ?_
    obtain ⟨hg27, hf⟩ := of_guard hf
    refine ex_iald (pc' := 132) dX11_restore_131 (sh11_T26 hO) (inb_in hg27) rfl ?_
    obtain ⟨hg28, hf⟩ := of_guard hf
    refine ex_iast (pc' := 133) dX11_restore_132 (sh11_T5 hO) (inb_in hg28) rfl ?_
    obtain ⟨I29, hI29, hf⟩ := of_let hf
    rw [← hI29]
    refine ex_iincc (lv' := [(1, .int (v1 + 1)), (0, .ref (gB G + 99))]) 1 (pc' := 136) dX11_restore_133 rfl ic_1 (Nat.le_of_ble_eq_true rfl) rfl rfl ?_
    refine ex_goto (tgt := 103) dX11_restore_136 (by decide) ?_
    exact ex_sub [1, 0] rfl (hC _ _ (Option.some.inj hf).symm)
  · replace hf := if_f hc23 hf
    exact ex_sub [0] rfl (hX _ (Option.some.inj hf).symm)
def f_X11_restore_l103 (N : Nat)  (v1 : Int32) (I : MI) : Option (MI) := loopN (fun s => f_X11_restore_b103 N s.1 s.2) N (v1, I)
set_option maxRecDepth 100000 in
set_option maxHeartbeats 4000000 in
theorem k_X11_restore_l103 {G : GX} {Q : State → Prop} {X : MX} (hO : shX11 X)   {N0 : Nat} {L : ML} {out : (MI)} (hX : ∀ (I' : MI), out = I' → Ex G mX11_restore rmX11_restore Q (0, 0) X I' L 139 [(0, .ref (gB G + 99))] []) : ∀ (N : Nat) (v1 : Int32) (I : MI), loopN (fun s => f_X11_restore_b103 N0 s.1 s.2) N (v1, I) = some out → Ex G mX11_restore rmX11_restore Q (0, 0) X I L 103 [(0, .ref (gB G + 99)), (1, .int v1)] [] := by
  intro N
  induction N with
  | zero => intro v1 I hf; exact absurd (loopN_zero hf) id
  | succ n ih =>
    intro v1 I hf
    rcases loopN_succ hf with ⟨s, hb, hl⟩ | hb
    · obtain ⟨v1', I'⟩ := s
      refine k_X11_restore_b103 hO  hb (fun _ _ he => ?_) (fun _ he => by cases he)
      cases he
      exact ih v1' I' hl
    · exact k_X11_restore_b103 hO  hb (fun _ _ he => by cases he) (fun x0 he => hX x0 (Sum.inr.inj he))
def f_X11_restore_b149 (N : Nat)  (v1 : Int32) (I : MI) : Option ((Int32 × MI) ⊕ (MI)) := (if v1 < 4 then if inb v1 4 then if inb v1 4 then letv (upI I 106 (Int32.toNatClampNeg v1) (I 122 (Int32.toNatClampNeg v1))) fun I36 => if inb v1 4 then if inb v1 4 then letv (upI I36 107 (Int32.toNatClampNeg v1) (I36 123 (Int32.toNatClampNeg v1))) fun I39 => some (.inl (v1 + 1, I39)) else none else none else none else none else some (.inr I))
set_option maxRecDepth 100000 in
set_option maxHeartbeats 4000000 in
theorem k_X11_restore_b149 {G : GX} {Q : State → Prop} {X : MX} (hO : shX11 X)   {v1 : Int32} {N : Nat} {I : MI} {L : ML} {out : (Int32 × MI) ⊕ (MI)} (hf : f_X11_restore_b149 N v1 I = some out) (hC : ∀ (v1' : Int32) (I' : MI), out = .inl (v1', I') → Ex G mX11_restore rmX11_restore Q (0, 0) X I' L 149 [(0, .ref (gB G + 99)), (1, .int v1')] []) (hX : ∀ (I' : MI), out = .inr I' → Ex G mX11_restore rmX11_restore Q (0, 0) X I' L 184 [(0, .ref (gB G + 99))] []) : Ex G mX11_restore rmX11_restore Q (0, 0) X I L 149 [(0, .ref (gB G + 99)), (1, .int v1)] [] := by
  unfold f_X11_restore_b149 at hf
  refine ex_iload_n 1 (pc' := 150) dX11_restore_149 rfl rfl rfl ?_
  refine ex_iconst (v := 4) (pc' := 151) dX11_restore_150 ic_4 rfl ?_
  refine ex_icmpge (tgt := 184) (pc' := 154) dX11_restore_151 (by decide) rfl (fun hc33 => ?_) (fun hc33 => ?_)
  · replace hf := if_t hc33 hf
    refine ex_aload_n 0 (pc' := 155) dX11_restore_154 rfl rfl rfl ?_
    refine ex_getR (pc' := 158) dX11_restore_155 fl_X11_31 rfl (sh11_k hO) (sh11_F7 hO) rfl ?_
    refine ex_iload_n 1 (pc' := 159) dX11_restore_158 rfl rfl rfl ?_
    refine ex_aload_n 0 (pc' := 160) dX11_restore_159 rfl rfl rfl ?_
    refine ex_getR (pc' := 163) dX11_restore_160 fl_X11_79 rfl (sh11_k hO) (sh11_F28 hO) rfl ?_
    refine ex_iload_n 1 (pc' := 164) dX11_restore_163 rfl rfl rfl ?_
    obtain ⟨hg34, hf⟩ := of_guard hf
    refine ex_iald (pc' := 165) dX11_restore_164 (sh11_T28 hO) (inb_in hg34) rfl ?_
    obtain ⟨hg35, hf⟩ := of_guard hf
    refine ex_iast (pc' := 166) dX11_restore_165 (sh11_T7 hO) (inb_in hg35) rfl ?_
    obtain ⟨I36, hI36, hf⟩ := of_let hf
    rw [← hI36]
    refine ex_aload_n 0 (pc' := 167) dX11_restore_166 rfl rfl rfl ?_
    refine ex_getR (pc' := 170) dX11_restore_167 fl_X11_34 rfl (sh11_k hO) (sh11_F8 hO) rfl ?_
    refine ex_iload_n 1 (pc' := 171) dX11_restore_170 rfl rfl rfl ?_
    refine ex_aload_n 0 (pc' := 172) dX11_restore_171 rfl rfl rfl ?_
    refine ex_getR (pc' := 175) dX11_restore_172 fl_X11_82 rfl (sh11_k hO) (sh11_F29 hO) rfl ?_
    refine ex_iload_n 1 (pc' := 176) dX11_restore_175 rfl rfl rfl ?_
    obtain ⟨hg37, hf⟩ := of_guard hf
    refine ex_iald (pc' := 177) dX11_restore_176 (sh11_T29 hO) (inb_in hg37) rfl ?_
    obtain ⟨hg38, hf⟩ := of_guard hf
    refine ex_iast (pc' := 178) dX11_restore_177 (sh11_T8 hO) (inb_in hg38) rfl ?_
    obtain ⟨I39, hI39, hf⟩ := of_let hf
    rw [← hI39]
    refine ex_iincc (lv' := [(1, .int (v1 + 1)), (0, .ref (gB G + 99))]) 1 (pc' := 181) dX11_restore_178 rfl ic_1 (Nat.le_of_ble_eq_true rfl) rfl rfl ?_
    refine ex_goto (tgt := 149) dX11_restore_181 (by decide) ?_
    exact ex_sub [1, 0] rfl (hC _ _ (Option.some.inj hf).symm)
  · replace hf := if_f hc33 hf
    exact ex_sub [0] rfl (hX _ (Option.some.inj hf).symm)
def f_X11_restore_l149 (N : Nat)  (v1 : Int32) (I : MI) : Option (MI) := loopN (fun s => f_X11_restore_b149 N s.1 s.2) N (v1, I)
set_option maxRecDepth 100000 in
set_option maxHeartbeats 4000000 in
theorem k_X11_restore_l149 {G : GX} {Q : State → Prop} {X : MX} (hO : shX11 X)   {N0 : Nat} {L : ML} {out : (MI)} (hX : ∀ (I' : MI), out = I' → Ex G mX11_restore rmX11_restore Q (0, 0) X I' L 184 [(0, .ref (gB G + 99))] []) : ∀ (N : Nat) (v1 : Int32) (I : MI), loopN (fun s => f_X11_restore_b149 N0 s.1 s.2) N (v1, I) = some out → Ex G mX11_restore rmX11_restore Q (0, 0) X I L 149 [(0, .ref (gB G + 99)), (1, .int v1)] [] := by
  intro N
  induction N with
  | zero => intro v1 I hf; exact absurd (loopN_zero hf) id
  | succ n ih =>
    intro v1 I hf
    rcases loopN_succ hf with ⟨s, hb, hl⟩ | hb
    · obtain ⟨v1', I'⟩ := s
      refine k_X11_restore_b149 hO  hb (fun _ _ he => ?_) (fun _ he => by cases he)
      cases he
      exact ih v1' I' hl
    · exact k_X11_restore_b149 hO  hb (fun _ _ he => by cases he) (fun x0 he => hX x0 (Sum.inr.inj he))
def f_X11_restore (N : Nat)  (I : MI) (L : ML) : Option (Int32 × MI × ML) := (if (I 99 20) = 0 then some ((-3), I, L) else bnd1 (f_X11_restore_l12 N 0 I) fun I9 => bnd1 (f_X11_restore_l50 N 0 I9) fun I15 => bnd1 (f_X11_restore_l76 N 0 L) fun L21 => bnd1 (f_X11_restore_l103 N 0 I15) fun I30 => letv (upI I30 99 6 (I30 99 27)) fun I32 => bnd1 (f_X11_restore_l149 N 0 I32) fun I40 => letv (upI I40 99 9 0) fun I42 => bnd1 (f_X11_allLetters N I42) fun r43 => some (r43, I42, L21))
set_option maxRecDepth 100000 in
set_option maxHeartbeats 4000000 in
theorem kb_X11_restore {G : GX} {Q : State → Prop} {X : MX} (hO : shX11 X)   {N : Nat} {I : MI} {L : ML} {out : Int32 × MI × ML} (hf : f_X11_restore N I L = some out) (hR : ∀ (z : Int32) (I' : MI) (L' : ML), out = (z, I', L') → Q = RetQ G (some (.int z)) X I' L' (0, 0)) : Ex G mX11_restore rmX11_restore Q (0, 0) X I L 0 [(0, .ref (gB G + 99))] [] := by
  unfold f_X11_restore at hf
  refine ex_aload_n 0 (pc' := 1) dX11_restore_0 rfl rfl rfl ?_
  refine ex_getI (pc' := 4) dX11_restore_1 fl_X11_316 rfl (sh11_k hO) rfl ?_
  refine ex_ifne (tgt := 10) (pc' := 7) dX11_restore_4 (by decide) rfl (fun hc1 => ?_) (fun hc1 => ?_)
  · replace hf := if_t hc1 hf
    refine ex_bipush (v := (-3)) (pc' := 9) dX11_restore_7 bp_m3 rfl ?_
    exact ex_iret dX11_restore_9 rfl (hR _ _ _ (Option.some.inj hf).symm)
  · replace hf := if_f hc1 hf
    refine ex_iconst (v := 0) (pc' := 11) dX11_restore_10 ic_0 rfl ?_
    refine ex_istore_n (lv' := [(1, .int 0), (0, .ref (gB G + 99))]) (pc' := 12) dX11_restore_11 rfl (Nat.le_of_ble_eq_true rfl) rfl rfl ?_
    refine ex_sub (lv' := [(0, .ref (gB G + 99)), (1, .int 0)]) [1, 0] rfl ?_
    obtain ⟨I9, hq10, hf⟩ := of_bnd1 hf
    refine k_X11_restore_l12 hO (fun I9' he => ?_) _ _ _ hq10
    cases he
    refine ex_iconst (v := 0) (pc' := 49) dX11_restore_48 ic_0 rfl ?_
    refine ex_istore_n (lv' := [(1, .int 0), (0, .ref (gB G + 99))]) (pc' := 50) dX11_restore_49 rfl (Nat.le_of_ble_eq_true rfl) rfl rfl ?_
    refine ex_sub (lv' := [(0, .ref (gB G + 99)), (1, .int 0)]) [1, 0] rfl ?_
    obtain ⟨I15, hq16, hf⟩ := of_bnd1 hf
    refine k_X11_restore_l50 hO (fun I15' he => ?_) _ _ _ hq16
    cases he
    refine ex_iconst (v := 0) (pc' := 75) dX11_restore_74 ic_0 rfl ?_
    refine ex_istore_n (lv' := [(1, .int 0), (0, .ref (gB G + 99))]) (pc' := 76) dX11_restore_75 rfl (Nat.le_of_ble_eq_true rfl) rfl rfl ?_
    refine ex_sub (lv' := [(0, .ref (gB G + 99)), (1, .int 0)]) [1, 0] rfl ?_
    obtain ⟨L21, hq22, hf⟩ := of_bnd1 hf
    refine k_X11_restore_l76 hO (fun L21' he => ?_) _ _ _ hq22
    cases he
    refine ex_iconst (v := 0) (pc' := 102) dX11_restore_101 ic_0 rfl ?_
    refine ex_istore_n (lv' := [(1, .int 0), (0, .ref (gB G + 99))]) (pc' := 103) dX11_restore_102 rfl (Nat.le_of_ble_eq_true rfl) rfl rfl ?_
    refine ex_sub (lv' := [(0, .ref (gB G + 99)), (1, .int 0)]) [1, 0] rfl ?_
    obtain ⟨I30, hq31, hf⟩ := of_bnd1 hf
    refine k_X11_restore_l103 hO (fun I30' he => ?_) _ _ _ hq31
    cases he
    refine ex_aload_n 0 (pc' := 140) dX11_restore_139 rfl rfl rfl ?_
    refine ex_aload_n 0 (pc' := 141) dX11_restore_140 rfl rfl rfl ?_
    refine ex_getI (pc' := 144) dX11_restore_141 fl_X11_320 rfl (sh11_k hO) rfl ?_
    refine ex_putI (pc' := 147) dX11_restore_144 fl_X11_234 rfl (sh11_k hO) rfl ?_
    obtain ⟨I32, hI32, hf⟩ := of_let hf
    rw [← hI32]
    refine ex_iconst (v := 0) (pc' := 148) dX11_restore_147 ic_0 rfl ?_
    refine ex_istore_n (lv' := [(1, .int 0), (0, .ref (gB G + 99))]) (pc' := 149) dX11_restore_148 rfl (Nat.le_of_ble_eq_true rfl) rfl rfl ?_
    refine ex_sub (lv' := [(0, .ref (gB G + 99)), (1, .int 0)]) [1, 0] rfl ?_
    obtain ⟨I40, hq41, hf⟩ := of_bnd1 hf
    refine k_X11_restore_l149 hO (fun I40' he => ?_) _ _ _ hq41
    cases he
    refine ex_aload_n 0 (pc' := 185) dX11_restore_184 rfl rfl rfl ?_
    refine ex_iconst (v := 0) (pc' := 186) dX11_restore_185 ic_0 rfl ?_
    refine ex_putI (pc' := 189) dX11_restore_186 fl_X11_175 rfl (sh11_k hO) rfl ?_
    obtain ⟨I42, hI42, hf⟩ := of_let hf
    rw [← hI42]
    refine ex_aload_n 0 (pc' := 190) dX11_restore_189 rfl rfl rfl ?_
    obtain ⟨r43, hq44, hf⟩ := of_bnd1 hf
    refine ex_callV_i (rm' := rmX11_allLetters) (st := []) (pc' := 193) [] dX11_restore_190 cl_X11_323 (k_X11_allLetters G hO hq44) rfl (sh11_k hO) ⟨_, _, rfl⟩ rfl rfl (ROOM_of rfl) (Nat.le_of_ble_eq_true rfl) rfl rfl ?_
    exact ex_iret dX11_restore_193 rfl (hR _ _ _ (Option.some.inj hf).symm)
set_option maxRecDepth 100000 in
set_option maxHeartbeats 4000000 in
theorem k_X11_restore (G : GX) {X : MX} (hO : shX11 X)   {N : Nat} {I : MI} {L : ML} {z : Int32} {I' : MI} {L' : ML} (hf : f_X11_restore N I L = some (z, I', L')) : Con G mX11_restore yX11_restore rmX11_restore (fun B => [.ref (B + 99)]) X I L (some (.int z)) X I' L' :=
  Con.of (by decide) rfl (fun h => by cases h) (fun B => Nat.le_of_ble_eq_true rfl) (fun G => kb_X11_restore hO  hf (fun _ _ _ he => by cases he; rfl))
-- X11_row ('RookWordsModel', 'row', '(II)I')
def rmX11_row : RM := ((2, 45, 0, 0), false, (some FieldType.int))
def f_X11_row (v1 : Int32) (v2 : Int32) (I : MI) : Option (Int32) := bnd1 (f_X11_isSix v1) fun r1 => (if r1 = 0 then some (-1) else if inb v1 6 then bnd1 (f_X11_in (Int32.toInt64 v2) 0 (Int32.toInt64 ((I 103 (Int32.toNatClampNeg v1)) - 1))) fun r5 => (if r5 = 0 then some (-1) else if inb ((6 * v1) + v2) 36 then some (I 104 (Int32.toNatClampNeg ((6 * v1) + v2))) else none) else none)
set_option maxRecDepth 100000 in
set_option maxHeartbeats 4000000 in
theorem kb_X11_row {G : GX} {Q : State → Prop} {X : MX} (hO : shX11 X) {v1 : Int32} {v2 : Int32}  {I : MI} {L : ML} {out : Int32} (hf : f_X11_row v1 v2 I = some out) (hR : ∀ (z : Int32), out = z → Q = RetQ G (some (.int z)) X I L (0, 0)) : Ex G mX11_row rmX11_row Q (0, 0) X I L 0 [(0, .ref (gB G + 99)), (1, .int v1), (2, .int v2)] [] := by
  unfold f_X11_row at hf
  refine ex_iload_n 1 (pc' := 1) dX11_row_0 rfl rfl rfl ?_
  obtain ⟨r1, hq2, hf⟩ := of_bnd1 hf
  refine ex_callS_i (rm' := rmX11_isSix) (st := []) (pc' := 4) [.int v1] dX11_row_1 cl_X11_133 (k_X11_isSix G hq2) rfl rfl rfl (ROOM_of rfl) (Nat.le_of_ble_eq_true rfl) rfl rfl ?_
  refine ex_ifeq (tgt := 39) (pc' := 7) dX11_row_4 (by decide) rfl (fun hc3 => ?_) (fun hc3 => ?_)
  · replace hf := if_t hc3 hf
    refine ex_iconst (v := (-1)) (pc' := 40) dX11_row_39 ic_m1 rfl ?_
    exact ex_iret dX11_row_40 rfl (hR _ (Option.some.inj hf).symm)
  · replace hf := if_f hc3 hf
    refine ex_iload_n 2 (pc' := 8) dX11_row_7 rfl rfl rfl ?_
    refine ex_i2l (pc' := 9) dX11_row_8 rfl ?_
    refine ex_lconst (v := 0) (pc' := 10) dX11_row_9 lc_0 rfl ?_
    refine ex_aload_n 0 (pc' := 11) dX11_row_10 rfl rfl rfl ?_
    refine ex_getR (pc' := 14) dX11_row_11 fl_X11_22 rfl (sh11_k hO) (sh11_F3 hO) rfl ?_
    refine ex_iload_n 1 (pc' := 15) dX11_row_14 rfl rfl rfl ?_
    obtain ⟨hg4, hf⟩ := of_guard hf
    refine ex_iald (pc' := 16) dX11_row_15 (sh11_T3 hO) (inb_in hg4) rfl ?_
    refine ex_iconst (v := 1) (pc' := 17) dX11_row_16 ic_1 rfl ?_
    refine ex_isub (pc' := 18) dX11_row_17 rfl ?_
    refine ex_i2l (pc' := 19) dX11_row_18 rfl ?_
    obtain ⟨r5, hq6, hf⟩ := of_bnd1 hf
    refine ex_callS_i (rm' := rmX11_in) (st := []) (pc' := 22) [.long (Int32.toInt64 v2), .long 0, .long (Int32.toInt64 ((I 103 (Int32.toNatClampNeg v1)) - 1))] dX11_row_19 cl_X11_129 (k_X11_in G hq6) rfl rfl rfl (ROOM_of rfl) (Nat.le_of_ble_eq_true rfl) rfl rfl ?_
    refine ex_ifeq (tgt := 39) (pc' := 25) dX11_row_22 (by decide) rfl (fun hc7 => ?_) (fun hc7 => ?_)
    · replace hf := if_t hc7 hf
      refine ex_iconst (v := (-1)) (pc' := 40) dX11_row_39 ic_m1 rfl ?_
      exact ex_iret dX11_row_40 rfl (hR _ (Option.some.inj hf).symm)
    · replace hf := if_f hc7 hf
      refine ex_aload_n 0 (pc' := 26) dX11_row_25 rfl rfl rfl ?_
      refine ex_getR (pc' := 29) dX11_row_26 fl_X11_25 rfl (sh11_k hO) (sh11_F4 hO) rfl ?_
      refine ex_bipush (v := 6) (pc' := 31) dX11_row_29 bp_6 rfl ?_
      refine ex_iload_n 1 (pc' := 32) dX11_row_31 rfl rfl rfl ?_
      refine ex_imul (pc' := 33) dX11_row_32 rfl ?_
      refine ex_iload_n 2 (pc' := 34) dX11_row_33 rfl rfl rfl ?_
      refine ex_iadd (pc' := 35) dX11_row_34 rfl ?_
      obtain ⟨hg8, hf⟩ := of_guard hf
      refine ex_iald (pc' := 36) dX11_row_35 (sh11_T4 hO) (inb_in hg8) rfl ?_
      refine ex_goto (tgt := 40) dX11_row_36 (by decide) ?_
      exact ex_iret dX11_row_40 rfl (hR _ (Option.some.inj hf).symm)
set_option maxRecDepth 100000 in
set_option maxHeartbeats 4000000 in
theorem k_X11_row (G : GX) {X : MX} (hO : shX11 X) {v1 : Int32} {v2 : Int32}  {I : MI} {L : ML} {z : Int32} (hf : f_X11_row v1 v2 I = some z) : Con G mX11_row yX11_row rmX11_row (fun B => [.ref (B + 99), .int v1, .int v2]) X I L (some (.int z)) X I L :=
  Con.of (by decide) rfl (fun h => by cases h) (fun B => Nat.le_of_ble_eq_true rfl) (fun G => kb_X11_row hO  hf (fun _ he => by cases he; rfl))
theorem co_X11_237 : Cond.constantLong RX11 237 (9999) ∈ lwg := lwg_at 1300 (by decide +kernel) rfl
-- X11_see ('RookWordsModel', 'see', '(II)I')
def rmX11_see : RM := ((1, 25, 0, 0), false, (some FieldType.int))
def f_X11_see (v1 : Int32) (v2 : Int32) (I : MI) : Option (Int32 × MI) := (if v1 = (-1) then letv (upI I 99 6 0) fun I2 => some (0, I2) else bnd1 (f_X11_in (Int32.toInt64 v1) 0 6) fun r3 => (if r3 = 0 then some ((-1), I) else bnd1 (f_X11_in (Int32.toInt64 v2) 0 9999) fun r6 => (if r6 = 0 then some ((-2), I) else (if (I 99 6) = 4 then some ((-4), I) else if inb (I 99 6) 4 then letv (upI I 106 (Int32.toNatClampNeg (I 99 6)) v1) fun I11 => if inb (I11 99 6) 4 then letv (upI I11 107 (Int32.toNatClampNeg (I11 99 6)) v2) fun I13 => letv (upI I13 99 6 ((I13 99 6) + 1)) fun I14 => some (I14 99 6, I14) else none else none))))
set_option maxRecDepth 100000 in
set_option maxHeartbeats 4000000 in
theorem kb_X11_see {G : GX} {Q : State → Prop} {X : MX} (hO : shX11 X) {v1 : Int32} {v2 : Int32}  {I : MI} {L : ML} {out : Int32 × MI} (hf : f_X11_see v1 v2 I = some out) (hR : ∀ (z : Int32) (I' : MI), out = (z, I') → Q = RetQ G (some (.int z)) X I' L (0, 0)) : Ex G mX11_see rmX11_see Q (0, 0) X I L 0 [(0, .ref (gB G + 99)), (1, .int v1), (2, .int v2)] [] := by
  unfold f_X11_see at hf
  refine ex_iload_n 1 (pc' := 1) dX11_see_0 rfl rfl rfl ?_
  refine ex_iconst (v := (-1)) (pc' := 2) dX11_see_1 ic_m1 rfl ?_
  refine ex_icmpne (tgt := 12) (pc' := 5) dX11_see_2 (by decide) rfl (fun hc1 => ?_) (fun hc1 => ?_)
  · replace hf := if_t hc1 hf
    refine ex_aload_n 0 (pc' := 6) dX11_see_5 rfl rfl rfl ?_
    refine ex_iconst (v := 0) (pc' := 7) dX11_see_6 ic_0 rfl ?_
    refine ex_putI (pc' := 10) dX11_see_7 fl_X11_234 rfl (sh11_k hO) rfl ?_
    obtain ⟨I2, hI2, hf⟩ := of_let hf
    rw [← hI2]
    refine ex_iconst (v := 0) (pc' := 11) dX11_see_10 ic_0 rfl ?_
    exact ex_iret dX11_see_11 rfl (hR _ _ (Option.some.inj hf).symm)
  · replace hf := if_f hc1 hf
    refine ex_iload_n 1 (pc' := 13) dX11_see_12 rfl rfl rfl ?_
    refine ex_i2l (pc' := 14) dX11_see_13 rfl ?_
    refine ex_lconst (v := 0) (pc' := 15) dX11_see_14 lc_0 rfl ?_
    refine ex_ldc2 (v := 6) (pc' := 18) dX11_see_15 co_X11_137 rfl ?_
    obtain ⟨r3, hq4, hf⟩ := of_bnd1 hf
    refine ex_callS_i (rm' := rmX11_in) (st := []) (pc' := 21) [.long (Int32.toInt64 v1), .long 0, .long 6] dX11_see_18 cl_X11_129 (k_X11_in G hq4) rfl rfl rfl (ROOM_of rfl) (Nat.le_of_ble_eq_true rfl) rfl rfl ?_
    refine ex_ifne (tgt := 26) (pc' := 24) dX11_see_21 (by decide) rfl (fun hc5 => ?_) (fun hc5 => ?_)
    · replace hf := if_t hc5 hf
      refine ex_iconst (v := (-1)) (pc' := 25) dX11_see_24 ic_m1 rfl ?_
      exact ex_iret dX11_see_25 rfl (hR _ _ (Option.some.inj hf).symm)
    · replace hf := if_f hc5 hf
      refine ex_iload_n 2 (pc' := 27) dX11_see_26 rfl rfl rfl ?_
      refine ex_i2l (pc' := 28) dX11_see_27 rfl ?_
      refine ex_lconst (v := 0) (pc' := 29) dX11_see_28 lc_0 rfl ?_
      refine ex_ldc2 (v := 9999) (pc' := 32) dX11_see_29 co_X11_237 rfl ?_
      obtain ⟨r6, hq7, hf⟩ := of_bnd1 hf
      refine ex_callS_i (rm' := rmX11_in) (st := []) (pc' := 35) [.long (Int32.toInt64 v2), .long 0, .long 9999] dX11_see_32 cl_X11_129 (k_X11_in G hq7) rfl rfl rfl (ROOM_of rfl) (Nat.le_of_ble_eq_true rfl) rfl rfl ?_
      refine ex_ifne (tgt := 41) (pc' := 38) dX11_see_35 (by decide) rfl (fun hc8 => ?_) (fun hc8 => ?_)
      · replace hf := if_t hc8 hf
        refine ex_bipush (v := (-2)) (pc' := 40) dX11_see_38 bp_m2 rfl ?_
        exact ex_iret dX11_see_40 rfl (hR _ _ (Option.some.inj hf).symm)
      · replace hf := if_f hc8 hf
        refine ex_aload_n 0 (pc' := 42) dX11_see_41 rfl rfl rfl ?_
        refine ex_getI (pc' := 45) dX11_see_42 fl_X11_234 rfl (sh11_k hO) rfl ?_
        refine ex_iconst (v := 4) (pc' := 46) dX11_see_45 ic_4 rfl ?_
        refine ex_icmpne (tgt := 52) (pc' := 49) dX11_see_46 (by decide) rfl (fun hc9 => ?_) (fun hc9 => ?_)
        · replace hf := if_t hc9 hf
          refine ex_bipush (v := (-4)) (pc' := 51) dX11_see_49 bp_m4 rfl ?_
          exact ex_iret dX11_see_51 rfl (hR _ _ (Option.some.inj hf).symm)
        · replace hf := if_f hc9 hf
          refine ex_aload_n 0 (pc' := 53) dX11_see_52 rfl rfl rfl ?_
          refine ex_getR (pc' := 56) dX11_see_53 fl_X11_31 rfl (sh11_k hO) (sh11_F7 hO) rfl ?_
          refine ex_aload_n 0 (pc' := 57) dX11_see_56 rfl rfl rfl ?_
          refine ex_getI (pc' := 60) dX11_see_57 fl_X11_234 rfl (sh11_k hO) rfl ?_
          refine ex_iload_n 1 (pc' := 61) dX11_see_60 rfl rfl rfl ?_
          obtain ⟨hg10, hf⟩ := of_guard hf
          refine ex_iast (pc' := 62) dX11_see_61 (sh11_T7 hO) (inb_in hg10) rfl ?_
          obtain ⟨I11, hI11, hf⟩ := of_let hf
          rw [← hI11]
          refine ex_aload_n 0 (pc' := 63) dX11_see_62 rfl rfl rfl ?_
          refine ex_getR (pc' := 66) dX11_see_63 fl_X11_34 rfl (sh11_k hO) (sh11_F8 hO) rfl ?_
          refine ex_aload_n 0 (pc' := 67) dX11_see_66 rfl rfl rfl ?_
          refine ex_getI (pc' := 70) dX11_see_67 fl_X11_234 rfl (sh11_k hO) rfl ?_
          refine ex_iload_n 2 (pc' := 71) dX11_see_70 rfl rfl rfl ?_
          obtain ⟨hg12, hf⟩ := of_guard hf
          refine ex_iast (pc' := 72) dX11_see_71 (sh11_T8 hO) (inb_in hg12) rfl ?_
          obtain ⟨I13, hI13, hf⟩ := of_let hf
          rw [← hI13]
          refine ex_aload_n 0 (pc' := 73) dX11_see_72 rfl rfl rfl ?_
          refine ex_dup (pc' := 74) dX11_see_73 rfl rfl ?_
          refine ex_getI (pc' := 77) dX11_see_74 fl_X11_234 rfl (sh11_k hO) rfl ?_
          refine ex_iconst (v := 1) (pc' := 78) dX11_see_77 ic_1 rfl ?_
          refine ex_iadd (pc' := 79) dX11_see_78 rfl ?_
          refine ex_putI (pc' := 82) dX11_see_79 fl_X11_234 rfl (sh11_k hO) rfl ?_
          obtain ⟨I14, hI14, hf⟩ := of_let hf
          rw [← hI14]
          refine ex_aload_n 0 (pc' := 83) dX11_see_82 rfl rfl rfl ?_
          refine ex_getI (pc' := 86) dX11_see_83 fl_X11_234 rfl (sh11_k hO) rfl ?_
          exact ex_iret dX11_see_86 rfl (hR _ _ (Option.some.inj hf).symm)
set_option maxRecDepth 100000 in
set_option maxHeartbeats 4000000 in
theorem k_X11_see (G : GX) {X : MX} (hO : shX11 X) {v1 : Int32} {v2 : Int32}  {I : MI} {L : ML} {z : Int32} {I' : MI} (hf : f_X11_see v1 v2 I = some (z, I')) : Con G mX11_see yX11_see rmX11_see (fun B => [.ref (B + 99), .int v1, .int v2]) X I L (some (.int z)) X I' L :=
  Con.of (by decide) rfl (fun h => by cases h) (fun B => Nat.le_of_ble_eq_true rfl) (fun G => kb_X11_see hO  hf (fun _ _ he => by cases he; rfl))
theorem fl_X11_124 : FLD RX11 124 11 50 true := ⟨RX11, TX11, 51, rfl, inX11, by decide, lwg_at 984 (by decide +kernel) rfl, nmX11, tyX11_ok, rfl, rfl⟩
-- X11_shift ('RookWordsModel', 'shift', '(IIIII)I')
def rmX11_shift : RM := ((2, 45, 0, 0), false, (some FieldType.int))
def f_X11_shift_b110 (N : Nat) (v1 : Int32) (v2 : Int32) (v3 : Int32) (v4 : Int32) (v5 : Int32) (v6 : Int32) (L : ML) : Option ((Int32 × ML) ⊕ (ML)) := (if v6 < v5 then if inb (((60 * v1) + v2) + v6) 360 then if inb v6 60 then letv (upL L 137 (Int32.toNatClampNeg v6) (L 115 (Int32.toNatClampNeg (((60 * v1) + v2) + v6)))) fun L24 => some (.inl (v6 + 1, L24)) else none else none else some (.inr L))
set_option maxRecDepth 100000 in
set_option maxHeartbeats 4000000 in
theorem k_X11_shift_b110 {G : GX} {Q : State → Prop} {X : MX} (hO : shX11 X) {v1 : Int32} {v2 : Int32} {v3 : Int32} {v4 : Int32} {v5 : Int32}  {v6 : Int32} {N : Nat} {I : MI} {L : ML} {out : (Int32 × ML) ⊕ (ML)} (hf : f_X11_shift_b110 N v1 v2 v3 v4 v5 v6 L = some out) (hC : ∀ (v6' : Int32) (L' : ML), out = .inl (v6', L') → Ex G mX11_shift rmX11_shift Q (0, 0) X I L' 110 [(0, .ref (gB G + 99)), (1, .int v1), (2, .int v2), (3, .int v3), (4, .int v4), (5, .int v5), (6, .int v6')] []) (hX : ∀ (L' : ML), out = .inr L' → Ex G mX11_shift rmX11_shift Q (0, 0) X I L' 144 [(0, .ref (gB G + 99)), (3, .int v3), (4, .int v4), (5, .int v5)] []) : Ex G mX11_shift rmX11_shift Q (0, 0) X I L 110 [(0, .ref (gB G + 99)), (1, .int v1), (2, .int v2), (3, .int v3), (4, .int v4), (5, .int v5), (6, .int v6)] [] := by
  unfold f_X11_shift_b110 at hf
  refine ex_iload 6 (pc' := 112) dX11_shift_110 rfl rfl ?_
  refine ex_iload 5 (pc' := 114) dX11_shift_112 rfl rfl ?_
  refine ex_icmpge (tgt := 144) (pc' := 117) dX11_shift_114 (by decide) rfl (fun hc21 => ?_) (fun hc21 => ?_)
  · replace hf := if_t hc21 hf
    refine ex_aload_n 0 (pc' := 118) dX11_shift_117 rfl rfl rfl ?_
    refine ex_getR (pc' := 121) dX11_shift_118 fl_X11_124 rfl (sh11_k hO) (sh11_F50 hO) rfl ?_
    refine ex_iload 6 (pc' := 123) dX11_shift_121 rfl rfl ?_
    refine ex_aload_n 0 (pc' := 124) dX11_shift_123 rfl rfl rfl ?_
    refine ex_getR (pc' := 127) dX11_shift_124 fl_X11_58 rfl (sh11_k hO) (sh11_F19 hO) rfl ?_
    refine ex_bipush (v := 60) (pc' := 129) dX11_shift_127 bp_60 rfl ?_
    refine ex_iload_n 1 (pc' := 130) dX11_shift_129 rfl rfl rfl ?_
    refine ex_imul (pc' := 131) dX11_shift_130 rfl ?_
    refine ex_iload_n 2 (pc' := 132) dX11_shift_131 rfl rfl rfl ?_
    refine ex_iadd (pc' := 133) dX11_shift_132 rfl ?_
    refine ex_iload 6 (pc' := 135) dX11_shift_133 rfl rfl ?_
    refine ex_iadd (pc' := 136) dX11_shift_135 rfl ?_
    obtain ⟨hg22, hf⟩ := of_guard hf
    refine ex_lald (pc' := 137) dX11_shift_136 (sh11_T19 hO) (inb_in hg22) rfl ?_
    obtain ⟨hg23, hf⟩ := of_guard hf
    refine ex_last (pc' := 138) dX11_shift_137 (sh11_T50 hO) (inb_in hg23) rfl ?_
    obtain ⟨L24, hL24, hf⟩ := of_let hf
    rw [← hL24]
    refine ex_iincc (lv' := [(6, .int (v6 + 1)), (0, .ref (gB G + 99)), (1, .int v1), (2, .int v2), (3, .int v3), (4, .int v4), (5, .int v5)]) 6 (pc' := 141) dX11_shift_138 rfl ic_1 (Nat.le_of_ble_eq_true rfl) rfl rfl ?_
    refine ex_goto (tgt := 110) dX11_shift_141 (by decide) ?_
    exact ex_sub [1, 2, 3, 4, 5, 6, 0] rfl (hC _ _ (Option.some.inj hf).symm)
  · replace hf := if_f hc21 hf
    exact ex_sub [0, 3, 4, 5] rfl (hX _ (Option.some.inj hf).symm)
def f_X11_shift_l110 (N : Nat) (v1 : Int32) (v2 : Int32) (v3 : Int32) (v4 : Int32) (v5 : Int32) (v6 : Int32) (L : ML) : Option (ML) := loopN (fun s => f_X11_shift_b110 N v1 v2 v3 v4 v5 s.1 s.2) N (v6, L)
set_option maxRecDepth 100000 in
set_option maxHeartbeats 4000000 in
theorem k_X11_shift_l110 {G : GX} {Q : State → Prop} {X : MX} (hO : shX11 X) {v1 : Int32} {v2 : Int32} {v3 : Int32} {v4 : Int32} {v5 : Int32}  {N0 : Nat} {I : MI} {out : (ML)} (hX : ∀ (L' : ML), out = L' → Ex G mX11_shift rmX11_shift Q (0, 0) X I L' 144 [(0, .ref (gB G + 99)), (3, .int v3), (4, .int v4), (5, .int v5)] []) : ∀ (N : Nat) (v6 : Int32) (L : ML), loopN (fun s => f_X11_shift_b110 N0 v1 v2 v3 v4 v5 s.1 s.2) N (v6, L) = some out → Ex G mX11_shift rmX11_shift Q (0, 0) X I L 110 [(0, .ref (gB G + 99)), (1, .int v1), (2, .int v2), (3, .int v3), (4, .int v4), (5, .int v5), (6, .int v6)] [] := by
  intro N
  induction N with
  | zero => intro v6 L hf; exact absurd (loopN_zero hf) id
  | succ n ih =>
    intro v6 L hf
    rcases loopN_succ hf with ⟨s, hb, hl⟩ | hb
    · obtain ⟨v6', L'⟩ := s
      refine k_X11_shift_b110 hO  hb (fun _ _ he => ?_) (fun _ he => by cases he)
      cases he
      exact ih v6' L' hl
    · exact k_X11_shift_b110 hO  hb (fun _ _ he => by cases he) (fun x0 he => hX x0 (Sum.inr.inj he))
def f_X11_shift_b147 (N : Nat) (v3 : Int32) (v4 : Int32) (v5 : Int32) (v6 : Int32) (L : ML) : Option ((Int32 × ML) ⊕ (ML)) := (if v6 < v5 then if inb v6 60 then if inb (((60 * v3) + v4) + v6) 360 then letv (upL L 115 (Int32.toNatClampNeg (((60 * v3) + v4) + v6)) (L 137 (Int32.toNatClampNeg v6))) fun L30 => some (.inl (v6 + 1, L30)) else none else none else some (.inr L))
set_option maxRecDepth 100000 in
set_option maxHeartbeats 4000000 in
theorem k_X11_shift_b147 {G : GX} {Q : State → Prop} {X : MX} (hO : shX11 X) {v3 : Int32} {v4 : Int32} {v5 : Int32}  {v6 : Int32} {N : Nat} {I : MI} {L : ML} {out : (Int32 × ML) ⊕ (ML)} (hf : f_X11_shift_b147 N v3 v4 v5 v6 L = some out) (hC : ∀ (v6' : Int32) (L' : ML), out = .inl (v6', L') → Ex G mX11_shift rmX11_shift Q (0, 0) X I L' 147 [(0, .ref (gB G + 99)), (3, .int v3), (4, .int v4), (5, .int v5), (6, .int v6')] []) (hX : ∀ (L' : ML), out = .inr L' → Ex G mX11_shift rmX11_shift Q (0, 0) X I L' 182 [(5, .int v5)] []) : Ex G mX11_shift rmX11_shift Q (0, 0) X I L 147 [(0, .ref (gB G + 99)), (3, .int v3), (4, .int v4), (5, .int v5), (6, .int v6)] [] := by
  unfold f_X11_shift_b147 at hf
  refine ex_iload 4 (pc' := 149) dX11_shift_147 rfl rfl ?_
  refine ex_iload 3 (pc' := 151) dX11_shift_149 rfl rfl ?_
  refine ex_icmpge (tgt := 182) (pc' := 154) dX11_shift_151 (by decide) rfl (fun hc27 => ?_) (fun hc27 => ?_)
  · replace hf := if_t hc27 hf
    refine ex_aload_n 0 (pc' := 155) dX11_shift_154 rfl rfl rfl ?_
    refine ex_getR (pc' := 158) dX11_shift_155 fl_X11_58 rfl (sh11_k hO) (sh11_F19 hO) rfl ?_
    refine ex_bipush (v := 60) (pc' := 160) dX11_shift_158 bp_60 rfl ?_
    refine ex_iload_n 1 (pc' := 161) dX11_shift_160 rfl rfl rfl ?_
    refine ex_imul (pc' := 162) dX11_shift_161 rfl ?_
    refine ex_iload 2 (pc' := 164) dX11_shift_162 rfl rfl ?_
    refine ex_iadd (pc' := 165) dX11_shift_164 rfl ?_
    refine ex_iload 4 (pc' := 167) dX11_shift_165 rfl rfl ?_
    refine ex_iadd (pc' := 168) dX11_shift_167 rfl ?_
    refine ex_aload_n 0 (pc' := 169) dX11_shift_168 rfl rfl rfl ?_
    refine ex_getR (pc' := 172) dX11_shift_169 fl_X11_124 rfl (sh11_k hO) (sh11_F50 hO) rfl ?_
    refine ex_iload 4 (pc' := 174) dX11_shift_172 rfl rfl ?_
    obtain ⟨hg28, hf⟩ := of_guard hf
    refine ex_lald (pc' := 175) dX11_shift_174 (sh11_T50 hO) (inb_in hg28) rfl ?_
    obtain ⟨hg29, hf⟩ := of_guard hf
    refine ex_last (pc' := 176) dX11_shift_175 (sh11_T19 hO) (inb_in hg29) rfl ?_
    obtain ⟨L30, hL30, hf⟩ := of_let hf
    rw [← hL30]
    refine ex_iincc (lv' := [(6, .int (v6 + 1)), (0, .ref (gB G + 99)), (3, .int v3), (4, .int v4), (5, .int v5)]) 4 (pc' := 179) dX11_shift_176 rfl ic_1 (Nat.le_of_ble_eq_true rfl) rfl rfl ?_
    refine ex_goto (tgt := 147) dX11_shift_179 (by decide) ?_
    exact ex_sub [1, 2, 3, 4, 0] rfl (hC _ _ (Option.some.inj hf).symm)
  · replace hf := if_f hc27 hf
    exact ex_sub [3] rfl (hX _ (Option.some.inj hf).symm)
def f_X11_shift_l147 (N : Nat) (v3 : Int32) (v4 : Int32) (v5 : Int32) (v6 : Int32) (L : ML) : Option (ML) := loopN (fun s => f_X11_shift_b147 N v3 v4 v5 s.1 s.2) N (v6, L)
set_option maxRecDepth 100000 in
set_option maxHeartbeats 4000000 in
theorem k_X11_shift_l147 {G : GX} {Q : State → Prop} {X : MX} (hO : shX11 X) {v3 : Int32} {v4 : Int32} {v5 : Int32}  {N0 : Nat} {I : MI} {out : (ML)} (hX : ∀ (L' : ML), out = L' → Ex G mX11_shift rmX11_shift Q (0, 0) X I L' 182 [(5, .int v5)] []) : ∀ (N : Nat) (v6 : Int32) (L : ML), loopN (fun s => f_X11_shift_b147 N0 v3 v4 v5 s.1 s.2) N (v6, L) = some out → Ex G mX11_shift rmX11_shift Q (0, 0) X I L 147 [(0, .ref (gB G + 99)), (3, .int v3), (4, .int v4), (5, .int v5), (6, .int v6)] [] := by
  intro N
  induction N with
  | zero => intro v6 L hf; exact absurd (loopN_zero hf) id
  | succ n ih =>
    intro v6 L hf
    rcases loopN_succ hf with ⟨s, hb, hl⟩ | hb
    · obtain ⟨v6', L'⟩ := s
      refine k_X11_shift_b147 hO  hb (fun _ _ he => ?_) (fun _ he => by cases he)
      cases he
      exact ih v6' L' hl
    · exact k_X11_shift_b147 hO  hb (fun _ _ he => by cases he) (fun x0 he => hX x0 (Sum.inr.inj he))
def f_X11_shift (N : Nat) (v1 : Int32) (v2 : Int32) (v3 : Int32) (v4 : Int32) (v5 : Int32) (I : MI) (L : ML) : Option (Int32 × ML) := bnd1 (f_X11_isSix v1) fun r1 => (if r1 = 0 then some ((-1), L) else bnd1 (f_X11_isSix v3) fun r4 => (if r4 = 0 then some ((-1), L) else if inb v1 6 then (if (I 113 (Int32.toNatClampNeg v1)) < 0 then some ((-11), L) else if inb v3 6 then (if (I 113 (Int32.toNatClampNeg v3)) < 0 then some ((-11), L) else if inb v1 6 then if inb v3 6 then (if (I 113 (Int32.toNatClampNeg v1)) = (I 113 (Int32.toNatClampNeg v3)) then (if v5 < 0 then some ((-13), L) else (if v2 < 0 then some ((-13), L) else (if v4 < 0 then some ((-13), L) else if inb v1 6 then (if (Int32.toInt64 (I 114 (Int32.toNatClampNeg v1))) < ((Int32.toInt64 v2) + (Int32.toInt64 v5)) then some ((-13), L) else if inb v3 6 then (if (Int32.toInt64 (I 114 (Int32.toNatClampNeg v3))) < ((Int32.toInt64 v4) + (Int32.toInt64 v5)) then some ((-13), L) else bnd1 (f_X11_shift_l110 N v1 v2 v3 v4 v5 0 L) fun L25 => bnd1 (f_X11_shift_l147 N v3 v4 v5 0 L25) fun L31 => some (v5, L31)) else none) else none))) else some ((-12), L)) else none else none) else none) else none))
set_option maxRecDepth 100000 in
set_option maxHeartbeats 4000000 in
theorem kb_X11_shift {G : GX} {Q : State → Prop} {X : MX} (hO : shX11 X) {v1 : Int32} {v2 : Int32} {v3 : Int32} {v4 : Int32} {v5 : Int32}  {N : Nat} {I : MI} {L : ML} {out : Int32 × ML} (hf : f_X11_shift N v1 v2 v3 v4 v5 I L = some out) (hR : ∀ (z : Int32) (L' : ML), out = (z, L') → Q = RetQ G (some (.int z)) X I L' (0, 0)) : Ex G mX11_shift rmX11_shift Q (0, 0) X I L 0 [(0, .ref (gB G + 99)), (1, .int v1), (2, .int v2), (3, .int v3), (4, .int v4), (5, .int v5)] [] := by
  unfold f_X11_shift at hf
  refine ex_iload_n 1 (pc' := 1) dX11_shift_0 rfl rfl rfl ?_
  obtain ⟨r1, hq2, hf⟩ := of_bnd1 hf
  refine ex_callS_i (rm' := rmX11_isSix) (st := []) (pc' := 4) [.int v1] dX11_shift_1 cl_X11_133 (k_X11_isSix G hq2) rfl rfl rfl (ROOM_of rfl) (Nat.le_of_ble_eq_true rfl) rfl rfl ?_
  refine ex_ifeq (tgt := 14) (pc' := 7) dX11_shift_4 (by decide) rfl (fun hc3 => ?_) (fun hc3 => ?_)
  · replace hf := if_t hc3 hf
    refine ex_iconst (v := (-1)) (pc' := 15) dX11_shift_14 ic_m1 rfl ?_
    exact ex_iret dX11_shift_15 rfl (hR _ _ (Option.some.inj hf).symm)
  · replace hf := if_f hc3 hf
    refine ex_iload_n 3 (pc' := 8) dX11_shift_7 rfl rfl rfl ?_
    obtain ⟨r4, hq5, hf⟩ := of_bnd1 hf
    refine ex_callS_i (rm' := rmX11_isSix) (st := []) (pc' := 11) [.int v3] dX11_shift_8 cl_X11_133 (k_X11_isSix G hq5) rfl rfl rfl (ROOM_of rfl) (Nat.le_of_ble_eq_true rfl) rfl rfl ?_
    refine ex_ifne (tgt := 16) (pc' := 14) dX11_shift_11 (by decide) rfl (fun hc6 => ?_) (fun hc6 => ?_)
    · replace hf := if_t hc6 hf
      refine ex_iconst (v := (-1)) (pc' := 15) dX11_shift_14 ic_m1 rfl ?_
      exact ex_iret dX11_shift_15 rfl (hR _ _ (Option.some.inj hf).symm)
    · replace hf := if_f hc6 hf
      refine ex_aload_n 0 (pc' := 17) dX11_shift_16 rfl rfl rfl ?_
      refine ex_getR (pc' := 20) dX11_shift_17 fl_X11_52 rfl (sh11_k hO) (sh11_F17 hO) rfl ?_
      refine ex_iload_n 1 (pc' := 21) dX11_shift_20 rfl rfl rfl ?_
      obtain ⟨hg7, hf⟩ := of_guard hf
      refine ex_iald (pc' := 22) dX11_shift_21 (sh11_T17 hO) (inb_in hg7) rfl ?_
      refine ex_iflt (tgt := 34) (pc' := 25) dX11_shift_22 (by decide) rfl (fun hc8 => ?_) (fun hc8 => ?_)
      · replace hf := if_t hc8 hf
        refine ex_bipush (v := (-11)) (pc' := 36) dX11_shift_34 bp_m11 rfl ?_
        exact ex_iret dX11_shift_36 rfl (hR _ _ (Option.some.inj hf).symm)
      · replace hf := if_f hc8 hf
        refine ex_aload_n 0 (pc' := 26) dX11_shift_25 rfl rfl rfl ?_
        refine ex_getR (pc' := 29) dX11_shift_26 fl_X11_52 rfl (sh11_k hO) (sh11_F17 hO) rfl ?_
        refine ex_iload_n 3 (pc' := 30) dX11_shift_29 rfl rfl rfl ?_
        obtain ⟨hg9, hf⟩ := of_guard hf
        refine ex_iald (pc' := 31) dX11_shift_30 (sh11_T17 hO) (inb_in hg9) rfl ?_
        refine ex_ifge (tgt := 37) (pc' := 34) dX11_shift_31 (by decide) rfl (fun hc10 => ?_) (fun hc10 => ?_)
        · replace hf := if_t hc10 hf
          refine ex_bipush (v := (-11)) (pc' := 36) dX11_shift_34 bp_m11 rfl ?_
          exact ex_iret dX11_shift_36 rfl (hR _ _ (Option.some.inj hf).symm)
        · replace hf := if_f hc10 hf
          refine ex_aload_n 0 (pc' := 38) dX11_shift_37 rfl rfl rfl ?_
          refine ex_getR (pc' := 41) dX11_shift_38 fl_X11_52 rfl (sh11_k hO) (sh11_F17 hO) rfl ?_
          refine ex_iload_n 1 (pc' := 42) dX11_shift_41 rfl rfl rfl ?_
          obtain ⟨hg11, hf⟩ := of_guard hf
          refine ex_iald (pc' := 43) dX11_shift_42 (sh11_T17 hO) (inb_in hg11) rfl ?_
          refine ex_aload_n 0 (pc' := 44) dX11_shift_43 rfl rfl rfl ?_
          refine ex_getR (pc' := 47) dX11_shift_44 fl_X11_52 rfl (sh11_k hO) (sh11_F17 hO) rfl ?_
          refine ex_iload_n 3 (pc' := 48) dX11_shift_47 rfl rfl rfl ?_
          obtain ⟨hg12, hf⟩ := of_guard hf
          refine ex_iald (pc' := 49) dX11_shift_48 (sh11_T17 hO) (inb_in hg12) rfl ?_
          refine ex_icmpeq (tgt := 55) (pc' := 52) dX11_shift_49 (by decide) rfl (fun hc13 => ?_) (fun hc13 => ?_)
          · replace hf := if_t hc13 hf
            refine ex_iload 5 (pc' := 57) dX11_shift_55 rfl rfl ?_
            refine ex_iflt (tgt := 104) (pc' := 60) dX11_shift_57 (by decide) rfl (fun hc14 => ?_) (fun hc14 => ?_)
            · replace hf := if_t hc14 hf
              refine ex_bipush (v := (-13)) (pc' := 106) dX11_shift_104 bp_m13 rfl ?_
              exact ex_iret dX11_shift_106 rfl (hR _ _ (Option.some.inj hf).symm)
            · replace hf := if_f hc14 hf
              refine ex_iload_n 2 (pc' := 61) dX11_shift_60 rfl rfl rfl ?_
              refine ex_iflt (tgt := 104) (pc' := 64) dX11_shift_61 (by decide) rfl (fun hc15 => ?_) (fun hc15 => ?_)
              · replace hf := if_t hc15 hf
                refine ex_bipush (v := (-13)) (pc' := 106) dX11_shift_104 bp_m13 rfl ?_
                exact ex_iret dX11_shift_106 rfl (hR _ _ (Option.some.inj hf).symm)
              · replace hf := if_f hc15 hf
                refine ex_iload 4 (pc' := 66) dX11_shift_64 rfl rfl ?_
                refine ex_iflt (tgt := 104) (pc' := 69) dX11_shift_66 (by decide) rfl (fun hc16 => ?_) (fun hc16 => ?_)
                · replace hf := if_t hc16 hf
                  refine ex_bipush (v := (-13)) (pc' := 106) dX11_shift_104 bp_m13 rfl ?_
                  exact ex_iret dX11_shift_106 rfl (hR _ _ (Option.some.inj hf).symm)
                · replace hf := if_f hc16 hf
                  refine ex_iload_n 2 (pc' := 70) dX11_shift_69 rfl rfl rfl ?_
                  refine ex_i2l (pc' := 71) dX11_shift_70 rfl ?_
                  refine ex_iload 5 (pc' := 73) dX11_shift_71 rfl rfl ?_
                  refine ex_i2l (pc' := 74) dX11_shift_73 rfl ?_
                  refine ex_ladd (pc' := 75) dX11_shift_74 rfl ?_
                  refine ex_aload_n 0 (pc' := 76) dX11_shift_75 rfl rfl rfl ?_
                  refine ex_getR (pc' := 79) dX11_shift_76 fl_X11_55 rfl (sh11_k hO) (sh11_F18 hO) rfl ?_
                  refine ex_iload_n 1 (pc' := 80) dX11_shift_79 rfl rfl rfl ?_
                  obtain ⟨hg17, hf⟩ := of_guard hf
                  refine ex_iald (pc' := 81) dX11_shift_80 (sh11_T18 hO) (inb_in hg17) rfl ?_
                  refine ex_i2l (pc' := 82) dX11_shift_81 rfl ?_
                  refine ex_lcmp (pc' := 83) dX11_shift_82 rfl ?_
                  refine ex_lifgt (tgt := 104) (pc' := 86) dX11_shift_83 (by decide) rfl (fun hc18 => ?_) (fun hc18 => ?_)
                  · replace hf := if_t hc18 hf
                    refine ex_bipush (v := (-13)) (pc' := 106) dX11_shift_104 bp_m13 rfl ?_
                    exact ex_iret dX11_shift_106 rfl (hR _ _ (Option.some.inj hf).symm)
                  · replace hf := if_f hc18 hf
                    refine ex_iload 4 (pc' := 88) dX11_shift_86 rfl rfl ?_
                    refine ex_i2l (pc' := 89) dX11_shift_88 rfl ?_
                    refine ex_iload 5 (pc' := 91) dX11_shift_89 rfl rfl ?_
                    refine ex_i2l (pc' := 92) dX11_shift_91 rfl ?_
                    refine ex_ladd (pc' := 93) dX11_shift_92 rfl ?_
                    refine ex_aload_n 0 (pc' := 94) dX11_shift_93 rfl rfl rfl ?_
                    refine ex_getR (pc' := 97) dX11_shift_94 fl_X11_55 rfl (sh11_k hO) (sh11_F18 hO) rfl ?_
                    refine ex_iload_n 3 (pc' := 98) dX11_shift_97 rfl rfl rfl ?_
                    obtain ⟨hg19, hf⟩ := of_guard hf
                    refine ex_iald (pc' := 99) dX11_shift_98 (sh11_T18 hO) (inb_in hg19) rfl ?_
                    refine ex_i2l (pc' := 100) dX11_shift_99 rfl ?_
                    refine ex_lcmp (pc' := 101) dX11_shift_100 rfl ?_
                    refine ex_lifle (tgt := 107) (pc' := 104) dX11_shift_101 (by decide) rfl (fun hc20 => ?_) (fun hc20 => ?_)
                    · replace hf := if_t hc20 hf
                      refine ex_bipush (v := (-13)) (pc' := 106) dX11_shift_104 bp_m13 rfl ?_
                      exact ex_iret dX11_shift_106 rfl (hR _ _ (Option.some.inj hf).symm)
                    · replace hf := if_f hc20 hf
                      refine ex_iconst (v := 0) (pc' := 108) dX11_shift_107 ic_0 rfl ?_
                      refine ex_istore (lv' := [(6, .int 0), (0, .ref (gB G + 99)), (1, .int v1), (2, .int v2), (3, .int v3), (4, .int v4), (5, .int v5)]) (pc' := 110) dX11_shift_108 (Nat.le_of_ble_eq_true rfl) rfl rfl ?_
                      refine ex_sub (lv' := [(0, .ref (gB G + 99)), (1, .int v1), (2, .int v2), (3, .int v3), (4, .int v4), (5, .int v5), (6, .int 0)]) [1, 2, 3, 4, 5, 6, 0] rfl ?_
                      obtain ⟨L25, hq26, hf⟩ := of_bnd1 hf
                      refine k_X11_shift_l110 hO (fun L25' he => ?_) _ _ _ hq26
                      cases he
                      refine ex_iconst (v := 0) (pc' := 145) dX11_shift_144 ic_0 rfl ?_
                      refine ex_istore (lv' := [(6, .int 0), (0, .ref (gB G + 99)), (3, .int v3), (4, .int v4), (5, .int v5)]) (pc' := 147) dX11_shift_145 (Nat.le_of_ble_eq_true rfl) rfl rfl ?_
                      refine ex_sub (lv' := [(0, .ref (gB G + 99)), (3, .int v3), (4, .int v4), (5, .int v5), (6, .int 0)]) [1, 2, 3, 4, 0] rfl ?_
                      obtain ⟨L31, hq32, hf⟩ := of_bnd1 hf
                      refine k_X11_shift_l147 hO (fun L31' he => ?_) _ _ _ hq32
                      cases he
                      refine ex_iload 0 (pc' := 184) dX11_shift_182 rfl rfl ?_
                      exact ex_iret dX11_shift_184 rfl (hR _ _ (Option.some.inj hf).symm)
          · replace hf := if_f hc13 hf
            refine ex_bipush (v := (-12)) (pc' := 54) dX11_shift_52 bp_m12 rfl ?_
            exact ex_iret dX11_shift_54 rfl (hR _ _ (Option.some.inj hf).symm)
set_option maxRecDepth 100000 in
set_option maxHeartbeats 4000000 in
theorem k_X11_shift (G : GX) {X : MX} (hO : shX11 X) {v1 : Int32} {v2 : Int32} {v3 : Int32} {v4 : Int32} {v5 : Int32}  {N : Nat} {I : MI} {L : ML} {z : Int32} {L' : ML} (hf : f_X11_shift N v1 v2 v3 v4 v5 I L = some (z, L')) : Con G mX11_shift yX11_shift rmX11_shift (fun B => [.ref (B + 99), .int v1, .int v2, .int v3, .int v4, .int v5]) X I L (some (.int z)) X I L' :=
  Con.of (by decide) rfl (fun h => by cases h) (fun B => Nat.le_of_ble_eq_true rfl) (fun G => kb_X11_shift hO  hf (fun _ _ he => by cases he; rfl))
-- X11_side ('RookWordsModel', 'side', '(II)I')
def rmX11_side : RM := ((2, 45, 0, 0), false, (some FieldType.int))
def f_X11_side (N : Nat) (v1 : Int32) (v2 : Int32) (I : MI) : Option (Int32 × MI) := bnd1 (f_X11_isSix v1) fun r1 => (if r1 = 0 then some ((-1), I) else bnd1 (f_X11_in (Int32.toInt64 v2) 1 6) fun r4 => (if r4 = 0 then some ((-2), I) else if inb v1 6 then bnd1 (f_X11_bare N v1 v2 I) fun I8 => some (I 103 (Int32.toNatClampNeg v1), I8) else none))
set_option maxRecDepth 100000 in
set_option maxHeartbeats 4000000 in
theorem kb_X11_side {G : GX} {Q : State → Prop} {X : MX} (hO : shX11 X) {v1 : Int32} {v2 : Int32}  {N : Nat} {I : MI} {L : ML} {out : Int32 × MI} (hf : f_X11_side N v1 v2 I = some out) (hR : ∀ (z : Int32) (I' : MI), out = (z, I') → Q = RetQ G (some (.int z)) X I' L (0, 0)) : Ex G mX11_side rmX11_side Q (0, 0) X I L 0 [(0, .ref (gB G + 99)), (1, .int v1), (2, .int v2)] [] := by
  unfold f_X11_side at hf
  refine ex_iload_n 1 (pc' := 1) dX11_side_0 rfl rfl rfl ?_
  obtain ⟨r1, hq2, hf⟩ := of_bnd1 hf
  refine ex_callS_i (rm' := rmX11_isSix) (st := []) (pc' := 4) [.int v1] dX11_side_1 cl_X11_133 (k_X11_isSix G hq2) rfl rfl rfl (ROOM_of rfl) (Nat.le_of_ble_eq_true rfl) rfl rfl ?_
  refine ex_ifne (tgt := 9) (pc' := 7) dX11_side_4 (by decide) rfl (fun hc3 => ?_) (fun hc3 => ?_)
  · replace hf := if_t hc3 hf
    refine ex_iconst (v := (-1)) (pc' := 8) dX11_side_7 ic_m1 rfl ?_
    exact ex_iret dX11_side_8 rfl (hR _ _ (Option.some.inj hf).symm)
  · replace hf := if_f hc3 hf
    refine ex_iload_n 2 (pc' := 10) dX11_side_9 rfl rfl rfl ?_
    refine ex_i2l (pc' := 11) dX11_side_10 rfl ?_
    refine ex_lconst (v := 1) (pc' := 12) dX11_side_11 lc_1 rfl ?_
    refine ex_ldc2 (v := 6) (pc' := 15) dX11_side_12 co_X11_137 rfl ?_
    obtain ⟨r4, hq5, hf⟩ := of_bnd1 hf
    refine ex_callS_i (rm' := rmX11_in) (st := []) (pc' := 18) [.long (Int32.toInt64 v2), .long 1, .long 6] dX11_side_15 cl_X11_129 (k_X11_in G hq5) rfl rfl rfl (ROOM_of rfl) (Nat.le_of_ble_eq_true rfl) rfl rfl ?_
    refine ex_ifne (tgt := 24) (pc' := 21) dX11_side_18 (by decide) rfl (fun hc6 => ?_) (fun hc6 => ?_)
    · replace hf := if_t hc6 hf
      refine ex_bipush (v := (-2)) (pc' := 23) dX11_side_21 bp_m2 rfl ?_
      exact ex_iret dX11_side_23 rfl (hR _ _ (Option.some.inj hf).symm)
    · replace hf := if_f hc6 hf
      refine ex_aload_n 0 (pc' := 25) dX11_side_24 rfl rfl rfl ?_
      refine ex_getR (pc' := 28) dX11_side_25 fl_X11_22 rfl (sh11_k hO) (sh11_F3 hO) rfl ?_
      refine ex_iload_n 1 (pc' := 29) dX11_side_28 rfl rfl rfl ?_
      obtain ⟨hg7, hf⟩ := of_guard hf
      refine ex_iald (pc' := 30) dX11_side_29 (sh11_T3 hO) (inb_in hg7) rfl ?_
      refine ex_istore_n (lv' := [(3, .int (I 103 (Int32.toNatClampNeg v1))), (0, .ref (gB G + 99)), (1, .int v1), (2, .int v2)]) (pc' := 31) dX11_side_30 rfl (Nat.le_of_ble_eq_true rfl) rfl rfl ?_
      refine ex_aload_n 1 (pc' := 32) dX11_side_31 rfl rfl rfl ?_
      refine ex_iload_n 2 (pc' := 33) dX11_side_32 rfl rfl rfl ?_
      refine ex_iload_n 3 (pc' := 34) dX11_side_33 rfl rfl rfl ?_
      obtain ⟨I8, hq9, hf⟩ := of_bnd1 hf
      refine ex_callV_v (rm' := rmX11_bare) (st := []) (pc' := 37) [.int v1, .int v2] dX11_side_34 cl_X11_179 (k_X11_bare G hO hq9) rfl (sh11_k hO) ⟨_, _, rfl⟩ rfl rfl (ROOM_of rfl) (Nat.le_of_ble_eq_true rfl) rfl rfl ?_
      refine ex_iload_n 0 (pc' := 38) dX11_side_37 rfl rfl rfl ?_
      exact ex_iret dX11_side_38 rfl (hR _ _ (Option.some.inj hf).symm)
set_option maxRecDepth 100000 in
set_option maxHeartbeats 4000000 in
theorem k_X11_side (G : GX) {X : MX} (hO : shX11 X) {v1 : Int32} {v2 : Int32}  {N : Nat} {I : MI} {L : ML} {z : Int32} {I' : MI} (hf : f_X11_side N v1 v2 I = some (z, I')) : Con G mX11_side yX11_side rmX11_side (fun B => [.ref (B + 99), .int v1, .int v2]) X I L (some (.int z)) X I' L :=
  Con.of (by decide) rfl (fun h => by cases h) (fun B => Nat.le_of_ble_eq_true rfl) (fun G => kb_X11_side hO  hf (fun _ _ he => by cases he; rfl))
-- X11_steps ('RookWordsModel', 'steps', '(III)I')
def rmX11_steps : RM := ((2, 45, 0, 0), false, (some FieldType.int))
def f_X11_steps_b36 (N : Nat) (v1 : Int32) (v2 : Int32) (v4 : Int32) (v5 : Int32) (I : MI) : Option ((Int32 × Int32 × MI) ⊕ (Int32 × MI)) := (if v5 < 0 then some (.inr (v4, I)) else if inb v5 6 then letv (upI I 127 (Int32.toNatClampNeg v5) (jrem v4 10)) fun I10 => some (.inl (v4 / 10, v5 + (-1), I10)) else none)
set_option maxRecDepth 100000 in
set_option maxHeartbeats 4000000 in
theorem k_X11_steps_b36 {G : GX} {Q : State → Prop} {X : MX} (hO : shX11 X) {v1 : Int32} {v2 : Int32}  {v4 : Int32} {v5 : Int32} {N : Nat} {I : MI} {L : ML} {out : (Int32 × Int32 × MI) ⊕ (Int32 × MI)} (hf : f_X11_steps_b36 N v1 v2 v4 v5 I = some out) (hC : ∀ (v4' : Int32) (v5' : Int32) (I' : MI), out = .inl (v4', v5', I') → Ex G mX11_steps rmX11_steps Q (0, 0) X I' L 36 [(0, .ref (gB G + 99)), (1, .int v1), (2, .int v2), (4, .int v4'), (5, .int v5')] []) (hX : ∀ (w4 : Int32) (I' : MI), out = .inr (w4, I') → Ex G mX11_steps rmX11_steps Q (0, 0) X I' L 66 [(0, .ref (gB G + 99)), (1, .int v1), (2, .int v2), (4, .int w4)] []) : Ex G mX11_steps rmX11_steps Q (0, 0) X I L 36 [(0, .ref (gB G + 99)), (1, .int v1), (2, .int v2), (4, .int v4), (5, .int v5)] [] := by
  unfold f_X11_steps_b36 at hf
  refine ex_iload 4 (pc' := 38) dX11_steps_36 rfl rfl ?_
  refine ex_iflt (tgt := 66) (pc' := 41) dX11_steps_38 (by decide) rfl (fun hc8 => ?_) (fun hc8 => ?_)
  · replace hf := if_t hc8 hf
    exact ex_sub [0, 1, 2, 3] rfl (hX _ _ (Option.some.inj hf).symm)
  · replace hf := if_f hc8 hf
    refine ex_aload_n 0 (pc' := 42) dX11_steps_41 rfl rfl rfl ?_
    refine ex_getR (pc' := 45) dX11_steps_42 fl_X11_94 rfl (sh11_k hO) (sh11_F33 hO) rfl ?_
    refine ex_iload 4 (pc' := 47) dX11_steps_45 rfl rfl ?_
    refine ex_iload 3 (pc' := 49) dX11_steps_47 rfl rfl ?_
    refine ex_bipush (v := 10) (pc' := 51) dX11_steps_49 bp_10 rfl ?_
    refine ex_irem (pc' := 52) dX11_steps_51 (by decide) rfl ?_
    obtain ⟨hg9, hf⟩ := of_guard hf
    refine ex_iast (pc' := 53) dX11_steps_52 (sh11_T33 hO) (inb_in hg9) rfl ?_
    obtain ⟨I10, hI10, hf⟩ := of_let hf
    rw [← hI10]
    refine ex_iload 3 (pc' := 55) dX11_steps_53 rfl rfl ?_
    refine ex_bipush (v := 10) (pc' := 57) dX11_steps_55 bp_10 rfl ?_
    refine ex_idiv (pc' := 58) dX11_steps_57 (by decide) rfl ?_
    refine ex_istore (lv' := [(4, .int (v4 / 10)), (0, .ref (gB G + 99)), (1, .int v1), (2, .int v2), (5, .int v5)]) (pc' := 60) dX11_steps_58 (Nat.le_of_ble_eq_true rfl) rfl rfl ?_
    refine ex_iincc (lv' := [(5, .int (v5 + (-1))), (4, .int (v4 / 10)), (0, .ref (gB G + 99)), (1, .int v1), (2, .int v2)]) 4 (pc' := 63) dX11_steps_60 rfl ic_m1 (Nat.le_of_ble_eq_true rfl) rfl rfl ?_
    refine ex_goto (tgt := 36) dX11_steps_63 (by decide) ?_
    exact ex_sub [2, 3, 4, 1, 0] rfl (hC _ _ _ (Option.some.inj hf).symm)
def f_X11_steps_l36 (N : Nat) (v1 : Int32) (v2 : Int32) (v4 : Int32) (v5 : Int32) (I : MI) : Option (Int32 × MI) := loopN (fun s => f_X11_steps_b36 N v1 v2 s.1 s.2.1 s.2.2) N (v4, v5, I)
set_option maxRecDepth 100000 in
set_option maxHeartbeats 4000000 in
theorem k_X11_steps_l36 {G : GX} {Q : State → Prop} {X : MX} (hO : shX11 X) {v1 : Int32} {v2 : Int32}  {N0 : Nat} {L : ML} {out : (Int32 × MI)} (hX : ∀ (w4 : Int32) (I' : MI), out = (w4, I') → Ex G mX11_steps rmX11_steps Q (0, 0) X I' L 66 [(0, .ref (gB G + 99)), (1, .int v1), (2, .int v2), (4, .int w4)] []) : ∀ (N : Nat) (v4 : Int32) (v5 : Int32) (I : MI), loopN (fun s => f_X11_steps_b36 N0 v1 v2 s.1 s.2.1 s.2.2) N (v4, v5, I) = some out → Ex G mX11_steps rmX11_steps Q (0, 0) X I L 36 [(0, .ref (gB G + 99)), (1, .int v1), (2, .int v2), (4, .int v4), (5, .int v5)] [] := by
  intro N
  induction N with
  | zero => intro v4 v5 I hf; exact absurd (loopN_zero hf) id
  | succ n ih =>
    intro v4 v5 I hf
    rcases loopN_succ hf with ⟨s, hb, hl⟩ | hb
    · obtain ⟨v4', v5', I'⟩ := s
      refine k_X11_steps_b36 hO  hb (fun _ _ _ he => ?_) (fun _ _ he => by cases he)
      cases he
      exact ih v4' v5' I' hl
    · exact k_X11_steps_b36 hO  hb (fun _ _ _ he => by cases he) (fun x0 x1 he => hX x0 x1 (Sum.inr.inj he))
def f_X11_steps_b81 (N : Nat) (v1 : Int32) (v2 : Int32) (v5 : Int32) (v6 : Int32) (I : MI) : Option ((Int32 × Int32) ⊕ (Int32)) := (if v6 < v2 then (if v5 = 0 then some (.inl (0, v6 + 1)) else if inb v6 6 then (if v2 < (I 127 (Int32.toNatClampNeg v6)) then some (.inl (0, v6 + 1)) else (if v6 = 0 then some (.inl (1, v6 + 1)) else if inb v6 6 then if inb (v6 - 1) 6 then (if (I 127 (Int32.toNatClampNeg v6)) < (I 127 (Int32.toNatClampNeg (v6 - 1))) then some (.inl (0, v6 + 1)) else some (.inl (1, v6 + 1))) else none else none)) else none) else some (.inr v5))
set_option maxRecDepth 100000 in
set_option maxHeartbeats 4000000 in
theorem k_X11_steps_b81 {G : GX} {Q : State → Prop} {X : MX} (hO : shX11 X) {v1 : Int32} {v2 : Int32}  {v5 : Int32} {v6 : Int32} {N : Nat} {I : MI} {L : ML} {out : (Int32 × Int32) ⊕ (Int32)} (hf : f_X11_steps_b81 N v1 v2 v5 v6 I = some out) (hC : ∀ (v5' : Int32) (v6' : Int32), out = .inl (v5', v6') → Ex G mX11_steps rmX11_steps Q (0, 0) X I L 81 [(0, .ref (gB G + 99)), (1, .int v1), (2, .int v2), (5, .int v5'), (6, .int v6')] []) (hX : ∀ (w5 : Int32), out = .inr w5 → Ex G mX11_steps rmX11_steps Q (0, 0) X I L 140 [(0, .ref (gB G + 99)), (1, .int v1), (2, .int v2), (5, .int w5)] []) : Ex G mX11_steps rmX11_steps Q (0, 0) X I L 81 [(0, .ref (gB G + 99)), (1, .int v1), (2, .int v2), (5, .int v5), (6, .int v6)] [] := by
  unfold f_X11_steps_b81 at hf
  refine ex_iload 4 (pc' := 83) dX11_steps_81 rfl rfl ?_
  refine ex_iload_n 2 (pc' := 84) dX11_steps_83 rfl rfl rfl ?_
  refine ex_icmpge (tgt := 140) (pc' := 87) dX11_steps_84 (by decide) rfl (fun hc15 => ?_) (fun hc15 => ?_)
  · replace hf := if_t hc15 hf
    refine ex_iload 3 (pc' := 89) dX11_steps_87 rfl rfl ?_
    refine ex_ifeq (tgt := 131) (pc' := 92) dX11_steps_89 (by decide) rfl (fun hc16 => ?_) (fun hc16 => ?_)
    · replace hf := if_t hc16 hf
      refine ex_iconst (v := 0) (pc' := 132) dX11_steps_131 ic_0 rfl ?_
      refine ex_istore (lv' := [(5, .int 0), (0, .ref (gB G + 99)), (1, .int v1), (2, .int v2), (6, .int v6)]) (pc' := 134) dX11_steps_132 (Nat.le_of_ble_eq_true rfl) rfl rfl ?_
      refine ex_iincc (lv' := [(6, .int (v6 + 1)), (5, .int 0), (0, .ref (gB G + 99)), (1, .int v1), (2, .int v2)]) 4 (pc' := 137) dX11_steps_134 rfl ic_1 (Nat.le_of_ble_eq_true rfl) rfl rfl ?_
      refine ex_goto (tgt := 81) dX11_steps_137 (by decide) ?_
      exact ex_sub [2, 3, 4, 1, 0] rfl (hC _ _ (Option.some.inj hf).symm)
    · replace hf := if_f hc16 hf
      refine ex_aload_n 0 (pc' := 93) dX11_steps_92 rfl rfl rfl ?_
      refine ex_getR (pc' := 96) dX11_steps_93 fl_X11_94 rfl (sh11_k hO) (sh11_F33 hO) rfl ?_
      refine ex_iload 4 (pc' := 98) dX11_steps_96 rfl rfl ?_
      obtain ⟨hg17, hf⟩ := of_guard hf
      refine ex_iald (pc' := 99) dX11_steps_98 (sh11_T33 hO) (inb_in hg17) rfl ?_
      refine ex_iload_n 2 (pc' := 100) dX11_steps_99 rfl rfl rfl ?_
      refine ex_icmpgt (tgt := 131) (pc' := 103) dX11_steps_100 (by decide) rfl (fun hc18 => ?_) (fun hc18 => ?_)
      · replace hf := if_t hc18 hf
        refine ex_iconst (v := 0) (pc' := 132) dX11_steps_131 ic_0 rfl ?_
        refine ex_istore (lv' := [(5, .int 0), (0, .ref (gB G + 99)), (1, .int v1), (2, .int v2), (6, .int v6)]) (pc' := 134) dX11_steps_132 (Nat.le_of_ble_eq_true rfl) rfl rfl ?_
        refine ex_iincc (lv' := [(6, .int (v6 + 1)), (5, .int 0), (0, .ref (gB G + 99)), (1, .int v1), (2, .int v2)]) 4 (pc' := 137) dX11_steps_134 rfl ic_1 (Nat.le_of_ble_eq_true rfl) rfl rfl ?_
        refine ex_goto (tgt := 81) dX11_steps_137 (by decide) ?_
        exact ex_sub [2, 3, 4, 1, 0] rfl (hC _ _ (Option.some.inj hf).symm)
      · replace hf := if_f hc18 hf
        refine ex_iload 4 (pc' := 105) dX11_steps_103 rfl rfl ?_
        refine ex_ifeq (tgt := 127) (pc' := 108) dX11_steps_105 (by decide) rfl (fun hc19 => ?_) (fun hc19 => ?_)
        · replace hf := if_t hc19 hf
          refine ex_iconst (v := 1) (pc' := 128) dX11_steps_127 ic_1 rfl ?_
          refine ex_goto (tgt := 132) dX11_steps_128 (by decide) ?_
          refine ex_istore (lv' := [(5, .int 1), (0, .ref (gB G + 99)), (1, .int v1), (2, .int v2), (6, .int v6)]) (pc' := 134) dX11_steps_132 (Nat.le_of_ble_eq_true rfl) rfl rfl ?_
          refine ex_iincc (lv' := [(6, .int (v6 + 1)), (5, .int 1), (0, .ref (gB G + 99)), (1, .int v1), (2, .int v2)]) 4 (pc' := 137) dX11_steps_134 rfl ic_1 (Nat.le_of_ble_eq_true rfl) rfl rfl ?_
          refine ex_goto (tgt := 81) dX11_steps_137 (by decide) ?_
          exact ex_sub [2, 3, 4, 1, 0] rfl (hC _ _ (Option.some.inj hf).symm)
        · replace hf := if_f hc19 hf
          refine ex_aload_n 0 (pc' := 109) dX11_steps_108 rfl rfl rfl ?_
          refine ex_getR (pc' := 112) dX11_steps_109 fl_X11_94 rfl (sh11_k hO) (sh11_F33 hO) rfl ?_
          refine ex_iload 4 (pc' := 114) dX11_steps_112 rfl rfl ?_
          obtain ⟨hg20, hf⟩ := of_guard hf
          refine ex_iald (pc' := 115) dX11_steps_114 (sh11_T33 hO) (inb_in hg20) rfl ?_
          refine ex_aload_n 0 (pc' := 116) dX11_steps_115 rfl rfl rfl ?_
          refine ex_getR (pc' := 119) dX11_steps_116 fl_X11_94 rfl (sh11_k hO) (sh11_F33 hO) rfl ?_
          refine ex_iload 4 (pc' := 121) dX11_steps_119 rfl rfl ?_
          refine ex_iconst (v := 1) (pc' := 122) dX11_steps_121 ic_1 rfl ?_
          refine ex_isub (pc' := 123) dX11_steps_122 rfl ?_
          obtain ⟨hg21, hf⟩ := of_guard hf
          refine ex_iald (pc' := 124) dX11_steps_123 (sh11_T33 hO) (inb_in hg21) rfl ?_
          refine ex_icmplt (tgt := 131) (pc' := 127) dX11_steps_124 (by decide) rfl (fun hc22 => ?_) (fun hc22 => ?_)
          · replace hf := if_t hc22 hf
            refine ex_iconst (v := 0) (pc' := 132) dX11_steps_131 ic_0 rfl ?_
            refine ex_istore (lv' := [(5, .int 0), (0, .ref (gB G + 99)), (1, .int v1), (2, .int v2), (6, .int v6)]) (pc' := 134) dX11_steps_132 (Nat.le_of_ble_eq_true rfl) rfl rfl ?_
            refine ex_iincc (lv' := [(6, .int (v6 + 1)), (5, .int 0), (0, .ref (gB G + 99)), (1, .int v1), (2, .int v2)]) 4 (pc' := 137) dX11_steps_134 rfl ic_1 (Nat.le_of_ble_eq_true rfl) rfl rfl ?_
            refine ex_goto (tgt := 81) dX11_steps_137 (by decide) ?_
            exact ex_sub [2, 3, 4, 1, 0] rfl (hC _ _ (Option.some.inj hf).symm)
          · replace hf := if_f hc22 hf
            refine ex_iconst (v := 1) (pc' := 128) dX11_steps_127 ic_1 rfl ?_
            refine ex_goto (tgt := 132) dX11_steps_128 (by decide) ?_
            refine ex_istore (lv' := [(5, .int 1), (0, .ref (gB G + 99)), (1, .int v1), (2, .int v2), (6, .int v6)]) (pc' := 134) dX11_steps_132 (Nat.le_of_ble_eq_true rfl) rfl rfl ?_
            refine ex_iincc (lv' := [(6, .int (v6 + 1)), (5, .int 1), (0, .ref (gB G + 99)), (1, .int v1), (2, .int v2)]) 4 (pc' := 137) dX11_steps_134 rfl ic_1 (Nat.le_of_ble_eq_true rfl) rfl rfl ?_
            refine ex_goto (tgt := 81) dX11_steps_137 (by decide) ?_
            exact ex_sub [2, 3, 4, 1, 0] rfl (hC _ _ (Option.some.inj hf).symm)
  · replace hf := if_f hc15 hf
    exact ex_sub [0, 1, 2, 3] rfl (hX _ (Option.some.inj hf).symm)
def f_X11_steps_l81 (N : Nat) (v1 : Int32) (v2 : Int32) (v5 : Int32) (v6 : Int32) (I : MI) : Option (Int32) := loopN (fun s => f_X11_steps_b81 N v1 v2 s.1 s.2 I) N (v5, v6)
set_option maxRecDepth 100000 in
set_option maxHeartbeats 4000000 in
theorem k_X11_steps_l81 {G : GX} {Q : State → Prop} {X : MX} (hO : shX11 X) {v1 : Int32} {v2 : Int32}  {N0 : Nat} {I : MI} {L : ML} {out : (Int32)} (hX : ∀ (w5 : Int32), out = w5 → Ex G mX11_steps rmX11_steps Q (0, 0) X I L 140 [(0, .ref (gB G + 99)), (1, .int v1), (2, .int v2), (5, .int w5)] []) : ∀ (N : Nat) (v5 : Int32) (v6 : Int32), loopN (fun s => f_X11_steps_b81 N0 v1 v2 s.1 s.2 I) N (v5, v6) = some out → Ex G mX11_steps rmX11_steps Q (0, 0) X I L 81 [(0, .ref (gB G + 99)), (1, .int v1), (2, .int v2), (5, .int v5), (6, .int v6)] [] := by
  intro N
  induction N with
  | zero => intro v5 v6 hf; exact absurd (loopN_zero hf) id
  | succ n ih =>
    intro v5 v6 hf
    rcases loopN_succ hf with ⟨s, hb, hl⟩ | hb
    · obtain ⟨v5', v6'⟩ := s
      refine k_X11_steps_b81 hO  hb (fun _ _ he => ?_) (fun _ he => by cases he)
      cases he
      exact ih v5' v6' hl
    · exact k_X11_steps_b81 hO  hb (fun _ _ he => by cases he) (fun x0 he => hX x0 (Sum.inr.inj he))
def f_X11_steps_b157 (N : Nat) (v1 : Int32) (v2 : Int32) (v6 : Int32) (I : MI) : Option ((Int32 × MI) ⊕ (MI)) := (if v6 < v2 then if inb v6 6 then if inb ((6 * v1) + v6) 36 then letv (upI I 104 (Int32.toNatClampNeg ((6 * v1) + v6)) ((jshl 1 (I 127 (Int32.toNatClampNeg v6))) - 1)) fun I31 => some (.inl (v6 + 1, I31)) else none else none else some (.inr I))
set_option maxRecDepth 100000 in
set_option maxHeartbeats 4000000 in
theorem k_X11_steps_b157 {G : GX} {Q : State → Prop} {X : MX} (hO : shX11 X) {v1 : Int32} {v2 : Int32}  {v6 : Int32} {N : Nat} {I : MI} {L : ML} {out : (Int32 × MI) ⊕ (MI)} (hf : f_X11_steps_b157 N v1 v2 v6 I = some out) (hC : ∀ (v6' : Int32) (I' : MI), out = .inl (v6', I') → Ex G mX11_steps rmX11_steps Q (0, 0) X I' L 157 [(0, .ref (gB G + 99)), (1, .int v1), (2, .int v2), (6, .int v6')] []) (hX : ∀ (I' : MI), out = .inr I' → Ex G mX11_steps rmX11_steps Q (0, 0) X I' L 192 [(0, .ref (gB G + 99)), (1, .int v1)] []) : Ex G mX11_steps rmX11_steps Q (0, 0) X I L 157 [(0, .ref (gB G + 99)), (1, .int v1), (2, .int v2), (6, .int v6)] [] := by
  unfold f_X11_steps_b157 at hf
  refine ex_iload 3 (pc' := 159) dX11_steps_157 rfl rfl ?_
  refine ex_iload_n 2 (pc' := 160) dX11_steps_159 rfl rfl rfl ?_
  refine ex_icmpge (tgt := 192) (pc' := 163) dX11_steps_160 (by decide) rfl (fun hc28 => ?_) (fun hc28 => ?_)
  · replace hf := if_t hc28 hf
    refine ex_aload_n 0 (pc' := 164) dX11_steps_163 rfl rfl rfl ?_
    refine ex_getR (pc' := 167) dX11_steps_164 fl_X11_25 rfl (sh11_k hO) (sh11_F4 hO) rfl ?_
    refine ex_bipush (v := 6) (pc' := 169) dX11_steps_167 bp_6 rfl ?_
    refine ex_iload_n 1 (pc' := 170) dX11_steps_169 rfl rfl rfl ?_
    refine ex_imul (pc' := 171) dX11_steps_170 rfl ?_
    refine ex_iload 3 (pc' := 173) dX11_steps_171 rfl rfl ?_
    refine ex_iadd (pc' := 174) dX11_steps_173 rfl ?_
    refine ex_iconst (v := 1) (pc' := 175) dX11_steps_174 ic_1 rfl ?_
    refine ex_aload_n 0 (pc' := 176) dX11_steps_175 rfl rfl rfl ?_
    refine ex_getR (pc' := 179) dX11_steps_176 fl_X11_94 rfl (sh11_k hO) (sh11_F33 hO) rfl ?_
    refine ex_iload 3 (pc' := 181) dX11_steps_179 rfl rfl ?_
    obtain ⟨hg29, hf⟩ := of_guard hf
    refine ex_iald (pc' := 182) dX11_steps_181 (sh11_T33 hO) (inb_in hg29) rfl ?_
    refine ex_ishl (pc' := 183) dX11_steps_182 rfl ?_
    refine ex_iconst (v := 1) (pc' := 184) dX11_steps_183 ic_1 rfl ?_
    refine ex_isub (pc' := 185) dX11_steps_184 rfl ?_
    obtain ⟨hg30, hf⟩ := of_guard hf
    refine ex_iast (pc' := 186) dX11_steps_185 (sh11_T4 hO) (inb_in hg30) rfl ?_
    obtain ⟨I31, hI31, hf⟩ := of_let hf
    rw [← hI31]
    refine ex_iincc (lv' := [(6, .int (v6 + 1)), (0, .ref (gB G + 99)), (1, .int v1), (2, .int v2)]) 3 (pc' := 189) dX11_steps_186 rfl ic_1 (Nat.le_of_ble_eq_true rfl) rfl rfl ?_
    refine ex_goto (tgt := 157) dX11_steps_189 (by decide) ?_
    exact ex_sub [1, 2, 3, 0] rfl (hC _ _ (Option.some.inj hf).symm)
  · replace hf := if_f hc28 hf
    exact ex_sub [0, 1] rfl (hX _ (Option.some.inj hf).symm)
def f_X11_steps_l157 (N : Nat) (v1 : Int32) (v2 : Int32) (v6 : Int32) (I : MI) : Option (MI) := loopN (fun s => f_X11_steps_b157 N v1 v2 s.1 s.2) N (v6, I)
set_option maxRecDepth 100000 in
set_option maxHeartbeats 4000000 in
theorem k_X11_steps_l157 {G : GX} {Q : State → Prop} {X : MX} (hO : shX11 X) {v1 : Int32} {v2 : Int32}  {N0 : Nat} {L : ML} {out : (MI)} (hX : ∀ (I' : MI), out = I' → Ex G mX11_steps rmX11_steps Q (0, 0) X I' L 192 [(0, .ref (gB G + 99)), (1, .int v1)] []) : ∀ (N : Nat) (v6 : Int32) (I : MI), loopN (fun s => f_X11_steps_b157 N0 v1 v2 s.1 s.2) N (v6, I) = some out → Ex G mX11_steps rmX11_steps Q (0, 0) X I L 157 [(0, .ref (gB G + 99)), (1, .int v1), (2, .int v2), (6, .int v6)] [] := by
  intro N
  induction N with
  | zero => intro v6 I hf; exact absurd (loopN_zero hf) id
  | succ n ih =>
    intro v6 I hf
    rcases loopN_succ hf with ⟨s, hb, hl⟩ | hb
    · obtain ⟨v6', I'⟩ := s
      refine k_X11_steps_b157 hO  hb (fun _ _ he => ?_) (fun _ he => by cases he)
      cases he
      exact ih v6' I' hl
    · exact k_X11_steps_b157 hO  hb (fun _ _ he => by cases he) (fun x0 he => hX x0 (Sum.inr.inj he))
def f_X11_steps_j76 (N : Nat) (v1 : Int32) (v2 : Int32) (s0 : Int32) (I : MI) : Option (Int32 × MI) := bnd1 (f_X11_steps_l81 N v1 v2 s0 0 I) fun x23 => (if x23 = 0 then some ((-2), I) else bnd1 (f_X11_bare N v1 v2 I) fun I26 => bnd1 (f_X11_steps_l157 N v1 v2 0 I26) fun I32 => bnd1 (f_X11_cells N v1 I32) fun r34 => some (r34, I32))
set_option maxRecDepth 100000 in
set_option maxHeartbeats 4000000 in
theorem k_X11_steps_j76 {G : GX} {Q : State → Prop} {X : MX} (hO : shX11 X) {v1 : Int32} {v2 : Int32} {s0 : Int32}  {N : Nat} {I : MI} {L : ML} {out : Int32 × MI} (hf : f_X11_steps_j76 N v1 v2 s0 I = some out) (hR : ∀ (z : Int32) (I' : MI), out = (z, I') → Q = RetQ G (some (.int z)) X I' L (0, 0)) : Ex G mX11_steps rmX11_steps Q (0, 0) X I L 76 [(0, .ref (gB G + 99)), (1, .int v1), (2, .int v2)] [.int s0] := by
  unfold f_X11_steps_j76 at hf
  refine ex_istore (lv' := [(5, .int s0), (0, .ref (gB G + 99)), (1, .int v1), (2, .int v2)]) (pc' := 78) dX11_steps_76 (Nat.le_of_ble_eq_true rfl) rfl rfl ?_
  refine ex_iconst (v := 0) (pc' := 79) dX11_steps_78 ic_0 rfl ?_
  refine ex_istore (lv' := [(6, .int 0), (5, .int s0), (0, .ref (gB G + 99)), (1, .int v1), (2, .int v2)]) (pc' := 81) dX11_steps_79 (Nat.le_of_ble_eq_true rfl) rfl rfl ?_
  refine ex_sub (lv' := [(0, .ref (gB G + 99)), (1, .int v1), (2, .int v2), (5, .int s0), (6, .int 0)]) [2, 3, 4, 1, 0] rfl ?_
  obtain ⟨x23, hq24, hf⟩ := of_bnd1 hf
  refine k_X11_steps_l81 hO (fun x23' he => ?_) _ _ _ hq24
  cases he
  refine ex_iload 3 (pc' := 142) dX11_steps_140 rfl rfl ?_
  refine ex_ifne (tgt := 148) (pc' := 145) dX11_steps_142 (by decide) rfl (fun hc25 => ?_) (fun hc25 => ?_)
  · replace hf := if_t hc25 hf
    refine ex_bipush (v := (-2)) (pc' := 147) dX11_steps_145 bp_m2 rfl ?_
    exact ex_iret dX11_steps_147 rfl (hR _ _ (Option.some.inj hf).symm)
  · replace hf := if_f hc25 hf
    refine ex_aload_n 0 (pc' := 149) dX11_steps_148 rfl rfl rfl ?_
    refine ex_iload_n 1 (pc' := 150) dX11_steps_149 rfl rfl rfl ?_
    refine ex_iload_n 2 (pc' := 151) dX11_steps_150 rfl rfl rfl ?_
    obtain ⟨I26, hq27, hf⟩ := of_bnd1 hf
    refine ex_callV_v (rm' := rmX11_bare) (st := []) (pc' := 154) [.int v1, .int v2] dX11_steps_151 cl_X11_179 (k_X11_bare G hO hq27) rfl (sh11_k hO) ⟨_, _, rfl⟩ rfl rfl (ROOM_of rfl) (Nat.le_of_ble_eq_true rfl) rfl rfl ?_
    refine ex_iconst (v := 0) (pc' := 155) dX11_steps_154 ic_0 rfl ?_
    refine ex_istore (lv' := [(6, .int 0), (0, .ref (gB G + 99)), (1, .int v1), (2, .int v2), (5, .int x23)]) (pc' := 157) dX11_steps_155 (Nat.le_of_ble_eq_true rfl) rfl rfl ?_
    refine ex_sub (lv' := [(0, .ref (gB G + 99)), (1, .int v1), (2, .int v2), (6, .int 0)]) [1, 2, 3, 0] rfl ?_
    obtain ⟨I32, hq33, hf⟩ := of_bnd1 hf
    refine k_X11_steps_l157 hO (fun I32' he => ?_) _ _ _ hq33
    cases he
    refine ex_aload_n 0 (pc' := 193) dX11_steps_192 rfl rfl rfl ?_
    refine ex_iload_n 1 (pc' := 194) dX11_steps_193 rfl rfl rfl ?_
    obtain ⟨r34, hq35, hf⟩ := of_bnd1 hf
    refine ex_callV_i (rm' := rmX11_cells) (st := []) (pc' := 197) [.int v1] dX11_steps_194 cl_X11_186 (k_X11_cells G hO hq35) rfl (sh11_k hO) ⟨_, _, rfl⟩ rfl rfl (ROOM_of rfl) (Nat.le_of_ble_eq_true rfl) rfl rfl ?_
    exact ex_iret dX11_steps_197 rfl (hR _ _ (Option.some.inj hf).symm)
def f_X11_steps (N : Nat) (v1 : Int32) (v2 : Int32) (v3 : Int32) (I : MI) : Option (Int32 × MI) := bnd1 (f_X11_isSix v1) fun r1 => (if r1 = 0 then some ((-1), I) else bnd1 (f_X11_in (Int32.toInt64 v2) 1 6) fun r4 => (if r4 = 0 then some ((-2), I) else (if v3 < 0 then some ((-2), I) else bnd2 (f_X11_steps_l36 N v1 v2 v3 (v2 - 1) I) fun x11 I12 => (if x11 = 0 then f_X11_steps_j76 N v1 v2 1 I12 else f_X11_steps_j76 N v1 v2 0 I12))))
set_option maxRecDepth 100000 in
set_option maxHeartbeats 4000000 in
theorem kb_X11_steps {G : GX} {Q : State → Prop} {X : MX} (hO : shX11 X) {v1 : Int32} {v2 : Int32} {v3 : Int32}  {N : Nat} {I : MI} {L : ML} {out : Int32 × MI} (hf : f_X11_steps N v1 v2 v3 I = some out) (hR : ∀ (z : Int32) (I' : MI), out = (z, I') → Q = RetQ G (some (.int z)) X I' L (0, 0)) : Ex G mX11_steps rmX11_steps Q (0, 0) X I L 0 [(0, .ref (gB G + 99)), (1, .int v1), (2, .int v2), (3, .int v3)] [] := by
  unfold f_X11_steps at hf
  refine ex_iload_n 1 (pc' := 1) dX11_steps_0 rfl rfl rfl ?_
  obtain ⟨r1, hq2, hf⟩ := of_bnd1 hf
  refine ex_callS_i (rm' := rmX11_isSix) (st := []) (pc' := 4) [.int v1] dX11_steps_1 cl_X11_133 (k_X11_isSix G hq2) rfl rfl rfl (ROOM_of rfl) (Nat.le_of_ble_eq_true rfl) rfl rfl ?_
  refine ex_ifne (tgt := 9) (pc' := 7) dX11_steps_4 (by decide) rfl (fun hc3 => ?_) (fun hc3 => ?_)
  · replace hf := if_t hc3 hf
    refine ex_iconst (v := (-1)) (pc' := 8) dX11_steps_7 ic_m1 rfl ?_
    exact ex_iret dX11_steps_8 rfl (hR _ _ (Option.some.inj hf).symm)
  · replace hf := if_f hc3 hf
    refine ex_iload_n 2 (pc' := 10) dX11_steps_9 rfl rfl rfl ?_
    refine ex_i2l (pc' := 11) dX11_steps_10 rfl ?_
    refine ex_lconst (v := 1) (pc' := 12) dX11_steps_11 lc_1 rfl ?_
    refine ex_ldc2 (v := 6) (pc' := 15) dX11_steps_12 co_X11_137 rfl ?_
    obtain ⟨r4, hq5, hf⟩ := of_bnd1 hf
    refine ex_callS_i (rm' := rmX11_in) (st := []) (pc' := 18) [.long (Int32.toInt64 v2), .long 1, .long 6] dX11_steps_15 cl_X11_129 (k_X11_in G hq5) rfl rfl rfl (ROOM_of rfl) (Nat.le_of_ble_eq_true rfl) rfl rfl ?_
    refine ex_ifeq (tgt := 25) (pc' := 21) dX11_steps_18 (by decide) rfl (fun hc6 => ?_) (fun hc6 => ?_)
    · replace hf := if_t hc6 hf
      refine ex_bipush (v := (-2)) (pc' := 27) dX11_steps_25 bp_m2 rfl ?_
      exact ex_iret dX11_steps_27 rfl (hR _ _ (Option.some.inj hf).symm)
    · replace hf := if_f hc6 hf
      refine ex_iload_n 3 (pc' := 22) dX11_steps_21 rfl rfl rfl ?_
      refine ex_ifge (tgt := 28) (pc' := 25) dX11_steps_22 (by decide) rfl (fun hc7 => ?_) (fun hc7 => ?_)
      · replace hf := if_t hc7 hf
        refine ex_bipush (v := (-2)) (pc' := 27) dX11_steps_25 bp_m2 rfl ?_
        exact ex_iret dX11_steps_27 rfl (hR _ _ (Option.some.inj hf).symm)
      · replace hf := if_f hc7 hf
        refine ex_iload_n 3 (pc' := 29) dX11_steps_28 rfl rfl rfl ?_
        refine ex_istore (lv' := [(4, .int v3), (0, .ref (gB G + 99)), (1, .int v1), (2, .int v2), (3, .int v3)]) (pc' := 31) dX11_steps_29 (Nat.le_of_ble_eq_true rfl) rfl rfl ?_
        refine ex_iload_n 3 (pc' := 32) dX11_steps_31 rfl rfl rfl ?_
        refine ex_iconst (v := 1) (pc' := 33) dX11_steps_32 ic_1 rfl ?_
        refine ex_isub (pc' := 34) dX11_steps_33 rfl ?_
        refine ex_istore (lv' := [(5, .int (v2 - 1)), (4, .int v3), (0, .ref (gB G + 99)), (1, .int v1), (2, .int v2), (3, .int v3)]) (pc' := 36) dX11_steps_34 (Nat.le_of_ble_eq_true rfl) rfl rfl ?_
        refine ex_sub (lv' := [(0, .ref (gB G + 99)), (1, .int v1), (2, .int v2), (4, .int v3), (5, .int (v2 - 1))]) [2, 3, 4, 1, 0] rfl ?_
        obtain ⟨x11, I12, hq13, hf⟩ := of_bnd2 hf
        refine k_X11_steps_l36 hO (fun x11' I12' he => ?_) _ _ _ _ hq13
        cases he
        refine ex_iload 3 (pc' := 68) dX11_steps_66 rfl rfl ?_
        refine ex_ifne (tgt := 75) (pc' := 71) dX11_steps_68 (by decide) rfl (fun hc14 => ?_) (fun hc14 => ?_)
        · replace hf := if_t hc14 hf
          refine ex_iconst (v := 1) (pc' := 72) dX11_steps_71 ic_1 rfl ?_
          refine ex_goto (tgt := 76) dX11_steps_72 (by decide) ?_
          refine ex_sub [0, 1, 2] rfl (k_X11_steps_j76 hO  hf hR)
        · replace hf := if_f hc14 hf
          refine ex_iconst (v := 0) (pc' := 76) dX11_steps_75 ic_0 rfl ?_
          refine ex_sub [0, 1, 2] rfl (k_X11_steps_j76 hO  hf hR)
set_option maxRecDepth 100000 in
set_option maxHeartbeats 4000000 in
theorem k_X11_steps (G : GX) {X : MX} (hO : shX11 X) {v1 : Int32} {v2 : Int32} {v3 : Int32}  {N : Nat} {I : MI} {L : ML} {z : Int32} {I' : MI} (hf : f_X11_steps N v1 v2 v3 I = some (z, I')) : Con G mX11_steps yX11_steps rmX11_steps (fun B => [.ref (B + 99), .int v1, .int v2, .int v3]) X I L (some (.int z)) X I' L :=
  Con.of (by decide) rfl (fun h => by cases h) (fun B => Nat.le_of_ble_eq_true rfl) (fun G => kb_X11_steps hO  hf (fun _ _ he => by cases he; rfl))
