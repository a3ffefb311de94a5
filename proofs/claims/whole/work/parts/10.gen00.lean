theorem ic_1 : Int32.ofInt 1 = 1 := by decide
theorem co_J6_265 : Cond.constant RJ6 265 (1431655765) ∈ lwg := lwg_at 494 (by decide +kernel) rfl
theorem co_J6_266 : Cond.constant RJ6 266 (858993459) ∈ lwg := lwg_at 495 (by decide +kernel) rfl
theorem ic_2 : Int32.ofInt 2 = 2 := by decide
theorem ic_4 : Int32.ofInt 4 = 4 := by decide
theorem co_J6_267 : Cond.constant RJ6 267 (252645135) ∈ lwg := lwg_at 496 (by decide +kernel) rfl
theorem bp_8 : (Int8.ofInt 8).toInt32 = 8 := by decide
theorem bp_16 : (Int8.ofInt 16).toInt32 = 16 := by decide
theorem bp_63 : (Int8.ofInt 63).toInt32 = 63 := by decide
-- J6_bitCount_0f7a4 ('java/lang/Integer', 'bitCount', '(I)I')
def rmJ6_bitCount_0f7a4 : RM := ((0, 0, 0, 0), false, (some FieldType.int))
def f_J6_bitCount_0f7a4 (v0 : Int32) : Option (Int32) := letv (((v0 - ((jushr v0 1) &&& 1431655765)) &&& 858993459) + ((jushr (v0 - ((jushr v0 1) &&& 1431655765)) 2) &&& 858993459)) fun x1 => letv (((x1 + (jushr x1 4)) &&& 252645135) + (jushr ((x1 + (jushr x1 4)) &&& 252645135) 8)) fun x2 => some ((x2 + (jushr x2 16)) &&& 63)
set_option maxRecDepth 100000 in
set_option maxHeartbeats 4000000 in
theorem kb_J6_bitCount_0f7a4 {G : GX} {Q : State → Prop} {X : MX} {v0 : Int32}  {I : MI} {L : ML} {out : Int32} (hf : f_J6_bitCount_0f7a4 v0 = some out) (hR : ∀ (z : Int32), out = z → Q = RetQ G (some (.int z)) X I L (0, 0)) : Ex G mJ6_bitCount_0f7a4 rmJ6_bitCount_0f7a4 Q (0, 0) X I L 0 [(0, .int v0)] [] := by
  unfold f_J6_bitCount_0f7a4 at hf
  refine ex_iload_n 0 (pc' := 1) dJ6_bitCount_0f7a4_0 rfl rfl rfl ?_
  refine ex_iload_n 0 (pc' := 2) dJ6_bitCount_0f7a4_1 rfl rfl rfl ?_
  refine ex_iconst (v := 1) (pc' := 3) dJ6_bitCount_0f7a4_2 ic_1 rfl ?_
  refine ex_iushr (pc' := 4) dJ6_bitCount_0f7a4_3 rfl ?_
  refine ex_ldc_w (v := 1431655765) (pc' := 7) dJ6_bitCount_0f7a4_4 co_J6_265 rfl ?_
  refine ex_iand (pc' := 8) dJ6_bitCount_0f7a4_7 rfl ?_
  refine ex_isub (pc' := 9) dJ6_bitCount_0f7a4_8 rfl ?_
  refine ex_istore_n (lv' := [(0, .int (v0 - ((jushr v0 1) &&& 1431655765)))]) (pc' := 10) dJ6_bitCount_0f7a4_9 rfl (Nat.le_of_ble_eq_true rfl) rfl rfl ?_
  refine ex_iload_n 0 (pc' := 11) dJ6_bitCount_0f7a4_10 rfl rfl rfl ?_
  refine ex_ldc_w (v := 858993459) (pc' := 14) dJ6_bitCount_0f7a4_11 co_J6_266 rfl ?_
  refine ex_iand (pc' := 15) dJ6_bitCount_0f7a4_14 rfl ?_
  refine ex_iload_n 0 (pc' := 16) dJ6_bitCount_0f7a4_15 rfl rfl rfl ?_
  refine ex_iconst (v := 2) (pc' := 17) dJ6_bitCount_0f7a4_16 ic_2 rfl ?_
  refine ex_iushr (pc' := 18) dJ6_bitCount_0f7a4_17 rfl ?_
  refine ex_ldc_w (v := 858993459) (pc' := 21) dJ6_bitCount_0f7a4_18 co_J6_266 rfl ?_
  refine ex_iand (pc' := 22) dJ6_bitCount_0f7a4_21 rfl ?_
  refine ex_iadd (pc' := 23) dJ6_bitCount_0f7a4_22 rfl ?_
  obtain ⟨x1, hx1, hf⟩ := of_let hf
  rw [← hx1]
  refine ex_istore_n (lv' := [(0, .int x1)]) (pc' := 24) dJ6_bitCount_0f7a4_23 rfl (Nat.le_of_ble_eq_true rfl) rfl rfl ?_
  refine ex_iload_n 0 (pc' := 25) dJ6_bitCount_0f7a4_24 rfl rfl rfl ?_
  refine ex_iload_n 0 (pc' := 26) dJ6_bitCount_0f7a4_25 rfl rfl rfl ?_
  refine ex_iconst (v := 4) (pc' := 27) dJ6_bitCount_0f7a4_26 ic_4 rfl ?_
  refine ex_iushr (pc' := 28) dJ6_bitCount_0f7a4_27 rfl ?_
  refine ex_iadd (pc' := 29) dJ6_bitCount_0f7a4_28 rfl ?_
  refine ex_ldc_w (v := 252645135) (pc' := 32) dJ6_bitCount_0f7a4_29 co_J6_267 rfl ?_
  refine ex_iand (pc' := 33) dJ6_bitCount_0f7a4_32 rfl ?_
  refine ex_istore_n (lv' := [(0, .int ((x1 + (jushr x1 4)) &&& 252645135))]) (pc' := 34) dJ6_bitCount_0f7a4_33 rfl (Nat.le_of_ble_eq_true rfl) rfl rfl ?_
  refine ex_iload_n 0 (pc' := 35) dJ6_bitCount_0f7a4_34 rfl rfl rfl ?_
  refine ex_iload_n 0 (pc' := 36) dJ6_bitCount_0f7a4_35 rfl rfl rfl ?_
  refine ex_bipush (v := 8) (pc' := 38) dJ6_bitCount_0f7a4_36 bp_8 rfl ?_
  refine ex_iushr (pc' := 39) dJ6_bitCount_0f7a4_38 rfl ?_
  refine ex_iadd (pc' := 40) dJ6_bitCount_0f7a4_39 rfl ?_
  obtain ⟨x2, hx2, hf⟩ := of_let hf
  rw [← hx2]
  refine ex_istore_n (lv' := [(0, .int x2)]) (pc' := 41) dJ6_bitCount_0f7a4_40 rfl (Nat.le_of_ble_eq_true rfl) rfl rfl ?_
  refine ex_iload_n 0 (pc' := 42) dJ6_bitCount_0f7a4_41 rfl rfl rfl ?_
  refine ex_iload_n 0 (pc' := 43) dJ6_bitCount_0f7a4_42 rfl rfl rfl ?_
  refine ex_bipush (v := 16) (pc' := 45) dJ6_bitCount_0f7a4_43 bp_16 rfl ?_
  refine ex_iushr (pc' := 46) dJ6_bitCount_0f7a4_45 rfl ?_
  refine ex_iadd (pc' := 47) dJ6_bitCount_0f7a4_46 rfl ?_
  refine ex_istore_n (lv' := [(0, .int (x2 + (jushr x2 16)))]) (pc' := 48) dJ6_bitCount_0f7a4_47 rfl (Nat.le_of_ble_eq_true rfl) rfl rfl ?_
  refine ex_iload_n 0 (pc' := 49) dJ6_bitCount_0f7a4_48 rfl rfl rfl ?_
  refine ex_bipush (v := 63) (pc' := 51) dJ6_bitCount_0f7a4_49 bp_63 rfl ?_
  refine ex_iand (pc' := 52) dJ6_bitCount_0f7a4_51 rfl ?_
  exact ex_iret dJ6_bitCount_0f7a4_52 rfl (hR _ (Option.some.inj hf).symm)
set_option maxRecDepth 100000 in
set_option maxHeartbeats 4000000 in
theorem k_J6_bitCount_0f7a4 (G : GX) {X : MX} {v0 : Int32}  {I : MI} {L : ML} {z : Int32} (hf : f_J6_bitCount_0f7a4 v0 = some z) : Con G mJ6_bitCount_0f7a4 yJ6_bitCount_0f7a4 rmJ6_bitCount_0f7a4 (fun B => [.int v0]) X I L (some (.int z)) X I L :=
  Con.of (by decide) rfl (fun h => by cases h) (fun B => Nat.le_of_ble_eq_true rfl) (fun G => kb_J6_bitCount_0f7a4  hf (fun _ he => by cases he; rfl))
theorem ic_0 : Int32.ofInt 0 = 0 := by decide
-- J7_fill_53178 ('java/util/Arrays', 'fill', '([II)V')
def rmJ7_fill_53178 : RM := ((0, 0, 0, 0), false, none)
def f_J7_fill_53178_b5 (N : Nat) (a0 : Nat) (n0 : Nat) (v1 : Int32) (v3 : Int32) (v2 : Int32) (I : MI) : Option ((Int32 × MI) ⊕ (MI)) := (if v2 < v3 then if inb v2 n0 then letv (upI I a0 (Int32.toNatClampNeg v2) v1) fun I3 => some (.inl (v2 + 1, I3)) else none else some (.inr I))
set_option maxRecDepth 100000 in
set_option maxHeartbeats 4000000 in
theorem k_J7_fill_53178_b5 {G : GX} {Q : State → Prop} {X : MX} {a0 : Nat} {n0 : Nat} {v1 : Int32} {v3 : Int32} (h0 : X.1 a0 = (2, n0)) {v2 : Int32} {N : Nat} {I : MI} {L : ML} {out : (Int32 × MI) ⊕ (MI)} (hf : f_J7_fill_53178_b5 N a0 n0 v1 v3 v2 I = some out) (hC : ∀ (v2' : Int32) (I' : MI), out = .inl (v2', I') → Ex G mJ7_fill_53178 rmJ7_fill_53178 Q (0, 0) X I' L 5 [(0, .ref (gB G + a0)), (1, .int v1), (2, .int v2'), (3, .int v3)] []) (hX : ∀ (I' : MI), out = .inr I' → Ex G mJ7_fill_53178 rmJ7_fill_53178 Q (0, 0) X I' L 20 [] []) : Ex G mJ7_fill_53178 rmJ7_fill_53178 Q (0, 0) X I L 5 [(0, .ref (gB G + a0)), (1, .int v1), (2, .int v2), (3, .int v3)] [] := by
  unfold f_J7_fill_53178_b5 at hf
  refine ex_iload_n 2 (pc' := 6) dJ7_fill_53178_5 rfl rfl rfl ?_
  refine ex_iload_n 3 (pc' := 7) dJ7_fill_53178_6 rfl rfl rfl ?_
  refine ex_icmpge (tgt := 20) (pc' := 10) dJ7_fill_53178_7 (by decide) rfl (fun hc1 => ?_) (fun hc1 => ?_)
  · replace hf := if_t hc1 hf
    refine ex_aload_n 0 (pc' := 11) dJ7_fill_53178_10 rfl rfl rfl ?_
    refine ex_iload_n 2 (pc' := 12) dJ7_fill_53178_11 rfl rfl rfl ?_
    refine ex_iload_n 1 (pc' := 13) dJ7_fill_53178_12 rfl rfl rfl ?_
    obtain ⟨hg2, hf⟩ := of_guard hf
    refine ex_iast (pc' := 14) dJ7_fill_53178_13 h0 (inb_in hg2) rfl ?_
    obtain ⟨I3, hI3, hf⟩ := of_let hf
    rw [← hI3]
    refine ex_iincc (lv' := [(2, .int (v2 + 1)), (0, .ref (gB G + a0)), (1, .int v1), (3, .int v3)]) 2 (pc' := 17) dJ7_fill_53178_14 rfl ic_1 (Nat.le_of_ble_eq_true rfl) rfl rfl ?_
    refine ex_goto (tgt := 5) dJ7_fill_53178_17 (by decide) ?_
    exact ex_sub [1, 2, 0, 3] rfl (hC _ _ (Option.some.inj hf).symm)
  · replace hf := if_f hc1 hf
    exact ex_sub [] rfl (hX _ (Option.some.inj hf).symm)
def f_J7_fill_53178_l5 (N : Nat) (a0 : Nat) (n0 : Nat) (v1 : Int32) (v3 : Int32) (v2 : Int32) (I : MI) : Option (MI) := loopN (fun s => f_J7_fill_53178_b5 N a0 n0 v1 v3 s.1 s.2) N (v2, I)
set_option maxRecDepth 100000 in
set_option maxHeartbeats 4000000 in
theorem k_J7_fill_53178_l5 {G : GX} {Q : State → Prop} {X : MX} {a0 : Nat} {n0 : Nat} {v1 : Int32} {v3 : Int32} (h0 : X.1 a0 = (2, n0)) {N0 : Nat} {L : ML} {out : (MI)} (hX : ∀ (I' : MI), out = I' → Ex G mJ7_fill_53178 rmJ7_fill_53178 Q (0, 0) X I' L 20 [] []) : ∀ (N : Nat) (v2 : Int32) (I : MI), loopN (fun s => f_J7_fill_53178_b5 N0 a0 n0 v1 v3 s.1 s.2) N (v2, I) = some out → Ex G mJ7_fill_53178 rmJ7_fill_53178 Q (0, 0) X I L 5 [(0, .ref (gB G + a0)), (1, .int v1), (2, .int v2), (3, .int v3)] [] := by
  intro N
  induction N with
  | zero => intro v2 I hf; exact absurd (loopN_zero hf) id
  | succ n ih =>
    intro v2 I hf
    rcases loopN_succ hf with ⟨s, hb, hl⟩ | hb
    · obtain ⟨v2', I'⟩ := s
      refine k_J7_fill_53178_b5 h0 hb (fun _ _ he => ?_) (fun _ he => by cases he)
      cases he
      exact ih v2' I' hl
    · exact k_J7_fill_53178_b5 h0 hb (fun _ _ he => by cases he) (fun x0 he => hX x0 (Sum.inr.inj he))
def f_J7_fill_53178 (N : Nat) (a0 : Nat) (n0 : Nat) (v1 : Int32) (I : MI) : Option (MI) := bnd1 (f_J7_fill_53178_l5 N a0 n0 v1 (Int32.ofNat n0) 0 I) fun I4 => some I4
set_option maxRecDepth 100000 in
set_option maxHeartbeats 4000000 in
theorem kb_J7_fill_53178 {G : GX} {Q : State → Prop} {X : MX} {a0 : Nat} {n0 : Nat} {v1 : Int32} (h0 : X.1 a0 = (2, n0)) {N : Nat} {I : MI} {L : ML} {out : MI} (hf : f_J7_fill_53178 N a0 n0 v1 I = some out) (hR : ∀ (I' : MI), out = I' → Q = RetQ G none X I' L (0, 0)) : Ex G mJ7_fill_53178 rmJ7_fill_53178 Q (0, 0) X I L 0 [(0, .ref (gB G + a0)), (1, .int v1)] [] := by
  unfold f_J7_fill_53178 at hf
  refine ex_iconst (v := 0) (pc' := 1) dJ7_fill_53178_0 ic_0 rfl ?_
  refine ex_istore_n (lv' := [(2, .int 0), (0, .ref (gB G + a0)), (1, .int v1)]) (pc' := 2) dJ7_fill_53178_1 rfl (Nat.le_of_ble_eq_true rfl) rfl rfl ?_
  refine ex_aload_n 1 (pc' := 3) dJ7_fill_53178_2 rfl rfl rfl ?_
  refine ex_alen (pc' := 4) dJ7_fill_53178_3 h0 (Or.inl rfl) rfl rfl ?_
  refine ex_istore_n (lv' := [(3, .int (Int32.ofNat n0)), (2, .int 0), (0, .ref (gB G + a0)), (1, .int v1)]) (pc' := 5) dJ7_fill_53178_4 rfl (Nat.le_of_ble_eq_true rfl) rfl rfl ?_
  refine ex_sub (lv' := [(0, .ref (gB G + a0)), (1, .int v1), (2, .int 0), (3, .int (Int32.ofNat n0))]) [2, 3, 1, 0] rfl ?_
  obtain ⟨I4, hq5, hf⟩ := of_bnd1 hf
  refine k_J7_fill_53178_l5 h0 (fun I4' he => ?_) _ _ _ hq5
  cases he
  exact ex_vret dJ7_fill_53178_20 rfl (hR _ (Option.some.inj hf).symm)
set_option maxRecDepth 100000 in
set_option maxHeartbeats 4000000 in
theorem k_J7_fill_53178 (G : GX) {X : MX} {a0 : Nat} {n0 : Nat} {v1 : Int32} (h0 : X.1 a0 = (2, n0)) {N : Nat} {I : MI} {L : ML} {I' : MI} (hf : f_J7_fill_53178 N a0 n0 v1 I = some I') : Con G mJ7_fill_53178 yJ7_fill_53178 rmJ7_fill_53178 (fun B => [.ref (B + a0), .int v1]) X I L none X I' L :=
  Con.of (by decide) rfl (fun h => by cases h) (fun B => Nat.le_of_ble_eq_true rfl) (fun G => kb_J7_fill_53178 h0 hf (fun _ he => by cases he; rfl))
-- J7_fill_d0a16 ('java/util/Arrays', 'fill', '([JJ)V')
def rmJ7_fill_d0a16 : RM := ((0, 0, 0, 0), false, none)
def f_J7_fill_d0a16_b6 (N : Nat) (a0 : Nat) (n0 : Nat) (v1 : Int64) (v4 : Int32) (v3 : Int32) (L : ML) : Option ((Int32 × ML) ⊕ (ML)) := (if v3 < v4 then if inb v3 n0 then letv (upL L a0 (Int32.toNatClampNeg v3) v1) fun L3 => some (.inl (v3 + 1, L3)) else none else some (.inr L))
set_option maxRecDepth 100000 in
set_option maxHeartbeats 4000000 in
theorem k_J7_fill_d0a16_b6 {G : GX} {Q : State → Prop} {X : MX} {a0 : Nat} {n0 : Nat} {v1 : Int64} {v4 : Int32} (h0 : X.1 a0 = (3, n0)) {v3 : Int32} {N : Nat} {I : MI} {L : ML} {out : (Int32 × ML) ⊕ (ML)} (hf : f_J7_fill_d0a16_b6 N a0 n0 v1 v4 v3 L = some out) (hC : ∀ (v3' : Int32) (L' : ML), out = .inl (v3', L') → Ex G mJ7_fill_d0a16 rmJ7_fill_d0a16 Q (0, 0) X I L' 6 [(0, .ref (gB G + a0)), (1, .long v1), (3, .int v3'), (4, .int v4)] []) (hX : ∀ (L' : ML), out = .inr L' → Ex G mJ7_fill_d0a16 rmJ7_fill_d0a16 Q (0, 0) X I L' 22 [] []) : Ex G mJ7_fill_d0a16 rmJ7_fill_d0a16 Q (0, 0) X I L 6 [(0, .ref (gB G + a0)), (1, .long v1), (3, .int v3), (4, .int v4)] [] := by
  unfold f_J7_fill_d0a16_b6 at hf
  refine ex_iload_n 2 (pc' := 7) dJ7_fill_d0a16_6 rfl rfl rfl ?_
  refine ex_iload 3 (pc' := 9) dJ7_fill_d0a16_7 rfl rfl ?_
  refine ex_icmpge (tgt := 22) (pc' := 12) dJ7_fill_d0a16_9 (by decide) rfl (fun hc1 => ?_) (fun hc1 => ?_)
  · replace hf := if_t hc1 hf
    refine ex_aload_n 0 (pc' := 13) dJ7_fill_d0a16_12 rfl rfl rfl ?_
    refine ex_iload_n 2 (pc' := 14) dJ7_fill_d0a16_13 rfl rfl rfl ?_
    refine ex_lload_n 1 (pc' := 15) dJ7_fill_d0a16_14 rfl rfl rfl ?_
    obtain ⟨hg2, hf⟩ := of_guard hf
    refine ex_last (pc' := 16) dJ7_fill_d0a16_15 h0 (inb_in hg2) rfl ?_
    obtain ⟨L3, hL3, hf⟩ := of_let hf
    rw [← hL3]
    refine ex_iincc (lv' := [(3, .int (v3 + 1)), (0, .ref (gB G + a0)), (1, .long v1), (4, .int v4)]) 2 (pc' := 19) dJ7_fill_d0a16_16 rfl ic_1 (Nat.le_of_ble_eq_true rfl) rfl rfl ?_
    refine ex_goto (tgt := 6) dJ7_fill_d0a16_19 (by decide) ?_
    exact ex_sub [1, 2, 0, 3] rfl (hC _ _ (Option.some.inj hf).symm)
  · replace hf := if_f hc1 hf
    exact ex_sub [] rfl (hX _ (Option.some.inj hf).symm)
def f_J7_fill_d0a16_l6 (N : Nat) (a0 : Nat) (n0 : Nat) (v1 : Int64) (v4 : Int32) (v3 : Int32) (L : ML) : Option (ML) := loopN (fun s => f_J7_fill_d0a16_b6 N a0 n0 v1 v4 s.1 s.2) N (v3, L)
set_option maxRecDepth 100000 in
set_option maxHeartbeats 4000000 in
theorem k_J7_fill_d0a16_l6 {G : GX} {Q : State → Prop} {X : MX} {a0 : Nat} {n0 : Nat} {v1 : Int64} {v4 : Int32} (h0 : X.1 a0 = (3, n0)) {N0 : Nat} {I : MI} {out : (ML)} (hX : ∀ (L' : ML), out = L' → Ex G mJ7_fill_d0a16 rmJ7_fill_d0a16 Q (0, 0) X I L' 22 [] []) : ∀ (N : Nat) (v3 : Int32) (L : ML), loopN (fun s => f_J7_fill_d0a16_b6 N0 a0 n0 v1 v4 s.1 s.2) N (v3, L) = some out → Ex G mJ7_fill_d0a16 rmJ7_fill_d0a16 Q (0, 0) X I L 6 [(0, .ref (gB G + a0)), (1, .long v1), (3, .int v3), (4, .int v4)] [] := by
  intro N
  induction N with
  | zero => intro v3 L hf; exact absurd (loopN_zero hf) id
  | succ n ih =>
    intro v3 L hf
    rcases loopN_succ hf with ⟨s, hb, hl⟩ | hb
    · obtain ⟨v3', L'⟩ := s
      refine k_J7_fill_d0a16_b6 h0 hb (fun _ _ he => ?_) (fun _ he => by cases he)
      cases he
      exact ih v3' L' hl
    · exact k_J7_fill_d0a16_b6 h0 hb (fun _ _ he => by cases he) (fun x0 he => hX x0 (Sum.inr.inj he))
def f_J7_fill_d0a16 (N : Nat) (a0 : Nat) (n0 : Nat) (v1 : Int64) (L : ML) : Option (ML) := bnd1 (f_J7_fill_d0a16_l6 N a0 n0 v1 (Int32.ofNat n0) 0 L) fun L4 => some L4
set_option maxRecDepth 100000 in
set_option maxHeartbeats 4000000 in
theorem kb_J7_fill_d0a16 {G : GX} {Q : State → Prop} {X : MX} {a0 : Nat} {n0 : Nat} {v1 : Int64} (h0 : X.1 a0 = (3, n0)) {N : Nat} {I : MI} {L : ML} {out : ML} (hf : f_J7_fill_d0a16 N a0 n0 v1 L = some out) (hR : ∀ (L' : ML), out = L' → Q = RetQ G none X I L' (0, 0)) : Ex G mJ7_fill_d0a16 rmJ7_fill_d0a16 Q (0, 0) X I L 0 [(0, .ref (gB G + a0)), (1, .long v1)] [] := by
  unfold f_J7_fill_d0a16 at hf
  refine ex_iconst (v := 0) (pc' := 1) dJ7_fill_d0a16_0 ic_0 rfl ?_
  refine ex_istore_n (lv' := [(3, .int 0), (0, .ref (gB G + a0)), (1, .long v1)]) (pc' := 2) dJ7_fill_d0a16_1 rfl (Nat.le_of_ble_eq_true rfl) rfl rfl ?_
  refine ex_aload_n 1 (pc' := 3) dJ7_fill_d0a16_2 rfl rfl rfl ?_
  refine ex_alen (pc' := 4) dJ7_fill_d0a16_3 h0 (Or.inr rfl) rfl rfl ?_
  refine ex_istore (lv' := [(4, .int (Int32.ofNat n0)), (3, .int 0), (0, .ref (gB G + a0)), (1, .long v1)]) (pc' := 6) dJ7_fill_d0a16_4 (Nat.le_of_ble_eq_true rfl) rfl rfl ?_
  refine ex_sub (lv' := [(0, .ref (gB G + a0)), (1, .long v1), (3, .int 0), (4, .int (Int32.ofNat n0))]) [2, 3, 1, 0] rfl ?_
  obtain ⟨L4, hq5, hf⟩ := of_bnd1 hf
  refine k_J7_fill_d0a16_l6 h0 (fun L4' he => ?_) _ _ _ hq5
  cases he
  exact ex_vret dJ7_fill_d0a16_22 rfl (hR _ (Option.some.inj hf).symm)
set_option maxRecDepth 100000 in
set_option maxHeartbeats 4000000 in
theorem k_J7_fill_d0a16 (G : GX) {X : MX} {a0 : Nat} {n0 : Nat} {v1 : Int64} (h0 : X.1 a0 = (3, n0)) {N : Nat} {I : MI} {L : ML} {L' : ML} (hf : f_J7_fill_d0a16 N a0 n0 v1 L = some L') : Con G mJ7_fill_d0a16 yJ7_fill_d0a16 rmJ7_fill_d0a16 (fun B => [.ref (B + a0), .long v1]) X I L none X I L' :=
  Con.of (by decide) rfl (fun h => by cases h) (fun B => Nat.le_of_ble_eq_true rfl) (fun G => kb_J7_fill_d0a16 h0 hf (fun _ he => by cases he; rfl))
theorem fl_X0_11 : FLD RX0 11 0 0 false := ⟨RX0, TX0, 2, rfl, inX0, by decide, lwg_at 126 (by decide +kernel) rfl, nmX0, tyX0_ok, rfl, rfl⟩
theorem fl_X0_15 : FLD RX0 15 0 1 true := ⟨RX0, TX0, 2, rfl, inX0, by decide, lwg_at 129 (by decide +kernel) rfl, nmX0, tyX0_ok, rfl, rfl⟩
theorem ic_m1 : Int32.ofInt (-1) = (-1) := by decide
-- X0_becomeFlipped ('RookWords$Board', 'becomeFlipped', '()V')
def rmX0_becomeFlipped : RM := ((0, 0, 0, 0), false, none)
def f_X0_becomeFlipped_b9 (N : Nat) (a0 : Nat) (v1 : Int32) (v2 : Int32) (I : MI) : Option ((Int32 × Int32 × MI) ⊕ (MI)) := (if v1 < v2 then if inb v1 6 then letv (I (a0 + 1) (Int32.toNatClampNeg v1)) fun x3 => if inb v2 6 then if inb v1 6 then letv (upI I (a0 + 1) (Int32.toNatClampNeg v1) (I (a0 + 1) (Int32.toNatClampNeg v2))) fun I6 => if inb v2 6 then letv (upI I6 (a0 + 1) (Int32.toNatClampNeg v2) x3) fun I8 => some (.inl (v1 + 1, v2 + (-1), I8)) else none else none else none else none else some (.inr I))
set_option maxRecDepth 100000 in
set_option maxHeartbeats 4000000 in
theorem k_X0_becomeFlipped_b9 {G : GX} {Q : State → Prop} {X : MX} {a0 : Nat} (h0 : shX0 X a0) {v1 : Int32} {v2 : Int32} {N : Nat} {I : MI} {L : ML} {out : (Int32 × Int32 × MI) ⊕ (MI)} (hf : f_X0_becomeFlipped_b9 N a0 v1 v2 I = some out) (hC : ∀ (v1' : Int32) (v2' : Int32) (I' : MI), out = .inl (v1', v2', I') → Ex G mX0_becomeFlipped rmX0_becomeFlipped Q (0, 0) X I' L 9 [(0, .ref (gB G + a0)), (1, .int v1'), (2, .int v2')] []) (hX : ∀ (I' : MI), out = .inr I' → Ex G mX0_becomeFlipped rmX0_becomeFlipped Q (0, 0) X I' L 49 [] []) : Ex G mX0_becomeFlipped rmX0_becomeFlipped Q (0, 0) X I L 9 [(0, .ref (gB G + a0)), (1, .int v1), (2, .int v2)] [] := by
  unfold f_X0_becomeFlipped_b9 at hf
  refine ex_iload_n 1 (pc' := 10) dX0_becomeFlipped_9 rfl rfl rfl ?_
  refine ex_iload_n 2 (pc' := 11) dX0_becomeFlipped_10 rfl rfl rfl ?_
  refine ex_icmpge (tgt := 49) (pc' := 14) dX0_becomeFlipped_11 (by decide) rfl (fun hc1 => ?_) (fun hc1 => ?_)
  · replace hf := if_t hc1 hf
    refine ex_aload_n 0 (pc' := 15) dX0_becomeFlipped_14 rfl rfl rfl ?_
    refine ex_getR (pc' := 18) dX0_becomeFlipped_15 fl_X0_15 rfl (sh0_k h0) (sh0_F1 h0) rfl ?_
    refine ex_iload_n 1 (pc' := 19) dX0_becomeFlipped_18 rfl rfl rfl ?_
    obtain ⟨hg2, hf⟩ := of_guard hf
    refine ex_iald (pc' := 20) dX0_becomeFlipped_19 (sh0_T1 h0) (inb_in hg2) rfl ?_
    obtain ⟨x3, hx3, hf⟩ := of_let hf
    rw [← hx3]
    refine ex_istore_n (lv' := [(3, .int x3), (0, .ref (gB G + a0)), (1, .int v1), (2, .int v2)]) (pc' := 21) dX0_becomeFlipped_20 rfl (Nat.le_of_ble_eq_true rfl) rfl rfl ?_
    refine ex_aload_n 1 (pc' := 22) dX0_becomeFlipped_21 rfl rfl rfl ?_
    refine ex_getR (pc' := 25) dX0_becomeFlipped_22 fl_X0_15 rfl (sh0_k h0) (sh0_F1 h0) rfl ?_
    refine ex_iload_n 2 (pc' := 26) dX0_becomeFlipped_25 rfl rfl rfl ?_
    refine ex_aload_n 1 (pc' := 27) dX0_becomeFlipped_26 rfl rfl rfl ?_
    refine ex_getR (pc' := 30) dX0_becomeFlipped_27 fl_X0_15 rfl (sh0_k h0) (sh0_F1 h0) rfl ?_
    refine ex_iload_n 3 (pc' := 31) dX0_becomeFlipped_30 rfl rfl rfl ?_
    obtain ⟨hg4, hf⟩ := of_guard hf
    refine ex_iald (pc' := 32) dX0_becomeFlipped_31 (sh0_T1 h0) (inb_in hg4) rfl ?_
    obtain ⟨hg5, hf⟩ := of_guard hf
    refine ex_iast (pc' := 33) dX0_becomeFlipped_32 (sh0_T1 h0) (inb_in hg5) rfl ?_
    obtain ⟨I6, hI6, hf⟩ := of_let hf
    rw [← hI6]
    refine ex_aload_n 1 (pc' := 34) dX0_becomeFlipped_33 rfl rfl rfl ?_
    refine ex_getR (pc' := 37) dX0_becomeFlipped_34 fl_X0_15 rfl (sh0_k h0) (sh0_F1 h0) rfl ?_
    refine ex_iload_n 3 (pc' := 38) dX0_becomeFlipped_37 rfl rfl rfl ?_
    refine ex_iload_n 0 (pc' := 39) dX0_becomeFlipped_38 rfl rfl rfl ?_
    obtain ⟨hg7, hf⟩ := of_guard hf
    refine ex_iast (pc' := 40) dX0_becomeFlipped_39 (sh0_T1 h0) (inb_in hg7) rfl ?_
    obtain ⟨I8, hI8, hf⟩ := of_let hf
    rw [← hI8]
    refine ex_iincc (lv' := [(1, .int (v1 + 1)), (3, .int x3), (0, .ref (gB G + a0)), (2, .int v2)]) 2 (pc' := 43) dX0_becomeFlipped_40 rfl ic_1 (Nat.le_of_ble_eq_true rfl) rfl rfl ?_
    refine ex_iincc (lv' := [(2, .int (v2 + (-1))), (1, .int (v1 + 1)), (3, .int x3), (0, .ref (gB G + a0))]) 3 (pc' := 46) dX0_becomeFlipped_43 rfl ic_m1 (Nat.le_of_ble_eq_true rfl) rfl rfl ?_
    refine ex_goto (tgt := 9) dX0_becomeFlipped_46 (by decide) ?_
    exact ex_sub [3, 1, 0] rfl (hC _ _ _ (Option.some.inj hf).symm)
  · replace hf := if_f hc1 hf
    exact ex_sub [] rfl (hX _ (Option.some.inj hf).symm)
def f_X0_becomeFlipped_l9 (N : Nat) (a0 : Nat) (v1 : Int32) (v2 : Int32) (I : MI) : Option (MI) := loopN (fun s => f_X0_becomeFlipped_b9 N a0 s.1 s.2.1 s.2.2) N (v1, v2, I)
set_option maxRecDepth 100000 in
set_option maxHeartbeats 4000000 in
theorem k_X0_becomeFlipped_l9 {G : GX} {Q : State → Prop} {X : MX} {a0 : Nat} (h0 : shX0 X a0) {N0 : Nat} {L : ML} {out : (MI)} (hX : ∀ (I' : MI), out = I' → Ex G mX0_becomeFlipped rmX0_becomeFlipped Q (0, 0) X I' L 49 [] []) : ∀ (N : Nat) (v1 : Int32) (v2 : Int32) (I : MI), loopN (fun s => f_X0_becomeFlipped_b9 N0 a0 s.1 s.2.1 s.2.2) N (v1, v2, I) = some out → Ex G mX0_becomeFlipped rmX0_becomeFlipped Q (0, 0) X I L 9 [(0, .ref (gB G + a0)), (1, .int v1), (2, .int v2)] [] := by
  intro N
  induction N with
  | zero => intro v1 v2 I hf; exact absurd (loopN_zero hf) id
  | succ n ih =>
    intro v1 v2 I hf
    rcases loopN_succ hf with ⟨s, hb, hl⟩ | hb
    · obtain ⟨v1', v2', I'⟩ := s
      refine k_X0_becomeFlipped_b9 h0 hb (fun _ _ _ he => ?_) (fun _ he => by cases he)
      cases he
      exact ih v1' v2' I' hl
    · exact k_X0_becomeFlipped_b9 h0 hb (fun _ _ _ he => by cases he) (fun x0 he => hX x0 (Sum.inr.inj he))
def f_X0_becomeFlipped (N : Nat) (a0 : Nat) (I : MI) : Option (MI) := bnd1 (f_X0_becomeFlipped_l9 N a0 0 ((I a0 0) - 1) I) fun I9 => some I9
set_option maxRecDepth 100000 in
set_option maxHeartbeats 4000000 in
theorem kb_X0_becomeFlipped {G : GX} {Q : State → Prop} {X : MX} {a0 : Nat} (h0 : shX0 X a0) {N : Nat} {I : MI} {L : ML} {out : MI} (hf : f_X0_becomeFlipped N a0 I = some out) (hR : ∀ (I' : MI), out = I' → Q = RetQ G none X I' L (0, 0)) : Ex G mX0_becomeFlipped rmX0_becomeFlipped Q (0, 0) X I L 0 [(0, .ref (gB G + a0))] [] := by
  unfold f_X0_becomeFlipped at hf
  refine ex_iconst (v := 0) (pc' := 1) dX0_becomeFlipped_0 ic_0 rfl ?_
  refine ex_istore_n (lv' := [(1, .int 0), (0, .ref (gB G + a0))]) (pc' := 2) dX0_becomeFlipped_1 rfl (Nat.le_of_ble_eq_true rfl) rfl rfl ?_
  refine ex_aload_n 1 (pc' := 3) dX0_becomeFlipped_2 rfl rfl rfl ?_
  refine ex_getI (pc' := 6) dX0_becomeFlipped_3 fl_X0_11 rfl (sh0_k h0) rfl ?_
  refine ex_iconst (v := 1) (pc' := 7) dX0_becomeFlipped_6 ic_1 rfl ?_
  refine ex_isub (pc' := 8) dX0_becomeFlipped_7 rfl ?_
  refine ex_istore_n (lv' := [(2, .int ((I a0 0) - 1)), (1, .int 0), (0, .ref (gB G + a0))]) (pc' := 9) dX0_becomeFlipped_8 rfl (Nat.le_of_ble_eq_true rfl) rfl rfl ?_
  refine ex_sub (lv' := [(0, .ref (gB G + a0)), (1, .int 0), (2, .int ((I a0 0) - 1))]) [2, 1, 0] rfl ?_
  obtain ⟨I9, hq10, hf⟩ := of_bnd1 hf
  refine k_X0_becomeFlipped_l9 h0 (fun I9' he => ?_) _ _ _ _ hq10
  cases he
  exact ex_vret dX0_becomeFlipped_49 rfl (hR _ (Option.some.inj hf).symm)
set_option maxRecDepth 100000 in
set_option maxHeartbeats 4000000 in
theorem k_X0_becomeFlipped (G : GX) {X : MX} {a0 : Nat} (h0 : shX0 X a0) {N : Nat} {I : MI} {L : ML} {I' : MI} (hf : f_X0_becomeFlipped N a0 I = some I') : Con G mX0_becomeFlipped yX0_becomeFlipped rmX0_becomeFlipped (fun B => [.ref (B + a0)]) X I L none X I' L :=
  Con.of (by decide) rfl (fun h => by cases h) (fun B => Nat.le_of_ble_eq_true rfl) (fun G => kb_X0_becomeFlipped h0 hf (fun _ he => by cases he; rfl))
theorem bp_6 : (Int8.ofInt 6).toInt32 = 6 := by decide
theorem cl_X0_25 : CPW RX0 25 := ⟨lwg_at 871 (by decide +kernel) rfl, lwg_at 413 (by decide +kernel) rfl, lwg_at 412 (by decide +kernel) rfl, lwg_at 63 (by decide +kernel) rfl⟩
-- X0_becomeLike ('RookWords$Board', 'becomeLike', '(LRookWords$Board;)V')
def rmX0_becomeLike : RM := ((1, 26, 0, 0), false, none)
def f_X0_becomeLike (a0 : Nat) (a1 : Nat) (I : MI) : Option (MI) := letv (upI I a0 0 (I a1 0)) fun I1 => if cpok 0 0 6 6 6 then letv (cpI I1 (a1 + 1) (a0 + 1) (Int32.toNatClampNeg 0) (Int32.toNatClampNeg 0) (Int32.toNatClampNeg 6)) fun I3 => some I3 else none
set_option maxRecDepth 100000 in
set_option maxHeartbeats 4000000 in
theorem kb_X0_becomeLike {G : GX} {Q : State → Prop} {X : MX} {a0 : Nat} {a1 : Nat} (h0 : shX0 X a0) (h1 : shX0 X a1) {I : MI} {L : ML} {out : MI} (hf : f_X0_becomeLike a0 a1 I = some out) (hR : ∀ (I' : MI), out = I' → Q = RetQ G none X I' L (0, 0)) : Ex G mX0_becomeLike rmX0_becomeLike Q (0, 0) X I L 0 [(0, .ref (gB G + a0)), (1, .ref (gB G + a1))] [] := by
  unfold f_X0_becomeLike at hf
  refine ex_aload_n 0 (pc' := 1) dX0_becomeLike_0 rfl rfl rfl ?_
  refine ex_aload_n 1 (pc' := 2) dX0_becomeLike_1 rfl rfl rfl ?_
  refine ex_getI (pc' := 5) dX0_becomeLike_2 fl_X0_11 rfl (sh0_k h1) rfl ?_
  refine ex_putI (pc' := 8) dX0_becomeLike_5 fl_X0_11 rfl (sh0_k h0) rfl ?_
  obtain ⟨I1, hI1, hf⟩ := of_let hf
  rw [← hI1]
  refine ex_aload_n 1 (pc' := 9) dX0_becomeLike_8 rfl rfl rfl ?_
  refine ex_getR (pc' := 12) dX0_becomeLike_9 fl_X0_15 rfl (sh0_k h1) (sh0_F1 h1) rfl ?_
  refine ex_iconst (v := 0) (pc' := 13) dX0_becomeLike_12 ic_0 rfl ?_
  refine ex_aload_n 0 (pc' := 14) dX0_becomeLike_13 rfl rfl rfl ?_
  refine ex_getR (pc' := 17) dX0_becomeLike_14 fl_X0_15 rfl (sh0_k h0) (sh0_F1 h0) rfl ?_
  refine ex_iconst (v := 0) (pc' := 18) dX0_becomeLike_17 ic_0 rfl ?_
  refine ex_bipush (v := 6) (pc' := 20) dX0_becomeLike_18 bp_6 rfl ?_
  obtain ⟨hg2, hf⟩ := of_guard hf
  refine ex_copyI (pc' := 23) dX0_becomeLike_20 cl_X0_25 (sh0_T1 h1) (sh0_T1 h0) (cpok_ok hg2) ⟨Nat.le_of_ble_eq_true rfl, Nat.le_of_ble_eq_true rfl⟩ rfl ?_
  obtain ⟨I3, hI3, hf⟩ := of_let hf
  rw [← hI3]
  exact ex_vret dX0_becomeLike_23 rfl (hR _ (Option.some.inj hf).symm)
set_option maxRecDepth 100000 in
set_option maxHeartbeats 4000000 in
theorem k_X0_becomeLike (G : GX) {X : MX} {a0 : Nat} {a1 : Nat} (h0 : shX0 X a0) (h1 : shX0 X a1) {I : MI} {L : ML} {I' : MI} (hf : f_X0_becomeLike a0 a1 I = some I') : Con G mX0_becomeLike yX0_becomeLike rmX0_becomeLike (fun B => [.ref (B + a0), .ref (B + a1)]) X I L none X I' L :=
  Con.of (by decide) rfl (fun h => by cases h) (fun B => Nat.le_of_ble_eq_true rfl) (fun G => kb_X0_becomeLike h0 h1 hf (fun _ he => by cases he; rfl))
-- X0_becomeOther ('RookWords$Board', 'becomeOther', '()V')
def rmX0_becomeOther : RM := ((0, 0, 0, 0), false, none)
def f_X0_becomeOther_b2 (N : Nat) (a0 : Nat) (v1 : Int32) (I : MI) : Option ((Int32 × MI) ⊕ (MI)) := (if v1 < (I a0 0) then if inb v1 6 then if inb v1 6 then letv (upI I (a0 + 1) (Int32.toNatClampNeg v1) ((I (a0 + 1) (Int32.toNatClampNeg v1)) ^^^ ((jshl 1 (I a0 0)) - 1))) fun I4 => some (.inl (v1 + 1, I4)) else none else none else some (.inr I))
set_option maxRecDepth 100000 in
set_option maxHeartbeats 4000000 in
theorem k_X0_becomeOther_b2 {G : GX} {Q : State → Prop} {X : MX} {a0 : Nat} (h0 : shX0 X a0) {v1 : Int32} {N : Nat} {I : MI} {L : ML} {out : (Int32 × MI) ⊕ (MI)} (hf : f_X0_becomeOther_b2 N a0 v1 I = some out) (hC : ∀ (v1' : Int32) (I' : MI), out = .inl (v1', I') → Ex G mX0_becomeOther rmX0_becomeOther Q (0, 0) X I' L 2 [(0, .ref (gB G + a0)), (1, .int v1')] []) (hX : ∀ (I' : MI), out = .inr I' → Ex G mX0_becomeOther rmX0_becomeOther Q (0, 0) X I' L 33 [] []) : Ex G mX0_becomeOther rmX0_becomeOther Q (0, 0) X I L 2 [(0, .ref (gB G + a0)), (1, .int v1)] [] := by
  unfold f_X0_becomeOther_b2 at hf
  refine ex_iload_n 1 (pc' := 3) dX0_becomeOther_2 rfl rfl rfl ?_
  refine ex_aload_n 0 (pc' := 4) dX0_becomeOther_3 rfl rfl rfl ?_
  refine ex_getI (pc' := 7) dX0_becomeOther_4 fl_X0_11 rfl (sh0_k h0) rfl ?_
  refine ex_icmpge (tgt := 33) (pc' := 10) dX0_becomeOther_7 (by decide) rfl (fun hc1 => ?_) (fun hc1 => ?_)
  · replace hf := if_t hc1 hf
    refine ex_aload_n 0 (pc' := 11) dX0_becomeOther_10 rfl rfl rfl ?_
    refine ex_getR (pc' := 14) dX0_becomeOther_11 fl_X0_15 rfl (sh0_k h0) (sh0_F1 h0) rfl ?_
    refine ex_iload_n 1 (pc' := 15) dX0_becomeOther_14 rfl rfl rfl ?_
    refine ex_dup2 (pc' := 16) dX0_becomeOther_15 rfl rfl rfl ?_
    obtain ⟨hg2, hf⟩ := of_guard hf
    refine ex_iald (pc' := 17) dX0_becomeOther_16 (sh0_T1 h0) (inb_in hg2) rfl ?_
    refine ex_iconst (v := 1) (pc' := 18) dX0_becomeOther_17 ic_1 rfl ?_
    refine ex_aload_n 0 (pc' := 19) dX0_becomeOther_18 rfl rfl rfl ?_
    refine ex_getI (pc' := 22) dX0_becomeOther_19 fl_X0_11 rfl (sh0_k h0) rfl ?_
    refine ex_ishl (pc' := 23) dX0_becomeOther_22 rfl ?_
    refine ex_iconst (v := 1) (pc' := 24) dX0_becomeOther_23 ic_1 rfl ?_
    refine ex_isub (pc' := 25) dX0_becomeOther_24 rfl ?_
    refine ex_ixor (pc' := 26) dX0_becomeOther_25 rfl ?_
    obtain ⟨hg3, hf⟩ := of_guard hf
    refine ex_iast (pc' := 27) dX0_becomeOther_26 (sh0_T1 h0) (inb_in hg3) rfl ?_
    obtain ⟨I4, hI4, hf⟩ := of_let hf
    rw [← hI4]
    refine ex_iincc (lv' := [(1, .int (v1 + 1)), (0, .ref (gB G + a0))]) 1 (pc' := 30) dX0_becomeOther_27 rfl ic_1 (Nat.le_of_ble_eq_true rfl) rfl rfl ?_
    refine ex_goto (tgt := 2) dX0_becomeOther_30 (by decide) ?_
    exact ex_sub [1, 0] rfl (hC _ _ (Option.some.inj hf).symm)
  · replace hf := if_f hc1 hf
    exact ex_sub [] rfl (hX _ (Option.some.inj hf).symm)
def f_X0_becomeOther_l2 (N : Nat) (a0 : Nat) (v1 : Int32) (I : MI) : Option (MI) := loopN (fun s => f_X0_becomeOther_b2 N a0 s.1 s.2) N (v1, I)
set_option maxRecDepth 100000 in
set_option maxHeartbeats 4000000 in
theorem k_X0_becomeOther_l2 {G : GX} {Q : State → Prop} {X : MX} {a0 : Nat} (h0 : shX0 X a0) {N0 : Nat} {L : ML} {out : (MI)} (hX : ∀ (I' : MI), out = I' → Ex G mX0_becomeOther rmX0_becomeOther Q (0, 0) X I' L 33 [] []) : ∀ (N : Nat) (v1 : Int32) (I : MI), loopN (fun s => f_X0_becomeOther_b2 N0 a0 s.1 s.2) N (v1, I) = some out → Ex G mX0_becomeOther rmX0_becomeOther Q (0, 0) X I L 2 [(0, .ref (gB G + a0)), (1, .int v1)] [] := by
  intro N
  induction N with
  | zero => intro v1 I hf; exact absurd (loopN_zero hf) id
  | succ n ih =>
    intro v1 I hf
    rcases loopN_succ hf with ⟨s, hb, hl⟩ | hb
    · obtain ⟨v1', I'⟩ := s
      refine k_X0_becomeOther_b2 h0 hb (fun _ _ he => ?_) (fun _ he => by cases he)
      cases he
      exact ih v1' I' hl
    · exact k_X0_becomeOther_b2 h0 hb (fun _ _ he => by cases he) (fun x0 he => hX x0 (Sum.inr.inj he))
def f_X0_becomeOther (N : Nat) (a0 : Nat) (I : MI) : Option (MI) := bnd1 (f_X0_becomeOther_l2 N a0 0 I) fun I5 => some I5
set_option maxRecDepth 100000 in
set_option maxHeartbeats 4000000 in
theorem kb_X0_becomeOther {G : GX} {Q : State → Prop} {X : MX} {a0 : Nat} (h0 : shX0 X a0) {N : Nat} {I : MI} {L : ML} {out : MI} (hf : f_X0_becomeOther N a0 I = some out) (hR : ∀ (I' : MI), out = I' → Q = RetQ G none X I' L (0, 0)) : Ex G mX0_becomeOther rmX0_becomeOther Q (0, 0) X I L 0 [(0, .ref (gB G + a0))] [] := by
  unfold f_X0_becomeOther at hf
  refine ex_iconst (v := 0) (pc' := 1) dX0_becomeOther_0 ic_0 rfl ?_
  refine ex_istore_n (lv' := [(1, .int 0), (0, .ref (gB G + a0))]) (pc' := 2) dX0_becomeOther_1 rfl (Nat.le_of_ble_eq_true rfl) rfl rfl ?_
  refine ex_sub (lv' := [(0, .ref (gB G + a0)), (1, .int 0)]) [1, 0] rfl ?_
  obtain ⟨I5, hq6, hf⟩ := of_bnd1 hf
  refine k_X0_becomeOther_l2 h0 (fun I5' he => ?_) _ _ _ hq6
  cases he
  exact ex_vret dX0_becomeOther_33 rfl (hR _ (Option.some.inj hf).symm)
set_option maxRecDepth 100000 in
set_option maxHeartbeats 4000000 in
theorem k_X0_becomeOther (G : GX) {X : MX} {a0 : Nat} (h0 : shX0 X a0) {N : Nat} {I : MI} {L : ML} {I' : MI} (hf : f_X0_becomeOther N a0 I = some I') : Con G mX0_becomeOther yX0_becomeOther rmX0_becomeOther (fun B => [.ref (B + a0)]) X I L none X I' L :=
  Con.of (by decide) rfl (fun h => by cases h) (fun B => Nat.le_of_ble_eq_true rfl) (fun G => kb_X0_becomeOther h0 hf (fun _ he => by cases he; rfl))
theorem cl_X0_19 : CLS RX0 19 yJ7_fill_53178 mJ7_fill_53178 none 2 := ⟨⟨lwg_at 461 (by decide +kernel) rfl, lwg_at 138 (by decide +kernel) rfl, lwg_at 55 (by decide +kernel) rfl⟩, lwg_at 139 (by decide +kernel) rfl, ⟨by decide +kernel, by decide +kernel, by decide +kernel⟩⟩
-- X0_clean ('RookWords$Board', 'clean', '(I)V')
def rmX0_clean : RM := ((1, 23, 0, 0), false, none)
def f_X0_clean (N : Nat) (a0 : Nat) (v1 : Int32) (I : MI) : Option (MI) := letv (upI I a0 0 v1) fun I1 => bnd1 (f_J7_fill_53178 N (a0 + 1) 6 0 I1) fun I2 => some I2
set_option maxRecDepth 100000 in
set_option maxHeartbeats 4000000 in
theorem kb_X0_clean {G : GX} {Q : State → Prop} {X : MX} {a0 : Nat} {v1 : Int32} (h0 : shX0 X a0) {N : Nat} {I : MI} {L : ML} {out : MI} (hf : f_X0_clean N a0 v1 I = some out) (hR : ∀ (I' : MI), out = I' → Q = RetQ G none X I' L (0, 0)) : Ex G mX0_clean rmX0_clean Q (0, 0) X I L 0 [(0, .ref (gB G + a0)), (1, .int v1)] [] := by
  unfold f_X0_clean at hf
  refine ex_aload_n 0 (pc' := 1) dX0_clean_0 rfl rfl rfl ?_
  refine ex_iload_n 1 (pc' := 2) dX0_clean_1 rfl rfl rfl ?_
  refine ex_putI (pc' := 5) dX0_clean_2 fl_X0_11 rfl (sh0_k h0) rfl ?_
  obtain ⟨I1, hI1, hf⟩ := of_let hf
  rw [← hI1]
  refine ex_aload_n 0 (pc' := 6) dX0_clean_5 rfl rfl rfl ?_
  refine ex_getR (pc' := 9) dX0_clean_6 fl_X0_15 rfl (sh0_k h0) (sh0_F1 h0) rfl ?_
  refine ex_iconst (v := 0) (pc' := 10) dX0_clean_9 ic_0 rfl ?_
  obtain ⟨I2, hq3, hf⟩ := of_bnd1 hf
  refine ex_callS_v (rm' := rmJ7_fill_53178) (st := []) (pc' := 13) [.ref (gB G + (a0 + 1)), .int 0] dX0_clean_10 cl_X0_19 (k_J7_fill_53178 G (sh0_T1 h0) hq3) rfl rfl rfl (ROOM_of rfl) (Nat.le_of_ble_eq_true rfl) rfl rfl ?_
  exact ex_vret dX0_clean_13 rfl (hR _ (Option.some.inj hf).symm)
set_option maxRecDepth 100000 in
set_option maxHeartbeats 4000000 in
theorem k_X0_clean (G : GX) {X : MX} {a0 : Nat} {v1 : Int32} (h0 : shX0 X a0) {N : Nat} {I : MI} {L : ML} {I' : MI} (hf : f_X0_clean N a0 v1 I = some I') : Con G mX0_clean yX0_clean rmX0_clean (fun B => [.ref (B + a0), .int v1]) X I L none X I' L :=
  Con.of (by decide) rfl (fun h => by cases h) (fun B => Nat.le_of_ble_eq_true rfl) (fun G => kb_X0_clean h0 hf (fun _ he => by cases he; rfl))
theorem bp_10 : (Int8.ofInt 10).toInt32 = 10 := by decide
-- X10_digit ('RookWords', 'digit', '(II)I')
def rmX10_digit : RM := ((0, 0, 0, 0), false, (some FieldType.int))
def f_X10_digit_b4 (N : Nat) (v1 : Int32) (v2 : Int32) (v3 : Int32) : Option ((Int32 × Int32) ⊕ (Int32)) := (if v3 < v1 then some (.inl (v2 / 10, v3 + 1)) else some (.inr v2))
set_option maxRecDepth 100000 in
set_option maxHeartbeats 4000000 in
theorem k_X10_digit_b4 {G : GX} {Q : State → Prop} {X : MX} {v1 : Int32}  {v2 : Int32} {v3 : Int32} {N : Nat} {I : MI} {L : ML} {out : (Int32 × Int32) ⊕ (Int32)} (hf : f_X10_digit_b4 N v1 v2 v3 = some out) (hC : ∀ (v2' : Int32) (v3' : Int32), out = .inl (v2', v3') → Ex G mX10_digit rmX10_digit Q (0, 0) X I L 4 [(1, .int v1), (2, .int v2'), (3, .int v3')] []) (hX : ∀ (w2 : Int32), out = .inr w2 → Ex G mX10_digit rmX10_digit Q (0, 0) X I L 20 [(2, .int w2)] []) : Ex G mX10_digit rmX10_digit Q (0, 0) X I L 4 [(1, .int v1), (2, .int v2), (3, .int v3)] [] := by
  unfold f_X10_digit_b4 at hf
  refine ex_iload_n 2 (pc' := 5) dX10_digit_4 rfl rfl rfl ?_
  refine ex_iload_n 0 (pc' := 6) dX10_digit_5 rfl rfl rfl ?_
  refine ex_icmpge (tgt := 20) (pc' := 9) dX10_digit_6 (by decide) rfl (fun hc1 => ?_) (fun hc1 => ?_)
  · replace hf := if_t hc1 hf
    refine ex_iload_n 1 (pc' := 10) dX10_digit_9 rfl rfl rfl ?_
    refine ex_bipush (v := 10) (pc' := 12) dX10_digit_10 bp_10 rfl ?_
    refine ex_idiv (pc' := 13) dX10_digit_12 (by decide) rfl ?_
    refine ex_istore_n (lv' := [(2, .int (v2 / 10)), (1, .int v1), (3, .int v3)]) (pc' := 14) dX10_digit_13 rfl (Nat.le_of_ble_eq_true rfl) rfl rfl ?_
    refine ex_iincc (lv' := [(3, .int (v3 + 1)), (2, .int (v2 / 10)), (1, .int v1)]) 2 (pc' := 17) dX10_digit_14 rfl ic_1 (Nat.le_of_ble_eq_true rfl) rfl rfl ?_
    refine ex_goto (tgt := 4) dX10_digit_17 (by decide) ?_
    exact ex_sub [2, 1, 0] rfl (hC _ _ (Option.some.inj hf).symm)
  · replace hf := if_f hc1 hf
    exact ex_sub [1] rfl (hX _ (Option.some.inj hf).symm)
def f_X10_digit_l4 (N : Nat) (v1 : Int32) (v2 : Int32) (v3 : Int32) : Option (Int32) := loopN (fun s => f_X10_digit_b4 N v1 s.1 s.2) N (v2, v3)
set_option maxRecDepth 100000 in
set_option maxHeartbeats 4000000 in
theorem k_X10_digit_l4 {G : GX} {Q : State → Prop} {X : MX} {v1 : Int32}  {N0 : Nat} {I : MI} {L : ML} {out : (Int32)} (hX : ∀ (w2 : Int32), out = w2 → Ex G mX10_digit rmX10_digit Q (0, 0) X I L 20 [(2, .int w2)] []) : ∀ (N : Nat) (v2 : Int32) (v3 : Int32), loopN (fun s => f_X10_digit_b4 N0 v1 s.1 s.2) N (v2, v3) = some out → Ex G mX10_digit rmX10_digit Q (0, 0) X I L 4 [(1, .int v1), (2, .int v2), (3, .int v3)] [] := by
  intro N
  induction N with
  | zero => intro v2 v3 hf; exact absurd (loopN_zero hf) id
  | succ n ih =>
    intro v2 v3 hf
    rcases loopN_succ hf with ⟨s, hb, hl⟩ | hb
    · obtain ⟨v2', v3'⟩ := s
      refine k_X10_digit_b4  hb (fun _ _ he => ?_) (fun _ he => by cases he)
      cases he
      exact ih v2' v3' hl
    · exact k_X10_digit_b4  hb (fun _ _ he => by cases he) (fun x0 he => hX x0 (Sum.inr.inj he))
def f_X10_digit (N : Nat) (v0 : Int32) (v1 : Int32) : Option (Int32) := bnd1 (f_X10_digit_l4 N v1 v0 0) fun x2 => some (jrem x2 10)
set_option maxRecDepth 100000 in
set_option maxHeartbeats 4000000 in
theorem kb_X10_digit {G : GX} {Q : State → Prop} {X : MX} {v0 : Int32} {v1 : Int32}  {N : Nat} {I : MI} {L : ML} {out : Int32} (hf : f_X10_digit N v0 v1 = some out) (hR : ∀ (z : Int32), out = z → Q = RetQ G (some (.int z)) X I L (0, 0)) : Ex G mX10_digit rmX10_digit Q (0, 0) X I L 0 [(0, .int v0), (1, .int v1)] [] := by
  unfold f_X10_digit at hf
  refine ex_iload_n 0 (pc' := 1) dX10_digit_0 rfl rfl rfl ?_
  refine ex_istore_n (lv' := [(2, .int v0), (0, .int v0), (1, .int v1)]) (pc' := 2) dX10_digit_1 rfl (Nat.le_of_ble_eq_true rfl) rfl rfl ?_
  refine ex_iconst (v := 0) (pc' := 3) dX10_digit_2 ic_0 rfl ?_
  refine ex_istore_n (lv' := [(3, .int 0), (2, .int v0), (0, .int v0), (1, .int v1)]) (pc' := 4) dX10_digit_3 rfl (Nat.le_of_ble_eq_true rfl) rfl rfl ?_
  refine ex_sub (lv' := [(1, .int v1), (2, .int v0), (3, .int 0)]) [3, 1, 0] rfl ?_
  obtain ⟨x2, hq3, hf⟩ := of_bnd1 hf
  refine k_X10_digit_l4 (fun x2' he => ?_) _ _ _ hq3
  cases he
  refine ex_iload_n 0 (pc' := 21) dX10_digit_20 rfl rfl rfl ?_
  refine ex_bipush (v := 10) (pc' := 23) dX10_digit_21 bp_10 rfl ?_
  refine ex_irem (pc' := 24) dX10_digit_23 (by decide) rfl ?_
  exact ex_iret dX10_digit_24 rfl (hR _ (Option.some.inj hf).symm)
set_option maxRecDepth 100000 in
set_option maxHeartbeats 4000000 in
theorem k_X10_digit (G : GX) {X : MX} {v0 : Int32} {v1 : Int32}  {N : Nat} {I : MI} {L : ML} {z : Int32} (hf : f_X10_digit N v0 v1 = some z) : Con G mX10_digit yX10_digit rmX10_digit (fun B => [.int v0, .int v1]) X I L (some (.int z)) X I L :=
  Con.of (by decide) rfl (fun h => by cases h) (fun B => Nat.le_of_ble_eq_true rfl) (fun G => kb_X10_digit  hf (fun _ he => by cases he; rfl))
theorem cl_X0_52 : CLV RX0 52 yX0_clean mX0_clean none 1 := ⟨⟨lwg_at 508 (by decide +kernel) rfl, lwg_at 458 (by decide +kernel) rfl, lwg_at 459 (by decide +kernel) rfl, lwg_at 54 (by decide +kernel) rfl⟩, lwg_at 460 (by decide +kernel) rfl, ⟨by decide +kernel, by decide +kernel, by decide +kernel⟩⟩
theorem cl_X0_62 : CLSN RX0 62 yX10_digit mX10_digit (some FieldType.int) 2 := ⟨⟨_, List.mem_of_getElem? (i := 8) rfl⟩, ⟨lwg_at 521 (by decide +kernel) rfl, lwg_at 50 (by decide +kernel) rfl⟩, lwg_at 522 (by decide +kernel) rfl, ⟨by decide +kernel, by decide +kernel, by decide +kernel⟩⟩
-- X0_becomeSteps ('RookWords$Board', 'becomeSteps', '(II)V')
def rmX0_becomeSteps : RM := ((2, 44, 0, 0), false, none)
def f_X0_becomeSteps_b7 (N : Nat) (a0 : Nat) (v1 : Int32) (v2 : Int32) (v3 : Int32) (I : MI) : Option ((Int32 × MI) ⊕ (MI)) := (if v3 < v1 then bnd1 (f_X10_digit N v2 ((v1 - 1) - v3)) fun r4 => if inb v3 6 then letv (upI I (a0 + 1) (Int32.toNatClampNeg v3) ((jshl 1 r4) - 1)) fun I7 => some (.inl (v3 + 1, I7)) else none else some (.inr I))
set_option maxRecDepth 100000 in
set_option maxHeartbeats 4000000 in
theorem k_X0_becomeSteps_b7 {G : GX} {Q : State → Prop} {X : MX} {a0 : Nat} {v1 : Int32} {v2 : Int32} (h0 : shX0 X a0) {v3 : Int32} {N : Nat} {I : MI} {L : ML} {out : (Int32 × MI) ⊕ (MI)} (hf : f_X0_becomeSteps_b7 N a0 v1 v2 v3 I = some out) (hC : ∀ (v3' : Int32) (I' : MI), out = .inl (v3', I') → Ex G mX0_becomeSteps rmX0_becomeSteps Q (0, 0) X I' L 7 [(0, .ref (gB G + a0)), (1, .int v1), (2, .int v2), (3, .int v3')] []) (hX : ∀ (I' : MI), out = .inr I' → Ex G mX0_becomeSteps rmX0_becomeSteps Q (0, 0) X I' L 37 [] []) : Ex G mX0_becomeSteps rmX0_becomeSteps Q (0, 0) X I L 7 [(0, .ref (gB G + a0)), (1, .int v1), (2, .int v2), (3, .int v3)] [] := by
  unfold f_X0_becomeSteps_b7 at hf
  refine ex_iload_n 3 (pc' := 8) dX0_becomeSteps_7 rfl rfl rfl ?_
  refine ex_iload_n 1 (pc' := 9) dX0_becomeSteps_8 rfl rfl rfl ?_
  refine ex_icmpge (tgt := 37) (pc' := 12) dX0_becomeSteps_9 (by decide) rfl (fun hc3 => ?_) (fun hc3 => ?_)
  · replace hf := if_t hc3 hf
    refine ex_aload_n 0 (pc' := 13) dX0_becomeSteps_12 rfl rfl rfl ?_
    refine ex_getR (pc' := 16) dX0_becomeSteps_13 fl_X0_15 rfl (sh0_k h0) (sh0_F1 h0) rfl ?_
    refine ex_iload_n 3 (pc' := 17) dX0_becomeSteps_16 rfl rfl rfl ?_
    refine ex_iconst (v := 1) (pc' := 18) dX0_becomeSteps_17 ic_1 rfl ?_
    refine ex_iload_n 2 (pc' := 19) dX0_becomeSteps_18 rfl rfl rfl ?_
    refine ex_iload_n 1 (pc' := 20) dX0_becomeSteps_19 rfl rfl rfl ?_
    refine ex_iconst (v := 1) (pc' := 21) dX0_becomeSteps_20 ic_1 rfl ?_
    refine ex_isub (pc' := 22) dX0_becomeSteps_21 rfl ?_
    refine ex_iload_n 3 (pc' := 23) dX0_becomeSteps_22 rfl rfl rfl ?_
    refine ex_isub (pc' := 24) dX0_becomeSteps_23 rfl ?_
    obtain ⟨r4, hq5, hf⟩ := of_bnd1 hf
    refine ex_callSN_i (rm' := rmX10_digit) (st := [.int 1, .int v3, .ref (gB G + (a0 + 1))]) (pc' := 27) [.int v2, .int ((v1 - 1) - v3)] dX0_becomeSteps_24 cl_X0_62 (k_X10_digit G hq5) rfl rfl rfl (ROOM_of rfl) (Nat.le_of_ble_eq_true rfl) rfl rfl ?_
    refine ex_ishl (pc' := 28) dX0_becomeSteps_27 rfl ?_
    refine ex_iconst (v := 1) (pc' := 29) dX0_becomeSteps_28 ic_1 rfl ?_
    refine ex_isub (pc' := 30) dX0_becomeSteps_29 rfl ?_
    obtain ⟨hg6, hf⟩ := of_guard hf
    refine ex_iast (pc' := 31) dX0_becomeSteps_30 (sh0_T1 h0) (inb_in hg6) rfl ?_
    obtain ⟨I7, hI7, hf⟩ := of_let hf
    rw [← hI7]
    refine ex_iincc (lv' := [(3, .int (v3 + 1)), (0, .ref (gB G + a0)), (1, .int v1), (2, .int v2)]) 3 (pc' := 34) dX0_becomeSteps_31 rfl ic_1 (Nat.le_of_ble_eq_true rfl) rfl rfl ?_
    refine ex_goto (tgt := 7) dX0_becomeSteps_34 (by decide) ?_
    exact ex_sub [1, 2, 3, 0] rfl (hC _ _ (Option.some.inj hf).symm)
  · replace hf := if_f hc3 hf
    exact ex_sub [] rfl (hX _ (Option.some.inj hf).symm)
def f_X0_becomeSteps_l7 (N : Nat) (a0 : Nat) (v1 : Int32) (v2 : Int32) (v3 : Int32) (I : MI) : Option (MI) := loopN (fun s => f_X0_becomeSteps_b7 N a0 v1 v2 s.1 s.2) N (v3, I)
set_option maxRecDepth 100000 in
set_option maxHeartbeats 4000000 in
theorem k_X0_becomeSteps_l7 {G : GX} {Q : State → Prop} {X : MX} {a0 : Nat} {v1 : Int32} {v2 : Int32} (h0 : shX0 X a0) {N0 : Nat} {L : ML} {out : (MI)} (hX : ∀ (I' : MI), out = I' → Ex G mX0_becomeSteps rmX0_becomeSteps Q (0, 0) X I' L 37 [] []) : ∀ (N : Nat) (v3 : Int32) (I : MI), loopN (fun s => f_X0_becomeSteps_b7 N0 a0 v1 v2 s.1 s.2) N (v3, I) = some out → Ex G mX0_becomeSteps rmX0_becomeSteps Q (0, 0) X I L 7 [(0, .ref (gB G + a0)), (1, .int v1), (2, .int v2), (3, .int v3)] [] := by
  intro N
  induction N with
  | zero => intro v3 I hf; exact absurd (loopN_zero hf) id
  | succ n ih =>
    intro v3 I hf
    rcases loopN_succ hf with ⟨s, hb, hl⟩ | hb
    · obtain ⟨v3', I'⟩ := s
      refine k_X0_becomeSteps_b7 h0 hb (fun _ _ he => ?_) (fun _ he => by cases he)
      cases he
      exact ih v3' I' hl
    · exact k_X0_becomeSteps_b7 h0 hb (fun _ _ he => by cases he) (fun x0 he => hX x0 (Sum.inr.inj he))
def f_X0_becomeSteps (N : Nat) (a0 : Nat) (v1 : Int32) (v2 : Int32) (I : MI) : Option (MI) := bnd1 (f_X0_clean N a0 v1 I) fun I1 => bnd1 (f_X0_becomeSteps_l7 N a0 v1 v2 0 I1) fun I8 => some I8
set_option maxRecDepth 100000 in
set_option maxHeartbeats 4000000 in
theorem kb_X0_becomeSteps {G : GX} {Q : State → Prop} {X : MX} {a0 : Nat} {v1 : Int32} {v2 : Int32} (h0 : shX0 X a0) {N : Nat} {I : MI} {L : ML} {out : MI} (hf : f_X0_becomeSteps N a0 v1 v2 I = some out) (hR : ∀ (I' : MI), out = I' → Q = RetQ G none X I' L (0, 0)) : Ex G mX0_becomeSteps rmX0_becomeSteps Q (0, 0) X I L 0 [(0, .ref (gB G + a0)), (1, .int v1), (2, .int v2)] [] := by
  unfold f_X0_becomeSteps at hf
  refine ex_aload_n 0 (pc' := 1) dX0_becomeSteps_0 rfl rfl rfl ?_
  refine ex_iload_n 1 (pc' := 2) dX0_becomeSteps_1 rfl rfl rfl ?_
  obtain ⟨I1, hq2, hf⟩ := of_bnd1 hf
  refine ex_callV_v (rm' := rmX0_clean) (st := []) (pc' := 5) [.int v1] dX0_becomeSteps_2 cl_X0_52 (k_X0_clean G h0 hq2) rfl (sh0_k h0) ⟨_, _, rfl⟩ rfl rfl (ROOM_of rfl) (Nat.le_of_ble_eq_true rfl) rfl rfl ?_
  refine ex_iconst (v := 0) (pc' := 6) dX0_becomeSteps_5 ic_0 rfl ?_
  refine ex_istore_n (lv' := [(3, .int 0), (0, .ref (gB G + a0)), (1, .int v1), (2, .int v2)]) (pc' := 7) dX0_becomeSteps_6 rfl (Nat.le_of_ble_eq_true rfl) rfl rfl ?_
  refine ex_sub (lv' := [(0, .ref (gB G + a0)), (1, .int v1), (2, .int v2), (3, .int 0)]) [1, 2, 3, 0] rfl ?_
  obtain ⟨I8, hq9, hf⟩ := of_bnd1 hf
  refine k_X0_becomeSteps_l7 h0 (fun I8' he => ?_) _ _ _ hq9
  cases he
  exact ex_vret dX0_becomeSteps_37 rfl (hR _ (Option.some.inj hf).symm)
set_option maxRecDepth 100000 in
set_option maxHeartbeats 4000000 in
theorem k_X0_becomeSteps (G : GX) {X : MX} {a0 : Nat} {v1 : Int32} {v2 : Int32} (h0 : shX0 X a0) {N : Nat} {I : MI} {L : ML} {I' : MI} (hf : f_X0_becomeSteps N a0 v1 v2 I = some I') : Con G mX0_becomeSteps yX0_becomeSteps rmX0_becomeSteps (fun B => [.ref (B + a0), .int v1, .int v2]) X I L none X I' L :=
  Con.of (by decide) rfl (fun h => by cases h) (fun B => Nat.le_of_ble_eq_true rfl) (fun G => kb_X0_becomeSteps h0 hf (fun _ he => by cases he; rfl))
-- X0_has ('RookWords$Board', 'has', '(II)Z')
def rmX0_has : RM := ((0, 0, 0, 0), false, (some FieldType.boolean))
def f_X0_has (a0 : Nat) (v1 : Int32) (v2 : Int32) (I : MI) : Option (Int32) := if inb v1 6 then (if ((jshr (I (a0 + 1) (Int32.toNatClampNeg v1)) v2) &&& 1) = 0 then some 0 else some 1) else none
set_option maxRecDepth 100000 in
set_option maxHeartbeats 4000000 in
theorem kb_X0_has {G : GX} {Q : State → Prop} {X : MX} {a0 : Nat} {v1 : Int32} {v2 : Int32} (h0 : shX0 X a0) {I : MI} {L : ML} {out : Int32} (hf : f_X0_has a0 v1 v2 I = some out) (hR : ∀ (z : Int32), out = z → Q = RetQ G (some (.int z)) X I L (0, 0)) : Ex G mX0_has rmX0_has Q (0, 0) X I L 0 [(0, .ref (gB G + a0)), (1, .int v1), (2, .int v2)] [] := by
  unfold f_X0_has at hf
  refine ex_aload_n 0 (pc' := 1) dX0_has_0 rfl rfl rfl ?_
  refine ex_getR (pc' := 4) dX0_has_1 fl_X0_15 rfl (sh0_k h0) (sh0_F1 h0) rfl ?_
  refine ex_iload_n 1 (pc' := 5) dX0_has_4 rfl rfl rfl ?_
  obtain ⟨hg1, hf⟩ := of_guard hf
  refine ex_iald (pc' := 6) dX0_has_5 (sh0_T1 h0) (inb_in hg1) rfl ?_
  refine ex_iload_n 2 (pc' := 7) dX0_has_6 rfl rfl rfl ?_
  refine ex_ishr (pc' := 8) dX0_has_7 rfl ?_
  refine ex_iconst (v := 1) (pc' := 9) dX0_has_8 ic_1 rfl ?_
  refine ex_iand (pc' := 10) dX0_has_9 rfl ?_
  refine ex_ifeq (tgt := 17) (pc' := 13) dX0_has_10 (by decide) rfl (fun hc2 => ?_) (fun hc2 => ?_)
  · replace hf := if_t hc2 hf
    refine ex_iconst (v := 0) (pc' := 18) dX0_has_17 ic_0 rfl ?_
    exact ex_zret dX0_has_18 rfl (Or.inl rfl) (hR _ (Option.some.inj hf).symm)
  · replace hf := if_f hc2 hf
    refine ex_iconst (v := 1) (pc' := 14) dX0_has_13 ic_1 rfl ?_
    refine ex_goto (tgt := 18) dX0_has_14 (by decide) ?_
    exact ex_zret dX0_has_18 rfl (Or.inr rfl) (hR _ (Option.some.inj hf).symm)
set_option maxRecDepth 100000 in
set_option maxHeartbeats 4000000 in
theorem k_X0_has (G : GX) {X : MX} {a0 : Nat} {v1 : Int32} {v2 : Int32} (h0 : shX0 X a0) {I : MI} {L : ML} {z : Int32} (hf : f_X0_has a0 v1 v2 I = some z) : Con G mX0_has yX0_has rmX0_has (fun B => [.ref (B + a0), .int v1, .int v2]) X I L (some (.int z)) X I L :=
  Con.of (by decide) rfl (fun h => by cases h) (fun B => Nat.le_of_ble_eq_true rfl) (fun G => kb_X0_has h0 hf (fun _ he => by cases he; rfl))
-- X0_toggle ('RookWords$Board', 'toggle', '(II)V')
def rmX0_toggle : RM := ((0, 0, 0, 0), false, none)
def f_X0_toggle (a0 : Nat) (v1 : Int32) (v2 : Int32) (I : MI) : Option (MI) := if inb v1 6 then if inb v1 6 then letv (upI I (a0 + 1) (Int32.toNatClampNeg v1) ((I (a0 + 1) (Int32.toNatClampNeg v1)) ^^^ (jshl 1 v2))) fun I3 => some I3 else none else none
set_option maxRecDepth 100000 in
set_option maxHeartbeats 4000000 in
theorem kb_X0_toggle {G : GX} {Q : State → Prop} {X : MX} {a0 : Nat} {v1 : Int32} {v2 : Int32} (h0 : shX0 X a0) {I : MI} {L : ML} {out : MI} (hf : f_X0_toggle a0 v1 v2 I = some out) (hR : ∀ (I' : MI), out = I' → Q = RetQ G none X I' L (0, 0)) : Ex G mX0_toggle rmX0_toggle Q (0, 0) X I L 0 [(0, .ref (gB G + a0)), (1, .int v1), (2, .int v2)] [] := by
  unfold f_X0_toggle at hf
  refine ex_aload_n 0 (pc' := 1) dX0_toggle_0 rfl rfl rfl ?_
  refine ex_getR (pc' := 4) dX0_toggle_1 fl_X0_15 rfl (sh0_k h0) (sh0_F1 h0) rfl ?_
  refine ex_iload_n 1 (pc' := 5) dX0_toggle_4 rfl rfl rfl ?_
  refine ex_dup2 (pc' := 6) dX0_toggle_5 rfl rfl rfl ?_
  obtain ⟨hg1, hf⟩ := of_guard hf
  refine ex_iald (pc' := 7) dX0_toggle_6 (sh0_T1 h0) (inb_in hg1) rfl ?_
  refine ex_iconst (v := 1) (pc' := 8) dX0_toggle_7 ic_1 rfl ?_
  refine ex_iload_n 2 (pc' := 9) dX0_toggle_8 rfl rfl rfl ?_
  refine ex_ishl (pc' := 10) dX0_toggle_9 rfl ?_
  refine ex_ixor (pc' := 11) dX0_toggle_10 rfl ?_
  obtain ⟨hg2, hf⟩ := of_guard hf
  refine ex_iast (pc' := 12) dX0_toggle_11 (sh0_T1 h0) (inb_in hg2) rfl ?_
  obtain ⟨I3, hI3, hf⟩ := of_let hf
  rw [← hI3]
  exact ex_vret dX0_toggle_12 rfl (hR _ (Option.some.inj hf).symm)
set_option maxRecDepth 100000 in
set_option maxHeartbeats 4000000 in
theorem k_X0_toggle (G : GX) {X : MX} {a0 : Nat} {v1 : Int32} {v2 : Int32} (h0 : shX0 X a0) {I : MI} {L : ML} {I' : MI} (hf : f_X0_toggle a0 v1 v2 I = some I') : Con G mX0_toggle yX0_toggle rmX0_toggle (fun B => [.ref (B + a0), .int v1, .int v2]) X I L none X I' L :=
  Con.of (by decide) rfl (fun h => by cases h) (fun B => Nat.le_of_ble_eq_true rfl) (fun G => kb_X0_toggle h0 hf (fun _ he => by cases he; rfl))
theorem cl_X0_65 : CLV RX0 65 yX0_has mX0_has (some FieldType.boolean) 2 := ⟨⟨lwg_at 539 (by decide +kernel) rfl, lwg_at 540 (by decide +kernel) rfl, lwg_at 541 (by decide +kernel) rfl, lwg_at 54 (by decide +kernel) rfl⟩, lwg_at 542 (by decide +kernel) rfl, ⟨by decide +kernel, by decide +kernel, by decide +kernel⟩⟩
theorem cl_X0_69 : CLV RX0 69 yX0_toggle mX0_toggle none 2 := ⟨⟨lwg_at 543 (by decide +kernel) rfl, lwg_at 475 (by decide +kernel) rfl, lwg_at 476 (by decide +kernel) rfl, lwg_at 54 (by decide +kernel) rfl⟩, lwg_at 477 (by decide +kernel) rfl, ⟨by decide +kernel, by decide +kernel, by decide +kernel⟩⟩
-- X0_becomeTurned ('RookWords$Board', 'becomeTurned', '()V')
def rmX0_becomeTurned : RM := ((1, 22, 0, 0), false, none)
def f_X0_becomeTurned_b12 (N : Nat) (a0 : Nat) (v1 : Int32) (v2 : Int32) (I : MI) : Option ((Int32 × MI) ⊕ (MI)) := (if v2 < v1 then bnd1 (f_X0_has a0 v1 v2 I) fun r3 => bnd1 (f_X0_has a0 v2 v1 I) fun r5 => (if r3 = r5 then some (.inl (v2 + 1, I)) else bnd1 (f_X0_toggle a0 v1 v2 I) fun I8 => bnd1 (f_X0_toggle a0 v2 v1 I8) fun I10 => some (.inl (v2 + 1, I10))) else some (.inr I))
set_option maxRecDepth 100000 in
set_option maxHeartbeats 4000000 in
theorem k_X0_becomeTurned_b12 {G : GX} {Q : State → Prop} {X : MX} {a0 : Nat} {v1 : Int32} (h0 : shX0 X a0) {v2 : Int32} {N : Nat} {I : MI} {L : ML} {out : (Int32 × MI) ⊕ (MI)} (hf : f_X0_becomeTurned_b12 N a0 v1 v2 I = some out) (hC : ∀ (v2' : Int32) (I' : MI), out = .inl (v2', I') → Ex G mX0_becomeTurned rmX0_becomeTurned Q (0, 0) X I' L 12 [(0, .ref (gB G + a0)), (1, .int v1), (2, .int v2')] []) (hX : ∀ (I' : MI), out = .inr I' → Ex G mX0_becomeTurned rmX0_becomeTurned Q (0, 0) X I' L 50 [(0, .ref (gB G + a0)), (1, .int v1)] []) : Ex G mX0_becomeTurned rmX0_becomeTurned Q (0, 0) X I L 12 [(0, .ref (gB G + a0)), (1, .int v1), (2, .int v2)] [] := by
  unfold f_X0_becomeTurned_b12 at hf
  refine ex_iload_n 2 (pc' := 13) dX0_becomeTurned_12 rfl rfl rfl ?_
  refine ex_iload_n 1 (pc' := 14) dX0_becomeTurned_13 rfl rfl rfl ?_
  refine ex_icmpge (tgt := 50) (pc' := 17) dX0_becomeTurned_14 (by decide) rfl (fun hc2 => ?_) (fun hc2 => ?_)
  · replace hf := if_t hc2 hf
    refine ex_aload_n 0 (pc' := 18) dX0_becomeTurned_17 rfl rfl rfl ?_
    refine ex_iload_n 1 (pc' := 19) dX0_becomeTurned_18 rfl rfl rfl ?_
    refine ex_iload_n 2 (pc' := 20) dX0_becomeTurned_19 rfl rfl rfl ?_
    obtain ⟨r3, hq4, hf⟩ := of_bnd1 hf
    refine ex_callV_i (rm' := rmX0_has) (st := []) (pc' := 23) [.int v1, .int v2] dX0_becomeTurned_20 cl_X0_65 (k_X0_has G h0 hq4) rfl (sh0_k h0) ⟨_, _, rfl⟩ rfl rfl (ROOM_of rfl) (Nat.le_of_ble_eq_true rfl) rfl rfl ?_
    refine ex_aload_n 0 (pc' := 24) dX0_becomeTurned_23 rfl rfl rfl ?_
    refine ex_iload_n 2 (pc' := 25) dX0_becomeTurned_24 rfl rfl rfl ?_
    refine ex_iload_n 1 (pc' := 26) dX0_becomeTurned_25 rfl rfl rfl ?_
    obtain ⟨r5, hq6, hf⟩ := of_bnd1 hf
    refine ex_callV_i (rm' := rmX0_has) (st := [.int r3]) (pc' := 29) [.int v2, .int v1] dX0_becomeTurned_26 cl_X0_65 (k_X0_has G h0 hq6) rfl (sh0_k h0) ⟨_, _, rfl⟩ rfl rfl (ROOM_of rfl) (Nat.le_of_ble_eq_true rfl) rfl rfl ?_
    refine ex_icmpeq (tgt := 44) (pc' := 32) dX0_becomeTurned_29 (by decide) rfl (fun hc7 => ?_) (fun hc7 => ?_)
    · replace hf := if_t hc7 hf
      refine ex_iincc (lv' := [(2, .int (v2 + 1)), (0, .ref (gB G + a0)), (1, .int v1)]) 2 (pc' := 47) dX0_becomeTurned_44 rfl ic_1 (Nat.le_of_ble_eq_true rfl) rfl rfl ?_
      refine ex_goto (tgt := 12) dX0_becomeTurned_47 (by decide) ?_
      exact ex_sub [1, 2, 0] rfl (hC _ _ (Option.some.inj hf).symm)
    · replace hf := if_f hc7 hf
      refine ex_aload_n 0 (pc' := 33) dX0_becomeTurned_32 rfl rfl rfl ?_
      refine ex_iload_n 1 (pc' := 34) dX0_becomeTurned_33 rfl rfl rfl ?_
      refine ex_iload_n 2 (pc' := 35) dX0_becomeTurned_34 rfl rfl rfl ?_
      obtain ⟨I8, hq9, hf⟩ := of_bnd1 hf
      refine ex_callV_v (rm' := rmX0_toggle) (st := []) (pc' := 38) [.int v1, .int v2] dX0_becomeTurned_35 cl_X0_69 (k_X0_toggle G h0 hq9) rfl (sh0_k h0) ⟨_, _, rfl⟩ rfl rfl (ROOM_of rfl) (Nat.le_of_ble_eq_true rfl) rfl rfl ?_
      refine ex_aload_n 0 (pc' := 39) dX0_becomeTurned_38 rfl rfl rfl ?_
      refine ex_iload_n 2 (pc' := 40) dX0_becomeTurned_39 rfl rfl rfl ?_
      refine ex_iload_n 1 (pc' := 41) dX0_becomeTurned_40 rfl rfl rfl ?_
      obtain ⟨I10, hq11, hf⟩ := of_bnd1 hf
      refine ex_callV_v (rm' := rmX0_toggle) (st := []) (pc' := 44) [.int v2, .int v1] dX0_becomeTurned_41 cl_X0_69 (k_X0_toggle G h0 hq11) rfl (sh0_k h0) ⟨_, _, rfl⟩ rfl rfl (ROOM_of rfl) (Nat.le_of_ble_eq_true rfl) rfl rfl ?_
      refine ex_iincc (lv' := [(2, .int (v2 + 1)), (0, .ref (gB G + a0)), (1, .int v1)]) 2 (pc' := 47) dX0_becomeTurned_44 rfl ic_1 (Nat.le_of_ble_eq_true rfl) rfl rfl ?_
      refine ex_goto (tgt := 12) dX0_becomeTurned_47 (by decide) ?_
      exact ex_sub [1, 2, 0] rfl (hC _ _ (Option.some.inj hf).symm)
  · replace hf := if_f hc2 hf
    exact ex_sub [0, 1] rfl (hX _ (Option.some.inj hf).symm)
def f_X0_becomeTurned_l12 (N : Nat) (a0 : Nat) (v1 : Int32) (v2 : Int32) (I : MI) : Option (MI) := loopN (fun s => f_X0_becomeTurned_b12 N a0 v1 s.1 s.2) N (v2, I)
set_option maxRecDepth 100000 in
set_option maxHeartbeats 4000000 in
theorem k_X0_becomeTurned_l12 {G : GX} {Q : State → Prop} {X : MX} {a0 : Nat} {v1 : Int32} (h0 : shX0 X a0) {N0 : Nat} {L : ML} {out : (MI)} (hX : ∀ (I' : MI), out = I' → Ex G mX0_becomeTurned rmX0_becomeTurned Q (0, 0) X I' L 50 [(0, .ref (gB G + a0)), (1, .int v1)] []) : ∀ (N : Nat) (v2 : Int32) (I : MI), loopN (fun s => f_X0_becomeTurned_b12 N0 a0 v1 s.1 s.2) N (v2, I) = some out → Ex G mX0_becomeTurned rmX0_becomeTurned Q (0, 0) X I L 12 [(0, .ref (gB G + a0)), (1, .int v1), (2, .int v2)] [] := by
  intro N
  induction N with
  | zero => intro v2 I hf; exact absurd (loopN_zero hf) id
  | succ n ih =>
    intro v2 I hf
    rcases loopN_succ hf with ⟨s, hb, hl⟩ | hb
    · obtain ⟨v2', I'⟩ := s
      refine k_X0_becomeTurned_b12 h0 hb (fun _ _ he => ?_) (fun _ he => by cases he)
      cases he
      exact ih v2' I' hl
    · exact k_X0_becomeTurned_b12 h0 hb (fun _ _ he => by cases he) (fun x0 he => hX x0 (Sum.inr.inj he))
def f_X0_becomeTurned_b2 (N : Nat) (a0 : Nat) (v1 : Int32) (I : MI) : Option ((Int32 × MI) ⊕ (MI)) := (if v1 < (I a0 0) then bnd1 (f_X0_becomeTurned_l12 N a0 v1 0 I) fun I12 => some (.inl (v1 + 1, I12)) else some (.inr I))
set_option maxRecDepth 100000 in
set_option maxHeartbeats 4000000 in
theorem k_X0_becomeTurned_b2 {G : GX} {Q : State → Prop} {X : MX} {a0 : Nat} (h0 : shX0 X a0) {v1 : Int32} {N : Nat} {I : MI} {L : ML} {out : (Int32 × MI) ⊕ (MI)} (hf : f_X0_becomeTurned_b2 N a0 v1 I = some out) (hC : ∀ (v1' : Int32) (I' : MI), out = .inl (v1', I') → Ex G mX0_becomeTurned rmX0_becomeTurned Q (0, 0) X I' L 2 [(0, .ref (gB G + a0)), (1, .int v1')] []) (hX : ∀ (I' : MI), out = .inr I' → Ex G mX0_becomeTurned rmX0_becomeTurned Q (0, 0) X I' L 56 [] []) : Ex G mX0_becomeTurned rmX0_becomeTurned Q (0, 0) X I L 2 [(0, .ref (gB G + a0)), (1, .int v1)] [] := by
  unfold f_X0_becomeTurned_b2 at hf
  refine ex_iload_n 1 (pc' := 3) dX0_becomeTurned_2 rfl rfl rfl ?_
  refine ex_aload_n 0 (pc' := 4) dX0_becomeTurned_3 rfl rfl rfl ?_
  refine ex_getI (pc' := 7) dX0_becomeTurned_4 fl_X0_11 rfl (sh0_k h0) rfl ?_
  refine ex_icmpge (tgt := 56) (pc' := 10) dX0_becomeTurned_7 (by decide) rfl (fun hc1 => ?_) (fun hc1 => ?_)
  · replace hf := if_t hc1 hf
    refine ex_iconst (v := 0) (pc' := 11) dX0_becomeTurned_10 ic_0 rfl ?_
    refine ex_istore_n (lv' := [(2, .int 0), (0, .ref (gB G + a0)), (1, .int v1)]) (pc' := 12) dX0_becomeTurned_11 rfl (Nat.le_of_ble_eq_true rfl) rfl rfl ?_
    refine ex_sub (lv' := [(0, .ref (gB G + a0)), (1, .int v1), (2, .int 0)]) [1, 2, 0] rfl ?_
    obtain ⟨I12, hq13, hf⟩ := of_bnd1 hf
    refine k_X0_becomeTurned_l12 h0 (fun I12' he => ?_) _ _ _ hq13
    cases he
    refine ex_iincc (lv' := [(1, .int (v1 + 1)), (0, .ref (gB G + a0))]) 1 (pc' := 53) dX0_becomeTurned_50 rfl ic_1 (Nat.le_of_ble_eq_true rfl) rfl rfl ?_
    refine ex_goto (tgt := 2) dX0_becomeTurned_53 (by decide) ?_
    exact ex_sub [1, 0] rfl (hC _ _ (Option.some.inj hf).symm)
  · replace hf := if_f hc1 hf
    exact ex_sub [] rfl (hX _ (Option.some.inj hf).symm)
def f_X0_becomeTurned_l2 (N : Nat) (a0 : Nat) (v1 : Int32) (I : MI) : Option (MI) := loopN (fun s => f_X0_becomeTurned_b2 N a0 s.1 s.2) N (v1, I)
set_option maxRecDepth 100000 in
set_option maxHeartbeats 4000000 in
theorem k_X0_becomeTurned_l2 {G : GX} {Q : State → Prop} {X : MX} {a0 : Nat} (h0 : shX0 X a0) {N0 : Nat} {L : ML} {out : (MI)} (hX : ∀ (I' : MI), out = I' → Ex G mX0_becomeTurned rmX0_becomeTurned Q (0, 0) X I' L 56 [] []) : ∀ (N : Nat) (v1 : Int32) (I : MI), loopN (fun s => f_X0_becomeTurned_b2 N0 a0 s.1 s.2) N (v1, I) = some out → Ex G mX0_becomeTurned rmX0_becomeTurned Q (0, 0) X I L 2 [(0, .ref (gB G + a0)), (1, .int v1)] [] := by
  intro N
  induction N with
  | zero => intro v1 I hf; exact absurd (loopN_zero hf) id
  | succ n ih =>
    intro v1 I hf
    rcases loopN_succ hf with ⟨s, hb, hl⟩ | hb
    · obtain ⟨v1', I'⟩ := s
      refine k_X0_becomeTurned_b2 h0 hb (fun _ _ he => ?_) (fun _ he => by cases he)
      cases he
      exact ih v1' I' hl
    · exact k_X0_becomeTurned_b2 h0 hb (fun _ _ he => by cases he) (fun x0 he => hX x0 (Sum.inr.inj he))
def f_X0_becomeTurned (N : Nat) (a0 : Nat) (I : MI) : Option (MI) := bnd1 (f_X0_becomeTurned_l2 N a0 0 I) fun I14 => some I14
set_option maxRecDepth 100000 in
set_option maxHeartbeats 4000000 in
theorem kb_X0_becomeTurned {G : GX} {Q : State → Prop} {X : MX} {a0 : Nat} (h0 : shX0 X a0) {N : Nat} {I : MI} {L : ML} {out : MI} (hf : f_X0_becomeTurned N a0 I = some out) (hR : ∀ (I' : MI), out = I' → Q = RetQ G none X I' L (0, 0)) : Ex G mX0_becomeTurned rmX0_becomeTurned Q (0, 0) X I L 0 [(0, .ref (gB G + a0))] [] := by
  unfold f_X0_becomeTurned at hf
  refine ex_iconst (v := 0) (pc' := 1) dX0_becomeTurned_0 ic_0 rfl ?_
  refine ex_istore_n (lv' := [(1, .int 0), (0, .ref (gB G + a0))]) (pc' := 2) dX0_becomeTurned_1 rfl (Nat.le_of_ble_eq_true rfl) rfl rfl ?_
  refine ex_sub (lv' := [(0, .ref (gB G + a0)), (1, .int 0)]) [1, 0] rfl ?_
  obtain ⟨I14, hq15, hf⟩ := of_bnd1 hf
  refine k_X0_becomeTurned_l2 h0 (fun I14' he => ?_) _ _ _ hq15
  cases he
  exact ex_vret dX0_becomeTurned_56 rfl (hR _ (Option.some.inj hf).symm)
set_option maxRecDepth 100000 in
set_option maxHeartbeats 4000000 in
theorem k_X0_becomeTurned (G : GX) {X : MX} {a0 : Nat} (h0 : shX0 X a0) {N : Nat} {I : MI} {L : ML} {I' : MI} (hf : f_X0_becomeTurned N a0 I = some I') : Con G mX0_becomeTurned yX0_becomeTurned rmX0_becomeTurned (fun B => [.ref (B + a0)]) X I L none X I' L :=
  Con.of (by decide) rfl (fun h => by cases h) (fun B => Nat.le_of_ble_eq_true rfl) (fun G => kb_X0_becomeTurned h0 hf (fun _ he => by cases he; rfl))
theorem fl_X9_15 : FLD RX9 15 9 1 false := ⟨RX9, TX9, 2, rfl, inX9, by decide, lwg_at 109 (by decide +kernel) rfl, nmX9, tyX9_ok, rfl, rfl⟩
theorem fl_X9_9 : FLD RX9 9 9 0 true := ⟨RX9, TX9, 2, rfl, inX9, by decide, lwg_at 103 (by decide +kernel) rfl, nmX9, tyX9_ok, rfl, rfl⟩
-- X9_ups ('RookWords$Word', 'ups', '()I')
def rmX9_ups : RM := ((0, 0, 0, 0), false, (some FieldType.int))
def f_X9_ups_b4 (N : Nat) (a0 : Nat) (v1 : Int32) (v2 : Int32) (I : MI) : Option ((Int32 × Int32) ⊕ (Int32)) := (if v2 < (I a0 1) then if inb v2 12 then (if (I (a0 + 1) (Int32.toNatClampNeg v2)) = 0 then some (.inl (v1 + 1, v2 + 1)) else some (.inl (v1, v2 + 1))) else none else some (.inr v1))
set_option maxRecDepth 100000 in
set_option maxHeartbeats 4000000 in
theorem k_X9_ups_b4 {G : GX} {Q : State → Prop} {X : MX} {a0 : Nat} (h0 : shX9 X a0) {v1 : Int32} {v2 : Int32} {N : Nat} {I : MI} {L : ML} {out : (Int32 × Int32) ⊕ (Int32)} (hf : f_X9_ups_b4 N a0 v1 v2 I = some out) (hC : ∀ (v1' : Int32) (v2' : Int32), out = .inl (v1', v2') → Ex G mX9_ups rmX9_ups Q (0, 0) X I L 4 [(0, .ref (gB G + a0)), (1, .int v1'), (2, .int v2')] []) (hX : ∀ (w1 : Int32), out = .inr w1 → Ex G mX9_ups rmX9_ups Q (0, 0) X I L 30 [(1, .int w1)] []) : Ex G mX9_ups rmX9_ups Q (0, 0) X I L 4 [(0, .ref (gB G + a0)), (1, .int v1), (2, .int v2)] [] := by
  unfold f_X9_ups_b4 at hf
  refine ex_iload_n 2 (pc' := 5) dX9_ups_4 rfl rfl rfl ?_
  refine ex_aload_n 0 (pc' := 6) dX9_ups_5 rfl rfl rfl ?_
  refine ex_getI (pc' := 9) dX9_ups_6 fl_X9_15 rfl (sh9_k h0) rfl ?_
  refine ex_icmpge (tgt := 30) (pc' := 12) dX9_ups_9 (by decide) rfl (fun hc1 => ?_) (fun hc1 => ?_)
  · replace hf := if_t hc1 hf
    refine ex_aload_n 0 (pc' := 13) dX9_ups_12 rfl rfl rfl ?_
    refine ex_getR (pc' := 16) dX9_ups_13 fl_X9_9 rfl (sh9_k h0) (sh9_F0 h0) rfl ?_
    refine ex_iload_n 2 (pc' := 17) dX9_ups_16 rfl rfl rfl ?_
    obtain ⟨hg2, hf⟩ := of_guard hf
    refine ex_iald (pc' := 18) dX9_ups_17 (sh9_T0 h0) (inb_in hg2) rfl ?_
    refine ex_ifne (tgt := 24) (pc' := 21) dX9_ups_18 (by decide) rfl (fun hc3 => ?_) (fun hc3 => ?_)
    · replace hf := if_t hc3 hf
      refine ex_iincc (lv' := [(1, .int (v1 + 1)), (0, .ref (gB G + a0)), (2, .int v2)]) 1 (pc' := 24) dX9_ups_21 rfl ic_1 (Nat.le_of_ble_eq_true rfl) rfl rfl ?_
      refine ex_iincc (lv' := [(2, .int (v2 + 1)), (1, .int (v1 + 1)), (0, .ref (gB G + a0))]) 2 (pc' := 27) dX9_ups_24 rfl ic_1 (Nat.le_of_ble_eq_true rfl) rfl rfl ?_
      refine ex_goto (tgt := 4) dX9_ups_27 (by decide) ?_
      exact ex_sub [2, 1, 0] rfl (hC _ _ (Option.some.inj hf).symm)
    · replace hf := if_f hc3 hf
      refine ex_iincc (lv' := [(2, .int (v2 + 1)), (0, .ref (gB G + a0)), (1, .int v1)]) 2 (pc' := 27) dX9_ups_24 rfl ic_1 (Nat.le_of_ble_eq_true rfl) rfl rfl ?_
      refine ex_goto (tgt := 4) dX9_ups_27 (by decide) ?_
      exact ex_sub [1, 2, 0] rfl (hC _ _ (Option.some.inj hf).symm)
  · replace hf := if_f hc1 hf
    exact ex_sub [1] rfl (hX _ (Option.some.inj hf).symm)
def f_X9_ups_l4 (N : Nat) (a0 : Nat) (v1 : Int32) (v2 : Int32) (I : MI) : Option (Int32) := loopN (fun s => f_X9_ups_b4 N a0 s.1 s.2 I) N (v1, v2)
set_option maxRecDepth 100000 in
set_option maxHeartbeats 4000000 in
theorem k_X9_ups_l4 {G : GX} {Q : State → Prop} {X : MX} {a0 : Nat} (h0 : shX9 X a0) {N0 : Nat} {I : MI} {L : ML} {out : (Int32)} (hX : ∀ (w1 : Int32), out = w1 → Ex G mX9_ups rmX9_ups Q (0, 0) X I L 30 [(1, .int w1)] []) : ∀ (N : Nat) (v1 : Int32) (v2 : Int32), loopN (fun s => f_X9_ups_b4 N0 a0 s.1 s.2 I) N (v1, v2) = some out → Ex G mX9_ups rmX9_ups Q (0, 0) X I L 4 [(0, .ref (gB G + a0)), (1, .int v1), (2, .int v2)] [] := by
  intro N
  induction N with
  | zero => intro v1 v2 hf; exact absurd (loopN_zero hf) id
  | succ n ih =>
    intro v1 v2 hf
    rcases loopN_succ hf with ⟨s, hb, hl⟩ | hb
    · obtain ⟨v1', v2'⟩ := s
      refine k_X9_ups_b4 h0 hb (fun _ _ he => ?_) (fun _ he => by cases he)
      cases he
      exact ih v1' v2' hl
    · exact k_X9_ups_b4 h0 hb (fun _ _ he => by cases he) (fun x0 he => hX x0 (Sum.inr.inj he))
def f_X9_ups (N : Nat) (a0 : Nat) (I : MI) : Option (Int32) := bnd1 (f_X9_ups_l4 N a0 0 0 I) fun x4 => some x4
set_option maxRecDepth 100000 in
set_option maxHeartbeats 4000000 in
theorem kb_X9_ups {G : GX} {Q : State → Prop} {X : MX} {a0 : Nat} (h0 : shX9 X a0) {N : Nat} {I : MI} {L : ML} {out : Int32} (hf : f_X9_ups N a0 I = some out) (hR : ∀ (z : Int32), out = z → Q = RetQ G (some (.int z)) X I L (0, 0)) : Ex G mX9_ups rmX9_ups Q (0, 0) X I L 0 [(0, .ref (gB G + a0))] [] := by
  unfold f_X9_ups at hf
  refine ex_iconst (v := 0) (pc' := 1) dX9_ups_0 ic_0 rfl ?_
  refine ex_istore_n (lv' := [(1, .int 0), (0, .ref (gB G + a0))]) (pc' := 2) dX9_ups_1 rfl (Nat.le_of_ble_eq_true rfl) rfl rfl ?_
  refine ex_iconst (v := 0) (pc' := 3) dX9_ups_2 ic_0 rfl ?_
  refine ex_istore_n (lv' := [(2, .int 0), (1, .int 0), (0, .ref (gB G + a0))]) (pc' := 4) dX9_ups_3 rfl (Nat.le_of_ble_eq_true rfl) rfl rfl ?_
  refine ex_sub (lv' := [(0, .ref (gB G + a0)), (1, .int 0), (2, .int 0)]) [2, 1, 0] rfl ?_
  obtain ⟨x4, hq5, hf⟩ := of_bnd1 hf
  refine k_X9_ups_l4 h0 (fun x4' he => ?_) _ _ _ hq5
  cases he
  refine ex_iload_n 0 (pc' := 31) dX9_ups_30 rfl rfl rfl ?_
  exact ex_iret dX9_ups_31 rfl (hR _ (Option.some.inj hf).symm)
set_option maxRecDepth 100000 in
set_option maxHeartbeats 4000000 in
theorem k_X9_ups (G : GX) {X : MX} {a0 : Nat} (h0 : shX9 X a0) {N : Nat} {I : MI} {L : ML} {z : Int32} (hf : f_X9_ups N a0 I = some z) : Con G mX9_ups yX9_ups rmX9_ups (fun B => [.ref (B + a0)]) X I L (some (.int z)) X I L :=
  Con.of (by decide) rfl (fun h => by cases h) (fun B => Nat.le_of_ble_eq_true rfl) (fun G => kb_X9_ups h0 hf (fun _ he => by cases he; rfl))
theorem cl_X9_35 : CLV RX9 35 yX9_ups mX9_ups (some FieldType.int) 0 := ⟨⟨lwg_at 402 (by decide +kernel) rfl, lwg_at 359 (by decide +kernel) rfl, lwg_at 360 (by decide +kernel) rfl, lwg_at 53 (by decide +kernel) rfl⟩, lwg_at 361 (by decide +kernel) rfl, ⟨by decide +kernel, by decide +kernel, by decide +kernel⟩⟩
-- X9_downs ('RookWords$Word', 'downs', '()I')
def rmX9_downs : RM := ((1, 22, 0, 0), false, (some FieldType.int))
def f_X9_downs (N : Nat) (a0 : Nat) (I : MI) : Option (Int32) := bnd1 (f_X9_ups N a0 I) fun r1 => some ((I a0 1) - r1)
set_option maxRecDepth 100000 in
set_option maxHeartbeats 4000000 in
theorem kb_X9_downs {G : GX} {Q : State → Prop} {X : MX} {a0 : Nat} (h0 : shX9 X a0) {N : Nat} {I : MI} {L : ML} {out : Int32} (hf : f_X9_downs N a0 I = some out) (hR : ∀ (z : Int32), out = z → Q = RetQ G (some (.int z)) X I L (0, 0)) : Ex G mX9_downs rmX9_downs Q (0, 0) X I L 0 [(0, .ref (gB G + a0))] [] := by
  unfold f_X9_downs at hf
  refine ex_aload_n 0 (pc' := 1) dX9_downs_0 rfl rfl rfl ?_
  refine ex_getI (pc' := 4) dX9_downs_1 fl_X9_15 rfl (sh9_k h0) rfl ?_
  refine ex_aload_n 0 (pc' := 5) dX9_downs_4 rfl rfl rfl ?_
  obtain ⟨r1, hq2, hf⟩ := of_bnd1 hf
  refine ex_callV_i (rm' := rmX9_ups) (st := [.int (I a0 1)]) (pc' := 8) [] dX9_downs_5 cl_X9_35 (k_X9_ups G h0 hq2) rfl (sh9_k h0) ⟨_, _, rfl⟩ rfl rfl (ROOM_of rfl) (Nat.le_of_ble_eq_true rfl) rfl rfl ?_
  refine ex_isub (pc' := 9) dX9_downs_8 rfl ?_
  exact ex_iret dX9_downs_9 rfl (hR _ (Option.some.inj hf).symm)
set_option maxRecDepth 100000 in
set_option maxHeartbeats 4000000 in
theorem k_X9_downs (G : GX) {X : MX} {a0 : Nat} (h0 : shX9 X a0) {N : Nat} {I : MI} {L : ML} {z : Int32} (hf : f_X9_downs N a0 I = some z) : Con G mX9_downs yX9_downs rmX9_downs (fun B => [.ref (B + a0)]) X I L (some (.int z)) X I L :=
  Con.of (by decide) rfl (fun h => by cases h) (fun B => Nat.le_of_ble_eq_true rfl) (fun G => kb_X9_downs h0 hf (fun _ he => by cases he; rfl))
theorem cl_X0_37 : CLV RX0 37 yX9_ups mX9_ups (some FieldType.int) 0 := ⟨⟨lwg_at 505 (by decide +kernel) rfl, lwg_at 359 (by decide +kernel) rfl, lwg_at 360 (by decide +kernel) rfl, lwg_at 53 (by decide +kernel) rfl⟩, lwg_at 361 (by decide +kernel) rfl, ⟨by decide +kernel, by decide +kernel, by decide +kernel⟩⟩
theorem cl_X0_43 : CLV RX0 43 yX9_downs mX9_downs (some FieldType.int) 0 := ⟨⟨lwg_at 506 (by decide +kernel) rfl, lwg_at 399 (by decide +kernel) rfl, lwg_at 400 (by decide +kernel) rfl, lwg_at 53 (by decide +kernel) rfl⟩, lwg_at 401 (by decide +kernel) rfl, ⟨by decide +kernel, by decide +kernel, by decide +kernel⟩⟩
theorem cl_X0_46 : Cond.methodLink RX0 46 Lib.Math.max.name ∈ lwg ∧ Cond.static Lib.Math.max.name ∈ lwg ∧ Cond.initialized "java/lang/Math" ∈ lwg ∧ Cond.code Lib.Math.max.name Lib.Math.max.code 2 (some .int) ∈ lwg := ⟨lwg_at 507 (by decide +kernel) rfl, lwg_at 368 (by decide +kernel) rfl, lwg_at 62 (by decide +kernel) rfl, lwg_at 369 (by decide +kernel) rfl⟩
theorem fl_X0_56 : FLD RX0 56 9 1 false := ⟨RX9, TX9, 2, rfl, inX9, by decide, lwg_at 113 (by decide +kernel) rfl, nmX9, tyX9_ok, rfl, rfl⟩
theorem fl_X0_59 : FLD RX0 59 9 0 true := ⟨RX9, TX9, 2, rfl, inX9, by decide, lwg_at 107 (by decide +kernel) rfl, nmX9, tyX9_ok, rfl, rfl⟩
-- X0_becomeWord ('RookWords$Board', 'becomeWord', '(LRookWords$Word;)V')
def rmX0_becomeWord : RM := ((2, 44, 0, 0), false, none)
def f_X0_becomeWord_b55 (N : Nat) (a0 : Nat) (a1 : Nat) (v2 : Int32) (v3 : Int32) (v4 : Int32) (v5 : Int32) (I : MI) : Option ((Int32 × MI) ⊕ (MI)) := (if v5 < v3 then (if v5 < (I a0 0) then if inb v5 6 then if inb v5 6 then letv (upI I (a0 + 1) (Int32.toNatClampNeg v5) ((I (a0 + 1) (Int32.toNatClampNeg v5)) ||| (jshl 1 v2))) fun I16 => some (.inl (v5 + 1, I16)) else none else none else some (.inr I)) else some (.inr I))
set_option maxRecDepth 100000 in
set_option maxHeartbeats 4000000 in
theorem k_X0_becomeWord_b55 {G : GX} {Q : State → Prop} {X : MX} {a0 : Nat} {a1 : Nat} {v2 : Int32} {v3 : Int32} {v4 : Int32} (h0 : shX0 X a0) (h1 : shX9 X a1) {v5 : Int32} {N : Nat} {I : MI} {L : ML} {out : (Int32 × MI) ⊕ (MI)} (hf : f_X0_becomeWord_b55 N a0 a1 v2 v3 v4 v5 I = some out) (hC : ∀ (v5' : Int32) (I' : MI), out = .inl (v5', I') → Ex G mX0_becomeWord rmX0_becomeWord Q (0, 0) X I' L 55 [(0, .ref (gB G + a0)), (1, .ref (gB G + a1)), (2, .int v2), (3, .int v3), (4, .int v4), (5, .int v5')] []) (hX : ∀ (I' : MI), out = .inr I' → Ex G mX0_becomeWord rmX0_becomeWord Q (0, 0) X I' L 89 [(0, .ref (gB G + a0)), (1, .ref (gB G + a1)), (2, .int v2), (3, .int v3), (4, .int v4)] []) : Ex G mX0_becomeWord rmX0_becomeWord Q (0, 0) X I L 55 [(0, .ref (gB G + a0)), (1, .ref (gB G + a1)), (2, .int v2), (3, .int v3), (4, .int v4), (5, .int v5)] [] := by
  unfold f_X0_becomeWord_b55 at hf
  refine ex_iload 5 (pc' := 57) dX0_becomeWord_55 rfl rfl ?_
  refine ex_iload_n 3 (pc' := 58) dX0_becomeWord_57 rfl rfl rfl ?_
  refine ex_icmpge (tgt := 89) (pc' := 61) dX0_becomeWord_58 (by decide) rfl (fun hc12 => ?_) (fun hc12 => ?_)
  · replace hf := if_t hc12 hf
    refine ex_iload 5 (pc' := 63) dX0_becomeWord_61 rfl rfl ?_
    refine ex_aload_n 0 (pc' := 64) dX0_becomeWord_63 rfl rfl rfl ?_
    refine ex_getI (pc' := 67) dX0_becomeWord_64 fl_X0_11 rfl (sh0_k h0) rfl ?_
    refine ex_icmpge (tgt := 89) (pc' := 70) dX0_becomeWord_67 (by decide) rfl (fun hc13 => ?_) (fun hc13 => ?_)
    · replace hf := if_t hc13 hf
      refine ex_aload_n 0 (pc' := 71) dX0_becomeWord_70 rfl rfl rfl ?_
      refine ex_getR (pc' := 74) dX0_becomeWord_71 fl_X0_15 rfl (sh0_k h0) (sh0_F1 h0) rfl ?_
      refine ex_iload 5 (pc' := 76) dX0_becomeWord_74 rfl rfl ?_
      refine ex_dup2 (pc' := 77) dX0_becomeWord_76 rfl rfl rfl ?_
      obtain ⟨hg14, hf⟩ := of_guard hf
      refine ex_iald (pc' := 78) dX0_becomeWord_77 (sh0_T1 h0) (inb_in hg14) rfl ?_
      refine ex_iconst (v := 1) (pc' := 79) dX0_becomeWord_78 ic_1 rfl ?_
      refine ex_iload_n 2 (pc' := 80) dX0_becomeWord_79 rfl rfl rfl ?_
      refine ex_ishl (pc' := 81) dX0_becomeWord_80 rfl ?_
      refine ex_ior (pc' := 82) dX0_becomeWord_81 rfl ?_
      obtain ⟨hg15, hf⟩ := of_guard hf
      refine ex_iast (pc' := 83) dX0_becomeWord_82 (sh0_T1 h0) (inb_in hg15) rfl ?_
      obtain ⟨I16, hI16, hf⟩ := of_let hf
      rw [← hI16]
      refine ex_iincc (lv' := [(5, .int (v5 + 1)), (0, .ref (gB G + a0)), (1, .ref (gB G + a1)), (2, .int v2), (3, .int v3), (4, .int v4)]) 5 (pc' := 86) dX0_becomeWord_83 rfl ic_1 (Nat.le_of_ble_eq_true rfl) rfl rfl ?_
      refine ex_goto (tgt := 55) dX0_becomeWord_86 (by decide) ?_
      exact ex_sub [1, 2, 3, 4, 5, 0] rfl (hC _ _ (Option.some.inj hf).symm)
    · replace hf := if_f hc13 hf
      exact ex_sub [0, 1, 2, 3, 4] rfl (hX _ (Option.some.inj hf).symm)
  · replace hf := if_f hc12 hf
    exact ex_sub [0, 1, 2, 3, 4] rfl (hX _ (Option.some.inj hf).symm)
def f_X0_becomeWord_l55 (N : Nat) (a0 : Nat) (a1 : Nat) (v2 : Int32) (v3 : Int32) (v4 : Int32) (v5 : Int32) (I : MI) : Option (MI) := loopN (fun s => f_X0_becomeWord_b55 N a0 a1 v2 v3 v4 s.1 s.2) N (v5, I)
set_option maxRecDepth 100000 in
set_option maxHeartbeats 4000000 in
theorem k_X0_becomeWord_l55 {G : GX} {Q : State → Prop} {X : MX} {a0 : Nat} {a1 : Nat} {v2 : Int32} {v3 : Int32} {v4 : Int32} (h0 : shX0 X a0) (h1 : shX9 X a1) {N0 : Nat} {L : ML} {out : (MI)} (hX : ∀ (I' : MI), out = I' → Ex G mX0_becomeWord rmX0_becomeWord Q (0, 0) X I' L 89 [(0, .ref (gB G + a0)), (1, .ref (gB G + a1)), (2, .int v2), (3, .int v3), (4, .int v4)] []) : ∀ (N : Nat) (v5 : Int32) (I : MI), loopN (fun s => f_X0_becomeWord_b55 N0 a0 a1 v2 v3 v4 s.1 s.2) N (v5, I) = some out → Ex G mX0_becomeWord rmX0_becomeWord Q (0, 0) X I L 55 [(0, .ref (gB G + a0)), (1, .ref (gB G + a1)), (2, .int v2), (3, .int v3), (4, .int v4), (5, .int v5)] [] := by
  intro N
  induction N with
  | zero => intro v5 I hf; exact absurd (loopN_zero hf) id
  | succ n ih =>
    intro v5 I hf
    rcases loopN_succ hf with ⟨s, hb, hl⟩ | hb
    · obtain ⟨v5', I'⟩ := s
      refine k_X0_becomeWord_b55 h0 h1 hb (fun _ _ he => ?_) (fun _ he => by cases he)
      cases he
      exact ih v5' I' hl
    · exact k_X0_becomeWord_b55 h0 h1 hb (fun _ _ he => by cases he) (fun x0 he => hX x0 (Sum.inr.inj he))
def f_X0_becomeWord_b26 (N : Nat) (a0 : Nat) (a1 : Nat) (v2 : Int32) (v3 : Int32) (v4 : Int32) (I : MI) : Option ((Int32 × Int32 × Int32 × MI) ⊕ (MI)) := (if v4 < (I a1 1) then if inb v4 12 then (if (I (a1 + 1) (Int32.toNatClampNeg v4)) = 1 then some (.inl (v2, v3 + 1, v4 + 1, I)) else bnd1 (f_X0_becomeWord_l55 N a0 a1 v2 v3 v4 0 I) fun I17 => some (.inl (v2 + 1, v3, v4 + 1, I17))) else none else some (.inr I))
set_option maxRecDepth 100000 in
set_option maxHeartbeats 4000000 in
theorem k_X0_becomeWord_b26 {G : GX} {Q : State → Prop} {X : MX} {a0 : Nat} {a1 : Nat} (h0 : shX0 X a0) (h1 : shX9 X a1) {v2 : Int32} {v3 : Int32} {v4 : Int32} {N : Nat} {I : MI} {L : ML} {out : (Int32 × Int32 × Int32 × MI) ⊕ (MI)} (hf : f_X0_becomeWord_b26 N a0 a1 v2 v3 v4 I = some out) (hC : ∀ (v2' : Int32) (v3' : Int32) (v4' : Int32) (I' : MI), out = .inl (v2', v3', v4', I') → Ex G mX0_becomeWord rmX0_becomeWord Q (0, 0) X I' L 26 [(0, .ref (gB G + a0)), (1, .ref (gB G + a1)), (2, .int v2'), (3, .int v3'), (4, .int v4')] []) (hX : ∀ (I' : MI), out = .inr I' → Ex G mX0_becomeWord rmX0_becomeWord Q (0, 0) X I' L 98 [] []) : Ex G mX0_becomeWord rmX0_becomeWord Q (0, 0) X I L 26 [(0, .ref (gB G + a0)), (1, .ref (gB G + a1)), (2, .int v2), (3, .int v3), (4, .int v4)] [] := by
  unfold f_X0_becomeWord_b26 at hf
  refine ex_iload 4 (pc' := 28) dX0_becomeWord_26 rfl rfl ?_
  refine ex_aload_n 1 (pc' := 29) dX0_becomeWord_28 rfl rfl rfl ?_
  refine ex_getI (pc' := 32) dX0_becomeWord_29 fl_X0_56 rfl (sh9_k h1) rfl ?_
  refine ex_icmpge (tgt := 98) (pc' := 35) dX0_becomeWord_32 (by decide) rfl (fun hc9 => ?_) (fun hc9 => ?_)
  · replace hf := if_t hc9 hf
    refine ex_aload_n 1 (pc' := 36) dX0_becomeWord_35 rfl rfl rfl ?_
    refine ex_getR (pc' := 39) dX0_becomeWord_36 fl_X0_59 rfl (sh9_k h1) (sh9_F0 h1) rfl ?_
    refine ex_iload 4 (pc' := 41) dX0_becomeWord_39 rfl rfl ?_
    obtain ⟨hg10, hf⟩ := of_guard hf
    refine ex_iald (pc' := 42) dX0_becomeWord_41 (sh9_T0 h1) (inb_in hg10) rfl ?_
    refine ex_iconst (v := 1) (pc' := 43) dX0_becomeWord_42 ic_1 rfl ?_
    refine ex_icmpne (tgt := 52) (pc' := 46) dX0_becomeWord_43 (by decide) rfl (fun hc11 => ?_) (fun hc11 => ?_)
    · replace hf := if_t hc11 hf
      refine ex_iincc (lv' := [(3, .int (v3 + 1)), (0, .ref (gB G + a0)), (1, .ref (gB G + a1)), (2, .int v2), (4, .int v4)]) 3 (pc' := 49) dX0_becomeWord_46 rfl ic_1 (Nat.le_of_ble_eq_true rfl) rfl rfl ?_
      refine ex_goto (tgt := 92) dX0_becomeWord_49 (by decide) ?_
      refine ex_iincc (lv' := [(4, .int (v4 + 1)), (3, .int (v3 + 1)), (0, .ref (gB G + a0)), (1, .ref (gB G + a1)), (2, .int v2)]) 4 (pc' := 95) dX0_becomeWord_92 rfl ic_1 (Nat.le_of_ble_eq_true rfl) rfl rfl ?_
      refine ex_goto (tgt := 26) dX0_becomeWord_95 (by decide) ?_
      exact ex_sub [2, 3, 4, 1, 0] rfl (hC _ _ _ _ (Option.some.inj hf).symm)
    · replace hf := if_f hc11 hf
      refine ex_iconst (v := 0) (pc' := 53) dX0_becomeWord_52 ic_0 rfl ?_
      refine ex_istore (lv' := [(5, .int 0), (0, .ref (gB G + a0)), (1, .ref (gB G + a1)), (2, .int v2), (3, .int v3), (4, .int v4)]) (pc' := 55) dX0_becomeWord_53 (Nat.le_of_ble_eq_true rfl) rfl rfl ?_
      refine ex_sub (lv' := [(0, .ref (gB G + a0)), (1, .ref (gB G + a1)), (2, .int v2), (3, .int v3), (4, .int v4), (5, .int 0)]) [1, 2, 3, 4, 5, 0] rfl ?_
      obtain ⟨I17, hq18, hf⟩ := of_bnd1 hf
      refine k_X0_becomeWord_l55 h0 h1 (fun I17' he => ?_) _ _ _ hq18
      cases he
      refine ex_iincc (lv' := [(2, .int (v2 + 1)), (0, .ref (gB G + a0)), (1, .ref (gB G + a1)), (3, .int v3), (4, .int v4)]) 2 (pc' := 92) dX0_becomeWord_89 rfl ic_1 (Nat.le_of_ble_eq_true rfl) rfl rfl ?_
      refine ex_iincc (lv' := [(4, .int (v4 + 1)), (2, .int (v2 + 1)), (0, .ref (gB G + a0)), (1, .ref (gB G + a1)), (3, .int v3)]) 4 (pc' := 95) dX0_becomeWord_92 rfl ic_1 (Nat.le_of_ble_eq_true rfl) rfl rfl ?_
      refine ex_goto (tgt := 26) dX0_becomeWord_95 (by decide) ?_
      exact ex_sub [2, 3, 1, 4, 0] rfl (hC _ _ _ _ (Option.some.inj hf).symm)
  · replace hf := if_f hc9 hf
    exact ex_sub [] rfl (hX _ (Option.some.inj hf).symm)
def f_X0_becomeWord_l26 (N : Nat) (a0 : Nat) (a1 : Nat) (v2 : Int32) (v3 : Int32) (v4 : Int32) (I : MI) : Option (MI) := loopN (fun s => f_X0_becomeWord_b26 N a0 a1 s.1 s.2.1 s.2.2.1 s.2.2.2) N (v2, v3, v4, I)
set_option maxRecDepth 100000 in
set_option maxHeartbeats 4000000 in
theorem k_X0_becomeWord_l26 {G : GX} {Q : State → Prop} {X : MX} {a0 : Nat} {a1 : Nat} (h0 : shX0 X a0) (h1 : shX9 X a1) {N0 : Nat} {L : ML} {out : (MI)} (hX : ∀ (I' : MI), out = I' → Ex G mX0_becomeWord rmX0_becomeWord Q (0, 0) X I' L 98 [] []) : ∀ (N : Nat) (v2 : Int32) (v3 : Int32) (v4 : Int32) (I : MI), loopN (fun s => f_X0_becomeWord_b26 N0 a0 a1 s.1 s.2.1 s.2.2.1 s.2.2.2) N (v2, v3, v4, I) = some out → Ex G mX0_becomeWord rmX0_becomeWord Q (0, 0) X I L 26 [(0, .ref (gB G + a0)), (1, .ref (gB G + a1)), (2, .int v2), (3, .int v3), (4, .int v4)] [] := by
  intro N
  induction N with
  | zero => intro v2 v3 v4 I hf; exact absurd (loopN_zero hf) id
  | succ n ih =>
    intro v2 v3 v4 I hf
    rcases loopN_succ hf with ⟨s, hb, hl⟩ | hb
    · obtain ⟨v2', v3', v4', I'⟩ := s
      refine k_X0_becomeWord_b26 h0 h1 hb (fun _ _ _ _ he => ?_) (fun _ he => by cases he)
      cases he
      exact ih v2' v3' v4' I' hl
    · exact k_X0_becomeWord_b26 h0 h1 hb (fun _ _ _ _ he => by cases he) (fun x0 he => hX x0 (Sum.inr.inj he))
def f_X0_becomeWord (N : Nat) (a0 : Nat) (a1 : Nat) (I : MI) : Option (MI) := bnd1 (f_X9_ups N a1 I) fun r1 => bnd1 (f_X9_downs N a1 I) fun r3 => letv (if r1 < r3 then r3 else r1) fun x5 => letv (if 1 < x5 then x5 else 1) fun x6 => bnd1 (f_X0_clean N a0 x6 I) fun I7 => bnd1 (f_X0_becomeWord_l26 N a0 a1 0 0 0 I7) fun I19 => some I19
set_option maxRecDepth 100000 in
set_option maxHeartbeats 4000000 in
theorem kb_X0_becomeWord {G : GX} {Q : State → Prop} {X : MX} {a0 : Nat} {a1 : Nat} (h0 : shX0 X a0) (h1 : shX9 X a1) {N : Nat} {I : MI} {L : ML} {out : MI} (hf : f_X0_becomeWord N a0 a1 I = some out) (hR : ∀ (I' : MI), out = I' → Q = RetQ G none X I' L (0, 0)) : Ex G mX0_becomeWord rmX0_becomeWord Q (0, 0) X I L 0 [(0, .ref (gB G + a0)), (1, .ref (gB G + a1))] [] := by
  unfold f_X0_becomeWord at hf
  refine ex_aload_n 0 (pc' := 1) dX0_becomeWord_0 rfl rfl rfl ?_
  refine ex_iconst (v := 1) (pc' := 2) dX0_becomeWord_1 ic_1 rfl ?_
  refine ex_aload_n 1 (pc' := 3) dX0_becomeWord_2 rfl rfl rfl ?_
  obtain ⟨r1, hq2, hf⟩ := of_bnd1 hf
  refine ex_callV_i (rm' := rmX9_ups) (st := [.int 1, .ref (gB G + a0)]) (pc' := 6) [] dX0_becomeWord_3 cl_X0_37 (k_X9_ups G h1 hq2) rfl (sh9_k h1) ⟨_, _, rfl⟩ rfl rfl (ROOM_of rfl) (Nat.le_of_ble_eq_true rfl) rfl rfl ?_
  refine ex_aload_n 1 (pc' := 7) dX0_becomeWord_6 rfl rfl rfl ?_
  obtain ⟨r3, hq4, hf⟩ := of_bnd1 hf
  refine ex_callV_i (rm' := rmX9_downs) (st := [.int r1, .int 1, .ref (gB G + a0)]) (pc' := 10) [] dX0_becomeWord_7 cl_X0_43 (k_X9_downs G h1 hq4) rfl (sh9_k h1) ⟨_, _, rfl⟩ rfl rfl (ROOM_of rfl) (Nat.le_of_ble_eq_true rfl) rfl rfl ?_
  refine ex_mmax (pc' := 13) dX0_becomeWord_10 cl_X0_46 ⟨Nat.le_of_ble_eq_true rfl, Nat.le_of_ble_eq_true rfl, Nat.le_of_ble_eq_true rfl, Nat.le_of_ble_eq_true rfl⟩ rfl ?_
  obtain ⟨x5, hx5, hf⟩ := of_let hf
  rw [← hx5]
  refine ex_mmax (pc' := 16) dX0_becomeWord_13 cl_X0_46 ⟨Nat.le_of_ble_eq_true rfl, Nat.le_of_ble_eq_true rfl, Nat.le_of_ble_eq_true rfl, Nat.le_of_ble_eq_true rfl⟩ rfl ?_
  obtain ⟨x6, hx6, hf⟩ := of_let hf
  rw [← hx6]
  obtain ⟨I7, hq8, hf⟩ := of_bnd1 hf
  refine ex_callV_v (rm' := rmX0_clean) (st := []) (pc' := 19) [.int x6] dX0_becomeWord_16 cl_X0_52 (k_X0_clean G h0 hq8) rfl (sh0_k h0) ⟨_, _, rfl⟩ rfl rfl (ROOM_of rfl) (Nat.le_of_ble_eq_true rfl) rfl rfl ?_
  refine ex_iconst (v := 0) (pc' := 20) dX0_becomeWord_19 ic_0 rfl ?_
  refine ex_istore_n (lv' := [(2, .int 0), (0, .ref (gB G + a0)), (1, .ref (gB G + a1))]) (pc' := 21) dX0_becomeWord_20 rfl (Nat.le_of_ble_eq_true rfl) rfl rfl ?_
  refine ex_iconst (v := 0) (pc' := 22) dX0_becomeWord_21 ic_0 rfl ?_
  refine ex_istore_n (lv' := [(3, .int 0), (2, .int 0), (0, .ref (gB G + a0)), (1, .ref (gB G + a1))]) (pc' := 23) dX0_becomeWord_22 rfl (Nat.le_of_ble_eq_true rfl) rfl rfl ?_
  refine ex_iconst (v := 0) (pc' := 24) dX0_becomeWord_23 ic_0 rfl ?_
  refine ex_istore (lv' := [(4, .int 0), (3, .int 0), (2, .int 0), (0, .ref (gB G + a0)), (1, .ref (gB G + a1))]) (pc' := 26) dX0_becomeWord_24 (Nat.le_of_ble_eq_true rfl) rfl rfl ?_
  refine ex_sub (lv' := [(0, .ref (gB G + a0)), (1, .ref (gB G + a1)), (2, .int 0), (3, .int 0), (4, .int 0)]) [3, 4, 2, 1, 0] rfl ?_
  obtain ⟨I19, hq20, hf⟩ := of_bnd1 hf
  refine k_X0_becomeWord_l26 h0 h1 (fun I19' he => ?_) _ _ _ _ _ hq20
  cases he
  exact ex_vret dX0_becomeWord_98 rfl (hR _ (Option.some.inj hf).symm)
set_option maxRecDepth 100000 in
set_option maxHeartbeats 4000000 in
theorem k_X0_becomeWord (G : GX) {X : MX} {a0 : Nat} {a1 : Nat} (h0 : shX0 X a0) (h1 : shX9 X a1) {N : Nat} {I : MI} {L : ML} {I' : MI} (hf : f_X0_becomeWord N a0 a1 I = some I') : Con G mX0_becomeWord yX0_becomeWord rmX0_becomeWord (fun B => [.ref (B + a0), .ref (B + a1)]) X I L none X I' L :=
  Con.of (by decide) rfl (fun h => by cases h) (fun B => Nat.le_of_ble_eq_true rfl) (fun G => kb_X0_becomeWord h0 h1 hf (fun _ he => by cases he; rfl))
theorem cl_X0_31 : CLS RX0 31 yJ6_bitCount_0f7a4 mJ6_bitCount_0f7a4 (some FieldType.int) 1 := ⟨⟨lwg_at 491 (by decide +kernel) rfl, lwg_at 492 (by decide +kernel) rfl, lwg_at 64 (by decide +kernel) rfl⟩, lwg_at 493 (by decide +kernel) rfl, ⟨by decide +kernel, by decide +kernel, by decide +kernel⟩⟩
-- X0_cells ('RookWords$Board', 'cells', '()I')
def rmX0_cells : RM := ((1, 20, 0, 0), false, (some FieldType.int))
def f_X0_cells_b4 (N : Nat) (a0 : Nat) (v1 : Int32) (v2 : Int32) (I : MI) : Option ((Int32 × Int32) ⊕ (Int32)) := (if v2 < (I a0 0) then if inb v2 6 then bnd1 (f_J6_bitCount_0f7a4 (I (a0 + 1) (Int32.toNatClampNeg v2))) fun r3 => some (.inl (v1 + r3, v2 + 1)) else none else some (.inr v1))
set_option maxRecDepth 100000 in
set_option maxHeartbeats 4000000 in
theorem k_X0_cells_b4 {G : GX} {Q : State → Prop} {X : MX} {a0 : Nat} (h0 : shX0 X a0) {v1 : Int32} {v2 : Int32} {N : Nat} {I : MI} {L : ML} {out : (Int32 × Int32) ⊕ (Int32)} (hf : f_X0_cells_b4 N a0 v1 v2 I = some out) (hC : ∀ (v1' : Int32) (v2' : Int32), out = .inl (v1', v2') → Ex G mX0_cells rmX0_cells Q (0, 0) X I L 4 [(0, .ref (gB G + a0)), (1, .int v1'), (2, .int v2')] []) (hX : ∀ (w1 : Int32), out = .inr w1 → Ex G mX0_cells rmX0_cells Q (0, 0) X I L 30 [(1, .int w1)] []) : Ex G mX0_cells rmX0_cells Q (0, 0) X I L 4 [(0, .ref (gB G + a0)), (1, .int v1), (2, .int v2)] [] := by
  unfold f_X0_cells_b4 at hf
  refine ex_iload_n 2 (pc' := 5) dX0_cells_4 rfl rfl rfl ?_
  refine ex_aload_n 0 (pc' := 6) dX0_cells_5 rfl rfl rfl ?_
  refine ex_getI (pc' := 9) dX0_cells_6 fl_X0_11 rfl (sh0_k h0) rfl ?_
  refine ex_icmpge (tgt := 30) (pc' := 12) dX0_cells_9 (by decide) rfl (fun hc1 => ?_) (fun hc1 => ?_)
  · replace hf := if_t hc1 hf
    refine ex_iload_n 1 (pc' := 13) dX0_cells_12 rfl rfl rfl ?_
    refine ex_aload_n 0 (pc' := 14) dX0_cells_13 rfl rfl rfl ?_
    refine ex_getR (pc' := 17) dX0_cells_14 fl_X0_15 rfl (sh0_k h0) (sh0_F1 h0) rfl ?_
    refine ex_iload_n 2 (pc' := 18) dX0_cells_17 rfl rfl rfl ?_
    obtain ⟨hg2, hf⟩ := of_guard hf
    refine ex_iald (pc' := 19) dX0_cells_18 (sh0_T1 h0) (inb_in hg2) rfl ?_
    obtain ⟨r3, hq4, hf⟩ := of_bnd1 hf
    refine ex_callS_i (rm' := rmJ6_bitCount_0f7a4) (st := [.int v1]) (pc' := 22) [.int (I (a0 + 1) (Int32.toNatClampNeg v2))] dX0_cells_19 cl_X0_31 (k_J6_bitCount_0f7a4 G hq4) rfl rfl rfl (ROOM_of rfl) (Nat.le_of_ble_eq_true rfl) rfl rfl ?_
    refine ex_iadd (pc' := 23) dX0_cells_22 rfl ?_
    refine ex_istore_n (lv' := [(1, .int (v1 + r3)), (0, .ref (gB G + a0)), (2, .int v2)]) (pc' := 24) dX0_cells_23 rfl (Nat.le_of_ble_eq_true rfl) rfl rfl ?_
    refine ex_iincc (lv' := [(2, .int (v2 + 1)), (1, .int (v1 + r3)), (0, .ref (gB G + a0))]) 2 (pc' := 27) dX0_cells_24 rfl ic_1 (Nat.le_of_ble_eq_true rfl) rfl rfl ?_
    refine ex_goto (tgt := 4) dX0_cells_27 (by decide) ?_
    exact ex_sub [2, 1, 0] rfl (hC _ _ (Option.some.inj hf).symm)
  · replace hf := if_f hc1 hf
    exact ex_sub [1] rfl (hX _ (Option.some.inj hf).symm)
def f_X0_cells_l4 (N : Nat) (a0 : Nat) (v1 : Int32) (v2 : Int32) (I : MI) : Option (Int32) := loopN (fun s => f_X0_cells_b4 N a0 s.1 s.2 I) N (v1, v2)
set_option maxRecDepth 100000 in
set_option maxHeartbeats 4000000 in
theorem k_X0_cells_l4 {G : GX} {Q : State → Prop} {X : MX} {a0 : Nat} (h0 : shX0 X a0) {N0 : Nat} {I : MI} {L : ML} {out : (Int32)} (hX : ∀ (w1 : Int32), out = w1 → Ex G mX0_cells rmX0_cells Q (0, 0) X I L 30 [(1, .int w1)] []) : ∀ (N : Nat) (v1 : Int32) (v2 : Int32), loopN (fun s => f_X0_cells_b4 N0 a0 s.1 s.2 I) N (v1, v2) = some out → Ex G mX0_cells rmX0_cells Q (0, 0) X I L 4 [(0, .ref (gB G + a0)), (1, .int v1), (2, .int v2)] [] := by
  intro N
  induction N with
  | zero => intro v1 v2 hf; exact absurd (loopN_zero hf) id
  | succ n ih =>
    intro v1 v2 hf
    rcases loopN_succ hf with ⟨s, hb, hl⟩ | hb
    · obtain ⟨v1', v2'⟩ := s
      refine k_X0_cells_b4 h0 hb (fun _ _ he => ?_) (fun _ he => by cases he)
      cases he
      exact ih v1' v2' hl
    · exact k_X0_cells_b4 h0 hb (fun _ _ he => by cases he) (fun x0 he => hX x0 (Sum.inr.inj he))
def f_X0_cells (N : Nat) (a0 : Nat) (I : MI) : Option (Int32) := bnd1 (f_X0_cells_l4 N a0 0 0 I) fun x5 => some x5
set_option maxRecDepth 100000 in
set_option maxHeartbeats 4000000 in
theorem kb_X0_cells {G : GX} {Q : State → Prop} {X : MX} {a0 : Nat} (h0 : shX0 X a0) {N : Nat} {I : MI} {L : ML} {out : Int32} (hf : f_X0_cells N a0 I = some out) (hR : ∀ (z : Int32), out = z → Q = RetQ G (some (.int z)) X I L (0, 0)) : Ex G mX0_cells rmX0_cells Q (0, 0) X I L 0 [(0, .ref (gB G + a0))] [] := by
  unfold f_X0_cells at hf
  refine ex_iconst (v := 0) (pc' := 1) dX0_cells_0 ic_0 rfl ?_
  refine ex_istore_n (lv' := [(1, .int 0), (0, .ref (gB G + a0))]) (pc' := 2) dX0_cells_1 rfl (Nat.le_of_ble_eq_true rfl) rfl rfl ?_
  refine ex_iconst (v := 0) (pc' := 3) dX0_cells_2 ic_0 rfl ?_
  refine ex_istore_n (lv' := [(2, .int 0), (1, .int 0), (0, .ref (gB G + a0))]) (pc' := 4) dX0_cells_3 rfl (Nat.le_of_ble_eq_true rfl) rfl rfl ?_
  refine ex_sub (lv' := [(0, .ref (gB G + a0)), (1, .int 0), (2, .int 0)]) [2, 1, 0] rfl ?_
  obtain ⟨x5, hq6, hf⟩ := of_bnd1 hf
  refine k_X0_cells_l4 h0 (fun x5' he => ?_) _ _ _ hq6
  cases he
  refine ex_iload_n 0 (pc' := 31) dX0_cells_30 rfl rfl rfl ?_
  exact ex_iret dX0_cells_31 rfl (hR _ (Option.some.inj hf).symm)
set_option maxRecDepth 100000 in
set_option maxHeartbeats 4000000 in
theorem k_X0_cells (G : GX) {X : MX} {a0 : Nat} (h0 : shX0 X a0) {N : Nat} {I : MI} {L : ML} {z : Int32} (hf : f_X0_cells N a0 I = some z) : Con G mX0_cells yX0_cells rmX0_cells (fun B => [.ref (B + a0)]) X I L (some (.int z)) X I L :=
  Con.of (by decide) rfl (fun h => by cases h) (fun B => Nat.le_of_ble_eq_true rfl) (fun G => kb_X0_cells h0 hf (fun _ he => by cases he; rfl))
-- X0_height ('RookWords$Board', 'height', '(I)I')
def rmX0_height : RM := ((1, 20, 0, 0), false, (some FieldType.int))
def f_X0_height (a0 : Nat) (v1 : Int32) (I : MI) : Option (Int32) := if inb v1 6 then bnd1 (f_J6_bitCount_0f7a4 (I (a0 + 1) (Int32.toNatClampNeg v1))) fun r2 => some r2 else none
set_option maxRecDepth 100000 in
set_option maxHeartbeats 4000000 in
theorem kb_X0_height {G : GX} {Q : State → Prop} {X : MX} {a0 : Nat} {v1 : Int32} (h0 : shX0 X a0) {I : MI} {L : ML} {out : Int32} (hf : f_X0_height a0 v1 I = some out) (hR : ∀ (z : Int32), out = z → Q = RetQ G (some (.int z)) X I L (0, 0)) : Ex G mX0_height rmX0_height Q (0, 0) X I L 0 [(0, .ref (gB G + a0)), (1, .int v1)] [] := by
  unfold f_X0_height at hf
  refine ex_aload_n 0 (pc' := 1) dX0_height_0 rfl rfl rfl ?_
  refine ex_getR (pc' := 4) dX0_height_1 fl_X0_15 rfl (sh0_k h0) (sh0_F1 h0) rfl ?_
  refine ex_iload_n 1 (pc' := 5) dX0_height_4 rfl rfl rfl ?_
  obtain ⟨hg1, hf⟩ := of_guard hf
  refine ex_iald (pc' := 6) dX0_height_5 (sh0_T1 h0) (inb_in hg1) rfl ?_
  obtain ⟨r2, hq3, hf⟩ := of_bnd1 hf
  refine ex_callS_i (rm' := rmJ6_bitCount_0f7a4) (st := []) (pc' := 9) [.int (I (a0 + 1) (Int32.toNatClampNeg v1))] dX0_height_6 cl_X0_31 (k_J6_bitCount_0f7a4 G hq3) rfl rfl rfl (ROOM_of rfl) (Nat.le_of_ble_eq_true rfl) rfl rfl ?_
  exact ex_iret dX0_height_9 rfl (hR _ (Option.some.inj hf).symm)
set_option maxRecDepth 100000 in
set_option maxHeartbeats 4000000 in
theorem k_X0_height (G : GX) {X : MX} {a0 : Nat} {v1 : Int32} (h0 : shX0 X a0) {I : MI} {L : ML} {z : Int32} (hf : f_X0_height a0 v1 I = some z) : Con G mX0_height yX0_height rmX0_height (fun B => [.ref (B + a0), .int v1]) X I L (some (.int z)) X I L :=
  Con.of (by decide) rfl (fun h => by cases h) (fun B => Nat.le_of_ble_eq_true rfl) (fun G => kb_X0_height h0 hf (fun _ he => by cases he; rfl))
theorem cl_X0_73 : CLV RX0 73 yX0_height mX0_height (some FieldType.int) 1 := ⟨⟨lwg_at 564 (by decide +kernel) rfl, lwg_at 565 (by decide +kernel) rfl, lwg_at 566 (by decide +kernel) rfl, lwg_at 54 (by decide +kernel) rfl⟩, lwg_at 567 (by decide +kernel) rfl, ⟨by decide +kernel, by decide +kernel, by decide +kernel⟩⟩
-- X0_heightDigits ('RookWords$Board', 'heightDigits', '()I')
def rmX0_heightDigits : RM := ((2, 41, 0, 0), false, (some FieldType.int))
def f_X0_heightDigits_b4 (N : Nat) (a0 : Nat) (v1 : Int32) (v2 : Int32) (I : MI) : Option ((Int32 × Int32) ⊕ (Int32)) := (if v2 < (I a0 0) then bnd1 (f_X0_height a0 v2 I) fun r2 => some (.inl ((v1 * 10) + r2, v2 + 1)) else some (.inr v1))
set_option maxRecDepth 100000 in
set_option maxHeartbeats 4000000 in
theorem k_X0_heightDigits_b4 {G : GX} {Q : State → Prop} {X : MX} {a0 : Nat} (h0 : shX0 X a0) {v1 : Int32} {v2 : Int32} {N : Nat} {I : MI} {L : ML} {out : (Int32 × Int32) ⊕ (Int32)} (hf : f_X0_heightDigits_b4 N a0 v1 v2 I = some out) (hC : ∀ (v1' : Int32) (v2' : Int32), out = .inl (v1', v2') → Ex G mX0_heightDigits rmX0_heightDigits Q (0, 0) X I L 4 [(0, .ref (gB G + a0)), (1, .int v1'), (2, .int v2')] []) (hX : ∀ (w1 : Int32), out = .inr w1 → Ex G mX0_heightDigits rmX0_heightDigits Q (0, 0) X I L 29 [(1, .int w1)] []) : Ex G mX0_heightDigits rmX0_heightDigits Q (0, 0) X I L 4 [(0, .ref (gB G + a0)), (1, .int v1), (2, .int v2)] [] := by
  unfold f_X0_heightDigits_b4 at hf
  refine ex_iload_n 2 (pc' := 5) dX0_heightDigits_4 rfl rfl rfl ?_
  refine ex_aload_n 0 (pc' := 6) dX0_heightDigits_5 rfl rfl rfl ?_
  refine ex_getI (pc' := 9) dX0_heightDigits_6 fl_X0_11 rfl (sh0_k h0) rfl ?_
  refine ex_icmpge (tgt := 29) (pc' := 12) dX0_heightDigits_9 (by decide) rfl (fun hc1 => ?_) (fun hc1 => ?_)
  · replace hf := if_t hc1 hf
    refine ex_iload_n 1 (pc' := 13) dX0_heightDigits_12 rfl rfl rfl ?_
    refine ex_bipush (v := 10) (pc' := 15) dX0_heightDigits_13 bp_10 rfl ?_
    refine ex_imul (pc' := 16) dX0_heightDigits_15 rfl ?_
    refine ex_aload_n 0 (pc' := 17) dX0_heightDigits_16 rfl rfl rfl ?_
    refine ex_iload_n 2 (pc' := 18) dX0_heightDigits_17 rfl rfl rfl ?_
    obtain ⟨r2, hq3, hf⟩ := of_bnd1 hf
    refine ex_callV_i (rm' := rmX0_height) (st := [.int (v1 * 10)]) (pc' := 21) [.int v2] dX0_heightDigits_18 cl_X0_73 (k_X0_height G h0 hq3) rfl (sh0_k h0) ⟨_, _, rfl⟩ rfl rfl (ROOM_of rfl) (Nat.le_of_ble_eq_true rfl) rfl rfl ?_
    refine ex_iadd (pc' := 22) dX0_heightDigits_21 rfl ?_
    refine ex_istore_n (lv' := [(1, .int ((v1 * 10) + r2)), (0, .ref (gB G + a0)), (2, .int v2)]) (pc' := 23) dX0_heightDigits_22 rfl (Nat.le_of_ble_eq_true rfl) rfl rfl ?_
    refine ex_iincc (lv' := [(2, .int (v2 + 1)), (1, .int ((v1 * 10) + r2)), (0, .ref (gB G + a0))]) 2 (pc' := 26) dX0_heightDigits_23 rfl ic_1 (Nat.le_of_ble_eq_true rfl) rfl rfl ?_
    refine ex_goto (tgt := 4) dX0_heightDigits_26 (by decide) ?_
    exact ex_sub [2, 1, 0] rfl (hC _ _ (Option.some.inj hf).symm)
  · replace hf := if_f hc1 hf
    exact ex_sub [1] rfl (hX _ (Option.some.inj hf).symm)
def f_X0_heightDigits_l4 (N : Nat) (a0 : Nat) (v1 : Int32) (v2 : Int32) (I : MI) : Option (Int32) := loopN (fun s => f_X0_heightDigits_b4 N a0 s.1 s.2 I) N (v1, v2)
set_option maxRecDepth 100000 in
set_option maxHeartbeats 4000000 in
theorem k_X0_heightDigits_l4 {G : GX} {Q : State → Prop} {X : MX} {a0 : Nat} (h0 : shX0 X a0) {N0 : Nat} {I : MI} {L : ML} {out : (Int32)} (hX : ∀ (w1 : Int32), out = w1 → Ex G mX0_heightDigits rmX0_heightDigits Q (0, 0) X I L 29 [(1, .int w1)] []) : ∀ (N : Nat) (v1 : Int32) (v2 : Int32), loopN (fun s => f_X0_heightDigits_b4 N0 a0 s.1 s.2 I) N (v1, v2) = some out → Ex G mX0_heightDigits rmX0_heightDigits Q (0, 0) X I L 4 [(0, .ref (gB G + a0)), (1, .int v1), (2, .int v2)] [] := by
  intro N
  induction N with
  | zero => intro v1 v2 hf; exact absurd (loopN_zero hf) id
  | succ n ih =>
    intro v1 v2 hf
    rcases loopN_succ hf with ⟨s, hb, hl⟩ | hb
    · obtain ⟨v1', v2'⟩ := s
      refine k_X0_heightDigits_b4 h0 hb (fun _ _ he => ?_) (fun _ he => by cases he)
      cases he
      exact ih v1' v2' hl
    · exact k_X0_heightDigits_b4 h0 hb (fun _ _ he => by cases he) (fun x0 he => hX x0 (Sum.inr.inj he))
def f_X0_heightDigits (N : Nat) (a0 : Nat) (I : MI) : Option (Int32) := bnd1 (f_X0_heightDigits_l4 N a0 0 0 I) fun x4 => some x4
set_option maxRecDepth 100000 in
set_option maxHeartbeats 4000000 in
theorem kb_X0_heightDigits {G : GX} {Q : State → Prop} {X : MX} {a0 : Nat} (h0 : shX0 X a0) {N : Nat} {I : MI} {L : ML} {out : Int32} (hf : f_X0_heightDigits N a0 I = some out) (hR : ∀ (z : Int32), out = z → Q = RetQ G (some (.int z)) X I L (0, 0)) : Ex G mX0_heightDigits rmX0_heightDigits Q (0, 0) X I L 0 [(0, .ref (gB G + a0))] [] := by
  unfold f_X0_heightDigits at hf
  refine ex_iconst (v := 0) (pc' := 1) dX0_heightDigits_0 ic_0 rfl ?_
  refine ex_istore_n (lv' := [(1, .int 0), (0, .ref (gB G + a0))]) (pc' := 2) dX0_heightDigits_1 rfl (Nat.le_of_ble_eq_true rfl) rfl rfl ?_
  refine ex_iconst (v := 0) (pc' := 3) dX0_heightDigits_2 ic_0 rfl ?_
  refine ex_istore_n (lv' := [(2, .int 0), (1, .int 0), (0, .ref (gB G + a0))]) (pc' := 4) dX0_heightDigits_3 rfl (Nat.le_of_ble_eq_true rfl) rfl rfl ?_
  refine ex_sub (lv' := [(0, .ref (gB G + a0)), (1, .int 0), (2, .int 0)]) [2, 1, 0] rfl ?_
  obtain ⟨x4, hq5, hf⟩ := of_bnd1 hf
  refine k_X0_heightDigits_l4 h0 (fun x4' he => ?_) _ _ _ hq5
  cases he
  refine ex_iload_n 0 (pc' := 30) dX0_heightDigits_29 rfl rfl rfl ?_
  exact ex_iret dX0_heightDigits_30 rfl (hR _ (Option.some.inj hf).symm)
set_option maxRecDepth 100000 in
set_option maxHeartbeats 4000000 in
theorem k_X0_heightDigits (G : GX) {X : MX} {a0 : Nat} (h0 : shX0 X a0) {N : Nat} {I : MI} {L : ML} {z : Int32} (hf : f_X0_heightDigits N a0 I = some z) : Con G mX0_heightDigits yX0_heightDigits rmX0_heightDigits (fun B => [.ref (B + a0)]) X I L (some (.int z)) X I L :=
  Con.of (by decide) rfl (fun h => by cases h) (fun B => Nat.le_of_ble_eq_true rfl) (fun G => kb_X0_heightDigits h0 hf (fun _ he => by cases he; rfl))
-- X0_isPlace ('RookWords$Board', 'isPlace', '(II)Z')
def rmX0_isPlace : RM := ((0, 0, 0, 0), false, (some FieldType.boolean))
def f_X0_isPlace (a0 : Nat) (v1 : Int32) (v2 : Int32) (I : MI) : Option (Int32) := (if v1 < 0 then some 0 else (if v1 < (I a0 0) then (if v2 < 0 then some 0 else (if v2 < (I a0 0) then some 1 else some 0)) else some 0))
set_option maxRecDepth 100000 in
set_option maxHeartbeats 4000000 in
theorem kb_X0_isPlace {G : GX} {Q : State → Prop} {X : MX} {a0 : Nat} {v1 : Int32} {v2 : Int32} (h0 : shX0 X a0) {I : MI} {L : ML} {out : Int32} (hf : f_X0_isPlace a0 v1 v2 I = some out) (hR : ∀ (z : Int32), out = z → Q = RetQ G (some (.int z)) X I L (0, 0)) : Ex G mX0_isPlace rmX0_isPlace Q (0, 0) X I L 0 [(0, .ref (gB G + a0)), (1, .int v1), (2, .int v2)] [] := by
  unfold f_X0_isPlace at hf
  refine ex_iload_n 1 (pc' := 1) dX0_isPlace_0 rfl rfl rfl ?_
  refine ex_iflt (tgt := 28) (pc' := 4) dX0_isPlace_1 (by decide) rfl (fun hc1 => ?_) (fun hc1 => ?_)
  · replace hf := if_t hc1 hf
    refine ex_iconst (v := 0) (pc' := 29) dX0_isPlace_28 ic_0 rfl ?_
    exact ex_zret dX0_isPlace_29 rfl (Or.inl rfl) (hR _ (Option.some.inj hf).symm)
  · replace hf := if_f hc1 hf
    refine ex_iload_n 1 (pc' := 5) dX0_isPlace_4 rfl rfl rfl ?_
    refine ex_aload_n 0 (pc' := 6) dX0_isPlace_5 rfl rfl rfl ?_
    refine ex_getI (pc' := 9) dX0_isPlace_6 fl_X0_11 rfl (sh0_k h0) rfl ?_
    refine ex_icmpge (tgt := 28) (pc' := 12) dX0_isPlace_9 (by decide) rfl (fun hc2 => ?_) (fun hc2 => ?_)
    · replace hf := if_t hc2 hf
      refine ex_iload_n 2 (pc' := 13) dX0_isPlace_12 rfl rfl rfl ?_
      refine ex_iflt (tgt := 28) (pc' := 16) dX0_isPlace_13 (by decide) rfl (fun hc3 => ?_) (fun hc3 => ?_)
      · replace hf := if_t hc3 hf
        refine ex_iconst (v := 0) (pc' := 29) dX0_isPlace_28 ic_0 rfl ?_
        exact ex_zret dX0_isPlace_29 rfl (Or.inl rfl) (hR _ (Option.some.inj hf).symm)
      · replace hf := if_f hc3 hf
        refine ex_iload_n 2 (pc' := 17) dX0_isPlace_16 rfl rfl rfl ?_
        refine ex_aload_n 0 (pc' := 18) dX0_isPlace_17 rfl rfl rfl ?_
        refine ex_getI (pc' := 21) dX0_isPlace_18 fl_X0_11 rfl (sh0_k h0) rfl ?_
        refine ex_icmpge (tgt := 28) (pc' := 24) dX0_isPlace_21 (by decide) rfl (fun hc4 => ?_) (fun hc4 => ?_)
        · replace hf := if_t hc4 hf
          refine ex_iconst (v := 1) (pc' := 25) dX0_isPlace_24 ic_1 rfl ?_
          refine ex_goto (tgt := 29) dX0_isPlace_25 (by decide) ?_
          exact ex_zret dX0_isPlace_29 rfl (Or.inr rfl) (hR _ (Option.some.inj hf).symm)
        · replace hf := if_f hc4 hf
          refine ex_iconst (v := 0) (pc' := 29) dX0_isPlace_28 ic_0 rfl ?_
          exact ex_zret dX0_isPlace_29 rfl (Or.inl rfl) (hR _ (Option.some.inj hf).symm)
    · replace hf := if_f hc2 hf
      refine ex_iconst (v := 0) (pc' := 29) dX0_isPlace_28 ic_0 rfl ?_
      exact ex_zret dX0_isPlace_29 rfl (Or.inl rfl) (hR _ (Option.some.inj hf).symm)
set_option maxRecDepth 100000 in
set_option maxHeartbeats 4000000 in
theorem k_X0_isPlace (G : GX) {X : MX} {a0 : Nat} {v1 : Int32} {v2 : Int32} (h0 : shX0 X a0) {I : MI} {L : ML} {z : Int32} (hf : f_X0_isPlace a0 v1 v2 I = some z) : Con G mX0_isPlace yX0_isPlace rmX0_isPlace (fun B => [.ref (B + a0), .int v1, .int v2]) X I L (some (.int z)) X I L :=
  Con.of (by decide) rfl (fun h => by cases h) (fun B => Nat.le_of_ble_eq_true rfl) (fun G => kb_X0_isPlace h0 hf (fun _ he => by cases he; rfl))
-- X0_isSteps ('RookWords$Board', 'isSteps', '()Z')
def rmX0_isSteps : RM := ((2, 41, 0, 0), false, (some FieldType.boolean))
def f_X0_isSteps_b4 (N : Nat) (a0 : Nat) (v1 : Int32) (v2 : Int32) (I : MI) : Option ((Int32 × Int32) ⊕ ((Unit) ⊕ (Int32))) := (if v2 < (I a0 0) then bnd1 (f_X0_height a0 v2 I) fun r2 => (if r2 < v1 then some (.inr (.inr 0)) else if inb v2 6 then (if (I (a0 + 1) (Int32.toNatClampNeg v2)) = ((jshl 1 r2) - 1) then some (.inl (r2, v2 + 1)) else some (.inr (.inr 0))) else none) else some (.inr (.inl ())))
set_option maxRecDepth 100000 in
set_option maxHeartbeats 4000000 in
theorem k_X0_isSteps_b4 {G : GX} {Q : State → Prop} {X : MX} {a0 : Nat} (h0 : shX0 X a0) {v1 : Int32} {v2 : Int32} {N : Nat} {I : MI} {L : ML} {out : (Int32 × Int32) ⊕ ((Unit) ⊕ (Int32))} (hf : f_X0_isSteps_b4 N a0 v1 v2 I = some out) (hC : ∀ (v1' : Int32) (v2' : Int32), out = .inl (v1', v2') → Ex G mX0_isSteps rmX0_isSteps Q (0, 0) X I L 4 [(0, .ref (gB G + a0)), (1, .int v1'), (2, .int v2')] []) (hX : ∀ (u : Unit), out = .inr (.inl u) → Ex G mX0_isSteps rmX0_isSteps Q (0, 0) X I L 47 [] []) (hR : ∀ (z : Int32), out = .inr (.inr z) → Q = RetQ G (some (.int z)) X I L (0, 0)) : Ex G mX0_isSteps rmX0_isSteps Q (0, 0) X I L 4 [(0, .ref (gB G + a0)), (1, .int v1), (2, .int v2)] [] := by
  unfold f_X0_isSteps_b4 at hf
  refine ex_iload_n 2 (pc' := 5) dX0_isSteps_4 rfl rfl rfl ?_
  refine ex_aload_n 0 (pc' := 6) dX0_isSteps_5 rfl rfl rfl ?_
  refine ex_getI (pc' := 9) dX0_isSteps_6 fl_X0_11 rfl (sh0_k h0) rfl ?_
  refine ex_icmpge (tgt := 47) (pc' := 12) dX0_isSteps_9 (by decide) rfl (fun hc1 => ?_) (fun hc1 => ?_)
  · replace hf := if_t hc1 hf
    refine ex_aload_n 0 (pc' := 13) dX0_isSteps_12 rfl rfl rfl ?_
    refine ex_iload_n 2 (pc' := 14) dX0_isSteps_13 rfl rfl rfl ?_
    obtain ⟨r2, hq3, hf⟩ := of_bnd1 hf
    refine ex_callV_i (rm' := rmX0_height) (st := []) (pc' := 17) [.int v2] dX0_isSteps_14 cl_X0_73 (k_X0_height G h0 hq3) rfl (sh0_k h0) ⟨_, _, rfl⟩ rfl rfl (ROOM_of rfl) (Nat.le_of_ble_eq_true rfl) rfl rfl ?_
    refine ex_istore_n (lv' := [(3, .int r2), (0, .ref (gB G + a0)), (1, .int v1), (2, .int v2)]) (pc' := 18) dX0_isSteps_17 rfl (Nat.le_of_ble_eq_true rfl) rfl rfl ?_
    refine ex_iload_n 0 (pc' := 19) dX0_isSteps_18 rfl rfl rfl ?_
    refine ex_iload_n 2 (pc' := 20) dX0_isSteps_19 rfl rfl rfl ?_
    refine ex_icmplt (tgt := 37) (pc' := 23) dX0_isSteps_20 (by decide) rfl (fun hc4 => ?_) (fun hc4 => ?_)
    · replace hf := if_t hc4 hf
      refine ex_iconst (v := 0) (pc' := 38) dX0_isSteps_37 ic_0 rfl ?_
      exact ex_zret dX0_isSteps_38 rfl (Or.inl rfl) (hR _ (Option.some.inj hf).symm)
    · replace hf := if_f hc4 hf
      refine ex_aload_n 1 (pc' := 24) dX0_isSteps_23 rfl rfl rfl ?_
      refine ex_getR (pc' := 27) dX0_isSteps_24 fl_X0_15 rfl (sh0_k h0) (sh0_F1 h0) rfl ?_
      refine ex_iload_n 3 (pc' := 28) dX0_isSteps_27 rfl rfl rfl ?_
      obtain ⟨hg5, hf⟩ := of_guard hf
      refine ex_iald (pc' := 29) dX0_isSteps_28 (sh0_T1 h0) (inb_in hg5) rfl ?_
      refine ex_iconst (v := 1) (pc' := 30) dX0_isSteps_29 ic_1 rfl ?_
      refine ex_iload_n 0 (pc' := 31) dX0_isSteps_30 rfl rfl rfl ?_
      refine ex_ishl (pc' := 32) dX0_isSteps_31 rfl ?_
      refine ex_iconst (v := 1) (pc' := 33) dX0_isSteps_32 ic_1 rfl ?_
      refine ex_isub (pc' := 34) dX0_isSteps_33 rfl ?_
      refine ex_icmpeq (tgt := 39) (pc' := 37) dX0_isSteps_34 (by decide) rfl (fun hc6 => ?_) (fun hc6 => ?_)
      · replace hf := if_t hc6 hf
        refine ex_iload_n 0 (pc' := 40) dX0_isSteps_39 rfl rfl rfl ?_
        refine ex_istore_n (lv' := [(1, .int r2), (3, .int r2), (0, .ref (gB G + a0)), (2, .int v2)]) (pc' := 41) dX0_isSteps_40 rfl (Nat.le_of_ble_eq_true rfl) rfl rfl ?_
        refine ex_iincc (lv' := [(2, .int (v2 + 1)), (1, .int r2), (3, .int r2), (0, .ref (gB G + a0))]) 3 (pc' := 44) dX0_isSteps_41 rfl ic_1 (Nat.le_of_ble_eq_true rfl) rfl rfl ?_
        refine ex_goto (tgt := 4) dX0_isSteps_44 (by decide) ?_
        exact ex_sub [3, 1, 0] rfl (hC _ _ (Option.some.inj hf).symm)
      · replace hf := if_f hc6 hf
        refine ex_iconst (v := 0) (pc' := 38) dX0_isSteps_37 ic_0 rfl ?_
        exact ex_zret dX0_isSteps_38 rfl (Or.inl rfl) (hR _ (Option.some.inj hf).symm)
  · replace hf := if_f hc1 hf
    exact ex_sub [] rfl (hX _ (Option.some.inj hf).symm)
def f_X0_isSteps_l4 (N : Nat) (a0 : Nat) (v1 : Int32) (v2 : Int32) (I : MI) : Option ((Unit) ⊕ (Int32)) := loopN (fun s => f_X0_isSteps_b4 N a0 s.1 s.2 I) N (v1, v2)
set_option maxRecDepth 100000 in
set_option maxHeartbeats 4000000 in
theorem k_X0_isSteps_l4 {G : GX} {Q : State → Prop} {X : MX} {a0 : Nat} (h0 : shX0 X a0) {N0 : Nat} {I : MI} {L : ML} {out : ((Unit) ⊕ (Int32))} (hX : ∀ (u : Unit), out = .inl u → Ex G mX0_isSteps rmX0_isSteps Q (0, 0) X I L 47 [] []) (hR : ∀ (z : Int32), out = .inr z → Q = RetQ G (some (.int z)) X I L (0, 0)) : ∀ (N : Nat) (v1 : Int32) (v2 : Int32), loopN (fun s => f_X0_isSteps_b4 N0 a0 s.1 s.2 I) N (v1, v2) = some out → Ex G mX0_isSteps rmX0_isSteps Q (0, 0) X I L 4 [(0, .ref (gB G + a0)), (1, .int v1), (2, .int v2)] [] := by
  intro N
  induction N with
  | zero => intro v1 v2 hf; exact absurd (loopN_zero hf) id
  | succ n ih =>
    intro v1 v2 hf
    rcases loopN_succ hf with ⟨s, hb, hl⟩ | hb
    · obtain ⟨v1', v2'⟩ := s
      refine k_X0_isSteps_b4 h0 hb (fun _ _ he => ?_) (fun _ he => by cases he) (fun _ he => by cases he)
      cases he
      exact ih v1' v2' hl
    · exact k_X0_isSteps_b4 h0 hb (fun _ _ he => by cases he) (fun x0 he => hX x0 (Sum.inr.inj he)) (fun z0 he => hR z0 (Sum.inr.inj he))
def f_X0_isSteps (N : Nat) (a0 : Nat) (I : MI) : Option (Int32) := bns1 (f_X0_isSteps_l4 N a0 0 0 I) (fun u7 => some 1) (fun q9 => some q9)
set_option maxRecDepth 100000 in
set_option maxHeartbeats 4000000 in
theorem kb_X0_isSteps {G : GX} {Q : State → Prop} {X : MX} {a0 : Nat} (h0 : shX0 X a0) {N : Nat} {I : MI} {L : ML} {out : Int32} (hf : f_X0_isSteps N a0 I = some out) (hR : ∀ (z : Int32), out = z → Q = RetQ G (some (.int z)) X I L (0, 0)) : Ex G mX0_isSteps rmX0_isSteps Q (0, 0) X I L 0 [(0, .ref (gB G + a0))] [] := by
  unfold f_X0_isSteps at hf
  refine ex_iconst (v := 0) (pc' := 1) dX0_isSteps_0 ic_0 rfl ?_
  refine ex_istore_n (lv' := [(1, .int 0), (0, .ref (gB G + a0))]) (pc' := 2) dX0_isSteps_1 rfl (Nat.le_of_ble_eq_true rfl) rfl rfl ?_
  refine ex_iconst (v := 0) (pc' := 3) dX0_isSteps_2 ic_0 rfl ?_
  refine ex_istore_n (lv' := [(2, .int 0), (1, .int 0), (0, .ref (gB G + a0))]) (pc' := 4) dX0_isSteps_3 rfl (Nat.le_of_ble_eq_true rfl) rfl rfl ?_
  refine ex_sub (lv' := [(0, .ref (gB G + a0)), (1, .int 0), (2, .int 0)]) [2, 1, 0] rfl ?_
  rcases of_bns1 hf with ⟨u7, hq8, hf⟩ | ⟨q9, hq8, hf⟩
  · refine k_X0_isSteps_l4 h0 (fun u7' he => ?_) (fun _ he => by cases he) _ _ _ hq8
    cases he
    refine ex_iconst (v := 1) (pc' := 48) dX0_isSteps_47 ic_1 rfl ?_
    exact ex_zret dX0_isSteps_48 rfl (Or.inr rfl) (hR _ (Option.some.inj hf).symm)
  · refine k_X0_isSteps_l4 h0 (fun _ he => by cases he) (fun z0 he => ?_) _ _ _ hq8
    refine hR _ ?_
    rw [← Option.some.inj hf]
    cases he
    rfl
set_option maxRecDepth 100000 in
set_option maxHeartbeats 4000000 in
theorem k_X0_isSteps (G : GX) {X : MX} {a0 : Nat} (h0 : shX0 X a0) {N : Nat} {I : MI} {L : ML} {z : Int32} (hf : f_X0_isSteps N a0 I = some z) : Con G mX0_isSteps yX0_isSteps rmX0_isSteps (fun B => [.ref (B + a0)]) X I L (some (.int z)) X I L :=
  Con.of (by decide) rfl (fun h => by cases h) (fun B => Nat.le_of_ble_eq_true rfl) (fun G => kb_X0_isSteps h0 hf (fun _ he => by cases he; rfl))
theorem fl_X1_11 : FLD RX1 11 1 0 true := ⟨RX1, TX1, 5, rfl, inX1, by decide, lwg_at 177 (by decide +kernel) rfl, nmX1, tyX1_ok, rfl, rfl⟩
theorem bp_9 : (Int8.ofInt 9).toInt32 = 9 := by decide
theorem cl_X1_31 : CPW RX1 31 := ⟨lwg_at 486 (by decide +kernel) rfl, lwg_at 413 (by decide +kernel) rfl, lwg_at 412 (by decide +kernel) rfl, lwg_at 63 (by decide +kernel) rfl⟩
theorem fl_X1_15 : FLD RX1 15 1 1 true := ⟨RX1, TX1, 5, rfl, inX1, by decide, lwg_at 178 (by decide +kernel) rfl, nmX1, tyX1_ok, rfl, rfl⟩
theorem fl_X1_18 : FLD RX1 18 1 2 true := ⟨RX1, TX1, 5, rfl, inX1, by decide, lwg_at 179 (by decide +kernel) rfl, nmX1, tyX1_ok, rfl, rfl⟩
theorem fl_X1_21 : FLD RX1 21 1 3 true := ⟨RX1, TX1, 5, rfl, inX1, by decide, lwg_at 180 (by decide +kernel) rfl, nmX1, tyX1_ok, rfl, rfl⟩
theorem fl_X1_24 : FLD RX1 24 1 4 false := ⟨RX1, TX1, 5, rfl, inX1, by decide, lwg_at 181 (by decide +kernel) rfl, nmX1, tyX1_ok, rfl, rfl⟩
-- X1_dropOldest ('RookWords$Changes', 'dropOldest', '()V')
def rmX1_dropOldest : RM := ((1, 26, 0, 0), false, none)
def f_X1_dropOldest  (I : MI) : Option (MI) := if cpok 1 0 9 10 10 then letv (cpI I 68 68 (Int32.toNatClampNeg 1) (Int32.toNatClampNeg 0) (Int32.toNatClampNeg 9)) fun I2 => if cpok 1 0 9 10 10 then letv (cpI I2 69 69 (Int32.toNatClampNeg 1) (Int32.toNatClampNeg 0) (Int32.toNatClampNeg 9)) fun I4 => if cpok 1 0 9 10 10 then letv (cpI I4 70 70 (Int32.toNatClampNeg 1) (Int32.toNatClampNeg 0) (Int32.toNatClampNeg 9)) fun I6 => if cpok 1 0 9 10 10 then letv (cpI I6 71 71 (Int32.toNatClampNeg 1) (Int32.toNatClampNeg 0) (Int32.toNatClampNeg 9)) fun I8 => letv (upI I8 67 4 9) fun I9 => some I9 else none else none else none else none
set_option maxRecDepth 100000 in
set_option maxHeartbeats 4000000 in
theorem kb_X1_dropOldest {G : GX} {Q : State → Prop} {X : MX} (hM : shX10 X)   {I : MI} {L : ML} {out : MI} (hf : f_X1_dropOldest I = some out) (hR : ∀ (I' : MI), out = I' → Q = RetQ G none X I' L (0, 0)) : Ex G mX1_dropOldest rmX1_dropOldest Q (0, 0) X I L 0 [(0, .ref (gB G + 67))] [] := by
  unfold f_X1_dropOldest at hf
  refine ex_aload_n 0 (pc' := 1) dX1_dropOldest_0 rfl rfl rfl ?_
  refine ex_getR (pc' := 4) dX1_dropOldest_1 fl_X1_11 rfl (sh1_k (sh10_T3 hM)) (sh1_F0 (sh10_T3 hM)) rfl ?_
  refine ex_iconst (v := 1) (pc' := 5) dX1_dropOldest_4 ic_1 rfl ?_
  refine ex_aload_n 0 (pc' := 6) dX1_dropOldest_5 rfl rfl rfl ?_
  refine ex_getR (pc' := 9) dX1_dropOldest_6 fl_X1_11 rfl (sh1_k (sh10_T3 hM)) (sh1_F0 (sh10_T3 hM)) rfl ?_
  refine ex_iconst (v := 0) (pc' := 10) dX1_dropOldest_9 ic_0 rfl ?_
  refine ex_bipush (v := 9) (pc' := 12) dX1_dropOldest_10 bp_9 rfl ?_
  obtain ⟨hg1, hf⟩ := of_guard hf
  refine ex_copyI (pc' := 15) dX1_dropOldest_12 cl_X1_31 (sh1_T0 (sh10_T3 hM)) (sh1_T0 (sh10_T3 hM)) (cpok_ok hg1) ⟨Nat.le_of_ble_eq_true rfl, Nat.le_of_ble_eq_true rfl⟩ rfl ?_
  obtain ⟨I2, hI2, hf⟩ := of_let hf
  rw [← hI2]
  refine ex_aload_n 0 (pc' := 16) dX1_dropOldest_15 rfl rfl rfl ?_
  refine ex_getR (pc' := 19) dX1_dropOldest_16 fl_X1_15 rfl (sh1_k (sh10_T3 hM)) (sh1_F1 (sh10_T3 hM)) rfl ?_
  refine ex_iconst (v := 1) (pc' := 20) dX1_dropOldest_19 ic_1 rfl ?_
  refine ex_aload_n 0 (pc' := 21) dX1_dropOldest_20 rfl rfl rfl ?_
  refine ex_getR (pc' := 24) dX1_dropOldest_21 fl_X1_15 rfl (sh1_k (sh10_T3 hM)) (sh1_F1 (sh10_T3 hM)) rfl ?_
  refine ex_iconst (v := 0) (pc' := 25) dX1_dropOldest_24 ic_0 rfl ?_
  refine ex_bipush (v := 9) (pc' := 27) dX1_dropOldest_25 bp_9 rfl ?_
  obtain ⟨hg3, hf⟩ := of_guard hf
  refine ex_copyI (pc' := 30) dX1_dropOldest_27 cl_X1_31 (sh1_T1 (sh10_T3 hM)) (sh1_T1 (sh10_T3 hM)) (cpok_ok hg3) ⟨Nat.le_of_ble_eq_true rfl, Nat.le_of_ble_eq_true rfl⟩ rfl ?_
  obtain ⟨I4, hI4, hf⟩ := of_let hf
  rw [← hI4]
  refine ex_aload_n 0 (pc' := 31) dX1_dropOldest_30 rfl rfl rfl ?_
  refine ex_getR (pc' := 34) dX1_dropOldest_31 fl_X1_18 rfl (sh1_k (sh10_T3 hM)) (sh1_F2 (sh10_T3 hM)) rfl ?_
  refine ex_iconst (v := 1) (pc' := 35) dX1_dropOldest_34 ic_1 rfl ?_
  refine ex_aload_n 0 (pc' := 36) dX1_dropOldest_35 rfl rfl rfl ?_
  refine ex_getR (pc' := 39) dX1_dropOldest_36 fl_X1_18 rfl (sh1_k (sh10_T3 hM)) (sh1_F2 (sh10_T3 hM)) rfl ?_
  refine ex_iconst (v := 0) (pc' := 40) dX1_dropOldest_39 ic_0 rfl ?_
  refine ex_bipush (v := 9) (pc' := 42) dX1_dropOldest_40 bp_9 rfl ?_
  obtain ⟨hg5, hf⟩ := of_guard hf
  refine ex_copyI (pc' := 45) dX1_dropOldest_42 cl_X1_31 (sh1_T2 (sh10_T3 hM)) (sh1_T2 (sh10_T3 hM)) (cpok_ok hg5) ⟨Nat.le_of_ble_eq_true rfl, Nat.le_of_ble_eq_true rfl⟩ rfl ?_
  obtain ⟨I6, hI6, hf⟩ := of_let hf
  rw [← hI6]
  refine ex_aload_n 0 (pc' := 46) dX1_dropOldest_45 rfl rfl rfl ?_
  refine ex_getR (pc' := 49) dX1_dropOldest_46 fl_X1_21 rfl (sh1_k (sh10_T3 hM)) (sh1_F3 (sh10_T3 hM)) rfl ?_
  refine ex_iconst (v := 1) (pc' := 50) dX1_dropOldest_49 ic_1 rfl ?_
  refine ex_aload_n 0 (pc' := 51) dX1_dropOldest_50 rfl rfl rfl ?_
  refine ex_getR (pc' := 54) dX1_dropOldest_51 fl_X1_21 rfl (sh1_k (sh10_T3 hM)) (sh1_F3 (sh10_T3 hM)) rfl ?_
  refine ex_iconst (v := 0) (pc' := 55) dX1_dropOldest_54 ic_0 rfl ?_
  refine ex_bipush (v := 9) (pc' := 57) dX1_dropOldest_55 bp_9 rfl ?_
  obtain ⟨hg7, hf⟩ := of_guard hf
  refine ex_copyI (pc' := 60) dX1_dropOldest_57 cl_X1_31 (sh1_T3 (sh10_T3 hM)) (sh1_T3 (sh10_T3 hM)) (cpok_ok hg7) ⟨Nat.le_of_ble_eq_true rfl, Nat.le_of_ble_eq_true rfl⟩ rfl ?_
  obtain ⟨I8, hI8, hf⟩ := of_let hf
  rw [← hI8]
  refine ex_aload_n 0 (pc' := 61) dX1_dropOldest_60 rfl rfl rfl ?_
  refine ex_bipush (v := 9) (pc' := 63) dX1_dropOldest_61 bp_9 rfl ?_
  refine ex_putI (pc' := 66) dX1_dropOldest_63 fl_X1_24 rfl (sh1_k (sh10_T3 hM)) rfl ?_
  obtain ⟨I9, hI9, hf⟩ := of_let hf
  rw [← hI9]
  exact ex_vret dX1_dropOldest_66 rfl (hR _ (Option.some.inj hf).symm)
set_option maxRecDepth 100000 in
set_option maxHeartbeats 4000000 in
theorem k_X1_dropOldest (G : GX) {X : MX} (hM : shX10 X)   {I : MI} {L : ML} {I' : MI} (hf : f_X1_dropOldest I = some I') : Con G mX1_dropOldest yX1_dropOldest rmX1_dropOldest (fun B => [.ref (B + 67)]) X I L none X I' L :=
  Con.of (by decide) rfl (fun h => by cases h) (fun B => Nat.le_of_ble_eq_true rfl) (fun G => kb_X1_dropOldest hM  hf (fun _ he => by cases he; rfl))
-- X1_forget ('RookWords$Changes', 'forget', '()V')
def rmX1_forget : RM := ((0, 0, 0, 0), false, none)
def f_X1_forget  (I : MI) : Option (MI) := letv (upI I 67 4 0) fun I1 => some I1
set_option maxRecDepth 100000 in
set_option maxHeartbeats 4000000 in
theorem kb_X1_forget {G : GX} {Q : State → Prop} {X : MX} (hM : shX10 X)   {I : MI} {L : ML} {out : MI} (hf : f_X1_forget I = some out) (hR : ∀ (I' : MI), out = I' → Q = RetQ G none X I' L (0, 0)) : Ex G mX1_forget rmX1_forget Q (0, 0) X I L 0 [(0, .ref (gB G + 67))] [] := by
  unfold f_X1_forget at hf
  refine ex_aload_n 0 (pc' := 1) dX1_forget_0 rfl rfl rfl ?_
  refine ex_iconst (v := 0) (pc' := 2) dX1_forget_1 ic_0 rfl ?_
  refine ex_putI (pc' := 5) dX1_forget_2 fl_X1_24 rfl (sh1_k (sh10_T3 hM)) rfl ?_
  obtain ⟨I1, hI1, hf⟩ := of_let hf
  rw [← hI1]
  exact ex_vret dX1_forget_5 rfl (hR _ (Option.some.inj hf).symm)
set_option maxRecDepth 100000 in
set_option maxHeartbeats 4000000 in
theorem k_X1_forget (G : GX) {X : MX} (hM : shX10 X)   {I : MI} {L : ML} {I' : MI} (hf : f_X1_forget I = some I') : Con G mX1_forget yX1_forget rmX1_forget (fun B => [.ref (B + 67)]) X I L none X I' L :=
  Con.of (by decide) rfl (fun h => by cases h) (fun B => Nat.le_of_ble_eq_true rfl) (fun G => kb_X1_forget hM  hf (fun _ he => by cases he; rfl))
theorem cl_X1_28 : CLV RX1 28 yX1_dropOldest mX1_dropOldest none 0 := ⟨⟨lwg_at 482 (by decide +kernel) rfl, lwg_at 484 (by decide +kernel) rfl, lwg_at 6 (by decide +kernel) rfl, lwg_at 56 (by decide +kernel) rfl⟩, lwg_at 485 (by decide +kernel) rfl, ⟨by decide +kernel, by decide +kernel, by decide +kernel⟩⟩
-- X1_keep ('RookWords$Changes', 'keep', '(IIII)V')
def rmX1_keep : RM := ((2, 46, 0, 0), false, none)
def f_X1_keep_j13 (v1 : Int32) (v2 : Int32) (v3 : Int32) (v4 : Int32) (I : MI) : Option (MI) := if inb (I 67 4) 10 then letv (upI I 68 (Int32.toNatClampNeg (I 67 4)) v1) fun I3 => if inb (I3 67 4) 10 then letv (upI I3 69 (Int32.toNatClampNeg (I3 67 4)) v2) fun I5 => if inb (I5 67 4) 10 then letv (upI I5 70 (Int32.toNatClampNeg (I5 67 4)) v3) fun I7 => if inb (I7 67 4) 10 then letv (upI I7 71 (Int32.toNatClampNeg (I7 67 4)) v4) fun I9 => letv (upI I9 67 4 ((I9 67 4) + 1)) fun I10 => some I10 else none else none else none else none
set_option maxRecDepth 100000 in
set_option maxHeartbeats 4000000 in
theorem k_X1_keep_j13 {G : GX} {Q : State → Prop} {X : MX} (hM : shX10 X) {v1 : Int32} {v2 : Int32} {v3 : Int32} {v4 : Int32}  {I : MI} {L : ML} {out : MI} (hf : f_X1_keep_j13 v1 v2 v3 v4 I = some out) (hR : ∀ (I' : MI), out = I' → Q = RetQ G none X I' L (0, 0)) : Ex G mX1_keep rmX1_keep Q (0, 0) X I L 13 [(0, .ref (gB G + 67)), (1, .int v1), (2, .int v2), (3, .int v3), (4, .int v4)] [] := by
  unfold f_X1_keep_j13 at hf
  refine ex_aload_n 0 (pc' := 14) dX1_keep_13 rfl rfl rfl ?_
  refine ex_getR (pc' := 17) dX1_keep_14 fl_X1_11 rfl (sh1_k (sh10_T3 hM)) (sh1_F0 (sh10_T3 hM)) rfl ?_
  refine ex_aload_n 0 (pc' := 18) dX1_keep_17 rfl rfl rfl ?_
  refine ex_getI (pc' := 21) dX1_keep_18 fl_X1_24 rfl (sh1_k (sh10_T3 hM)) rfl ?_
  refine ex_iload_n 1 (pc' := 22) dX1_keep_21 rfl rfl rfl ?_
  obtain ⟨hg2, hf⟩ := of_guard hf
  refine ex_iast (pc' := 23) dX1_keep_22 (sh1_T0 (sh10_T3 hM)) (inb_in hg2) rfl ?_
  obtain ⟨I3, hI3, hf⟩ := of_let hf
  rw [← hI3]
  refine ex_aload_n 0 (pc' := 24) dX1_keep_23 rfl rfl rfl ?_
  refine ex_getR (pc' := 27) dX1_keep_24 fl_X1_15 rfl (sh1_k (sh10_T3 hM)) (sh1_F1 (sh10_T3 hM)) rfl ?_
  refine ex_aload_n 0 (pc' := 28) dX1_keep_27 rfl rfl rfl ?_
  refine ex_getI (pc' := 31) dX1_keep_28 fl_X1_24 rfl (sh1_k (sh10_T3 hM)) rfl ?_
  refine ex_iload_n 2 (pc' := 32) dX1_keep_31 rfl rfl rfl ?_
  obtain ⟨hg4, hf⟩ := of_guard hf
  refine ex_iast (pc' := 33) dX1_keep_32 (sh1_T1 (sh10_T3 hM)) (inb_in hg4) rfl ?_
  obtain ⟨I5, hI5, hf⟩ := of_let hf
  rw [← hI5]
  refine ex_aload_n 0 (pc' := 34) dX1_keep_33 rfl rfl rfl ?_
  refine ex_getR (pc' := 37) dX1_keep_34 fl_X1_18 rfl (sh1_k (sh10_T3 hM)) (sh1_F2 (sh10_T3 hM)) rfl ?_
  refine ex_aload_n 0 (pc' := 38) dX1_keep_37 rfl rfl rfl ?_
  refine ex_getI (pc' := 41) dX1_keep_38 fl_X1_24 rfl (sh1_k (sh10_T3 hM)) rfl ?_
  refine ex_iload_n 3 (pc' := 42) dX1_keep_41 rfl rfl rfl ?_
  obtain ⟨hg6, hf⟩ := of_guard hf
  refine ex_iast (pc' := 43) dX1_keep_42 (sh1_T2 (sh10_T3 hM)) (inb_in hg6) rfl ?_
  obtain ⟨I7, hI7, hf⟩ := of_let hf
  rw [← hI7]
  refine ex_aload_n 0 (pc' := 44) dX1_keep_43 rfl rfl rfl ?_
  refine ex_getR (pc' := 47) dX1_keep_44 fl_X1_21 rfl (sh1_k (sh10_T3 hM)) (sh1_F3 (sh10_T3 hM)) rfl ?_
  refine ex_aload_n 0 (pc' := 48) dX1_keep_47 rfl rfl rfl ?_
  refine ex_getI (pc' := 51) dX1_keep_48 fl_X1_24 rfl (sh1_k (sh10_T3 hM)) rfl ?_
  refine ex_iload 4 (pc' := 53) dX1_keep_51 rfl rfl ?_
  obtain ⟨hg8, hf⟩ := of_guard hf
  refine ex_iast (pc' := 54) dX1_keep_53 (sh1_T3 (sh10_T3 hM)) (inb_in hg8) rfl ?_
  obtain ⟨I9, hI9, hf⟩ := of_let hf
  rw [← hI9]
  refine ex_aload_n 0 (pc' := 55) dX1_keep_54 rfl rfl rfl ?_
  refine ex_dup (pc' := 56) dX1_keep_55 rfl rfl ?_
  refine ex_getI (pc' := 59) dX1_keep_56 fl_X1_24 rfl (sh1_k (sh10_T3 hM)) rfl ?_
  refine ex_iconst (v := 1) (pc' := 60) dX1_keep_59 ic_1 rfl ?_
  refine ex_iadd (pc' := 61) dX1_keep_60 rfl ?_
  refine ex_putI (pc' := 64) dX1_keep_61 fl_X1_24 rfl (sh1_k (sh10_T3 hM)) rfl ?_
  obtain ⟨I10, hI10, hf⟩ := of_let hf
  rw [← hI10]
  exact ex_vret dX1_keep_64 rfl (hR _ (Option.some.inj hf).symm)
def f_X1_keep (v1 : Int32) (v2 : Int32) (v3 : Int32) (v4 : Int32) (I : MI) : Option (MI) := (if (I 67 4) < 10 then f_X1_keep_j13 v1 v2 v3 v4 I else bnd1 (f_X1_dropOldest I) fun I11 => f_X1_keep_j13 v1 v2 v3 v4 I11)
set_option maxRecDepth 100000 in
set_option maxHeartbeats 4000000 in
theorem kb_X1_keep {G : GX} {Q : State → Prop} {X : MX} (hM : shX10 X) {v1 : Int32} {v2 : Int32} {v3 : Int32} {v4 : Int32}  {I : MI} {L : ML} {out : MI} (hf : f_X1_keep v1 v2 v3 v4 I = some out) (hR : ∀ (I' : MI), out = I' → Q = RetQ G none X I' L (0, 0)) : Ex G mX1_keep rmX1_keep Q (0, 0) X I L 0 [(0, .ref (gB G + 67)), (1, .int v1), (2, .int v2), (3, .int v3), (4, .int v4)] [] := by
  unfold f_X1_keep at hf
  refine ex_aload_n 0 (pc' := 1) dX1_keep_0 rfl rfl rfl ?_
  refine ex_getI (pc' := 4) dX1_keep_1 fl_X1_24 rfl (sh1_k (sh10_T3 hM)) rfl ?_
  refine ex_bipush (v := 10) (pc' := 6) dX1_keep_4 bp_10 rfl ?_
  refine ex_icmplt (tgt := 13) (pc' := 9) dX1_keep_6 (by decide) rfl (fun hc1 => ?_) (fun hc1 => ?_)
  · replace hf := if_t hc1 hf
    refine ex_sub [0, 1, 2, 3, 4] rfl (k_X1_keep_j13 hM  hf hR)
  · replace hf := if_f hc1 hf
    refine ex_aload_n 0 (pc' := 10) dX1_keep_9 rfl rfl rfl ?_
    obtain ⟨I11, hq12, hf⟩ := of_bnd1 hf
    refine ex_callV_v (rm' := rmX1_dropOldest) (st := []) (pc' := 13) [] dX1_keep_10 cl_X1_28 (k_X1_dropOldest G hM hq12) rfl (sh1_k (sh10_T3 hM)) ⟨_, _, rfl⟩ rfl rfl (ROOM_of rfl) (Nat.le_of_ble_eq_true rfl) rfl rfl ?_
    refine ex_sub [0, 1, 2, 3, 4] rfl (k_X1_keep_j13 hM  hf hR)
set_option maxRecDepth 100000 in
set_option maxHeartbeats 4000000 in
theorem k_X1_keep (G : GX) {X : MX} (hM : shX10 X) {v1 : Int32} {v2 : Int32} {v3 : Int32} {v4 : Int32}  {I : MI} {L : ML} {I' : MI} (hf : f_X1_keep v1 v2 v3 v4 I = some I') : Con G mX1_keep yX1_keep rmX1_keep (fun B => [.ref (B + 67), .int v1, .int v2, .int v3, .int v4]) X I L none X I' L :=
  Con.of (by decide) rfl (fun h => by cases h) (fun B => Nat.le_of_ble_eq_true rfl) (fun G => kb_X1_keep hM  hf (fun _ he => by cases he; rfl))
theorem fl_X1_37 : FLD RX1 37 5 3 true := ⟨RX5, TX5, 7, rfl, inX5, by decide, lwg_at 148 (by decide +kernel) rfl, nmX5, tyX5_ok, rfl, rfl⟩
theorem fl_X1_40 : FLD RX1 40 5 2 true := ⟨RX5, TX5, 7, rfl, inX5, by decide, lwg_at 145 (by decide +kernel) rfl, nmX5, tyX5_ok, rfl, rfl⟩
theorem cl_X1_43 : CLV RX1 43 yX0_toggle mX0_toggle none 2 := ⟨⟨lwg_at 857 (by decide +kernel) rfl, lwg_at 475 (by decide +kernel) rfl, lwg_at 476 (by decide +kernel) rfl, lwg_at 54 (by decide +kernel) rfl⟩, lwg_at 477 (by decide +kernel) rfl, ⟨by decide +kernel, by decide +kernel, by decide +kernel⟩⟩
-- X1_undoLatest ('RookWords$Changes', 'undoLatest', '(LRookWords$State;)V')
def rmX1_undoLatest : RM := ((1, 22, 0, 0), false, none)
def f_X1_undoLatest (a1 : Nat) (I : MI) : Option (MI) := (if 0 < (I 67 4) then letv (upI I 67 4 ((I 67 4) - 1)) fun I2 => if inb (I2 67 4) 10 then (if (I2 68 (Int32.toNatClampNeg (I2 67 4))) = (-1) then if inb (I2 67 4) 10 then if inb (I2 67 4) 10 then if inb (I2 67 4) 10 then if inb (((I2 69 (Int32.toNatClampNeg (I2 67 4))) * 6) + (I2 70 (Int32.toNatClampNeg (I2 67 4)))) 36 then letv (upI I2 (a1 + 6) (Int32.toNatClampNeg (((I2 69 (Int32.toNatClampNeg (I2 67 4))) * 6) + (I2 70 (Int32.toNatClampNeg (I2 67 4))))) (I2 71 (Int32.toNatClampNeg (I2 67 4)))) fun I9 => some I9 else none else none else none else none else if inb (I2 67 4) 10 then if inb (I2 68 (Int32.toNatClampNeg (I2 67 4))) 6 then if inb (I2 67 4) 10 then if inb (I2 67 4) 10 then bnd1 (f_X0_toggle (a1 + 11 + 4 * (Int32.toNatClampNeg (I2 68 (Int32.toNatClampNeg (I2 67 4))))) (I2 69 (Int32.toNatClampNeg (I2 67 4))) (I2 70 (Int32.toNatClampNeg (I2 67 4))) I2) fun I14 => some I14 else none else none else none else none) else none else some I)
set_option maxRecDepth 100000 in
set_option maxHeartbeats 4000000 in
theorem kb_X1_undoLatest {G : GX} {Q : State → Prop} {X : MX} (hM : shX10 X) {a1 : Nat} (h1 : shX5 X a1) {I : MI} {L : ML} {out : MI} (hf : f_X1_undoLatest a1 I = some out) (hR : ∀ (I' : MI), out = I' → Q = RetQ G none X I' L (0, 0)) : Ex G mX1_undoLatest rmX1_undoLatest Q (0, 0) X I L 0 [(0, .ref (gB G + 67)), (1, .ref (gB G + a1))] [] := by
  unfold f_X1_undoLatest at hf
  refine ex_aload_n 0 (pc' := 1) dX1_undoLatest_0 rfl rfl rfl ?_
  refine ex_getI (pc' := 4) dX1_undoLatest_1 fl_X1_24 rfl (sh1_k (sh10_T3 hM)) rfl ?_
  refine ex_ifgt (tgt := 8) (pc' := 7) dX1_undoLatest_4 (by decide) rfl (fun hc1 => ?_) (fun hc1 => ?_)
  · replace hf := if_t hc1 hf
    refine ex_aload_n 0 (pc' := 9) dX1_undoLatest_8 rfl rfl rfl ?_
    refine ex_dup (pc' := 10) dX1_undoLatest_9 rfl rfl ?_
    refine ex_getI (pc' := 13) dX1_undoLatest_10 fl_X1_24 rfl (sh1_k (sh10_T3 hM)) rfl ?_
    refine ex_iconst (v := 1) (pc' := 14) dX1_undoLatest_13 ic_1 rfl ?_
    refine ex_isub (pc' := 15) dX1_undoLatest_14 rfl ?_
    refine ex_putI (pc' := 18) dX1_undoLatest_15 fl_X1_24 rfl (sh1_k (sh10_T3 hM)) rfl ?_
    obtain ⟨I2, hI2, hf⟩ := of_let hf
    rw [← hI2]
    refine ex_aload_n 0 (pc' := 19) dX1_undoLatest_18 rfl rfl rfl ?_
    refine ex_getR (pc' := 22) dX1_undoLatest_19 fl_X1_11 rfl (sh1_k (sh10_T3 hM)) (sh1_F0 (sh10_T3 hM)) rfl ?_
    refine ex_aload_n 0 (pc' := 23) dX1_undoLatest_22 rfl rfl rfl ?_
    refine ex_getI (pc' := 26) dX1_undoLatest_23 fl_X1_24 rfl (sh1_k (sh10_T3 hM)) rfl ?_
    obtain ⟨hg3, hf⟩ := of_guard hf
    refine ex_iald (pc' := 27) dX1_undoLatest_26 (sh1_T0 (sh10_T3 hM)) (inb_in hg3) rfl ?_
    refine ex_iconst (v := (-1)) (pc' := 28) dX1_undoLatest_27 ic_m1 rfl ?_
    refine ex_icmpne (tgt := 70) (pc' := 31) dX1_undoLatest_28 (by decide) rfl (fun hc4 => ?_) (fun hc4 => ?_)
    · replace hf := if_t hc4 hf
      refine ex_aload_n 1 (pc' := 32) dX1_undoLatest_31 rfl rfl rfl ?_
      refine ex_getR (pc' := 35) dX1_undoLatest_32 fl_X1_37 rfl (sh5_k h1) (sh5_F3 h1) rfl ?_
      refine ex_aload_n 0 (pc' := 36) dX1_undoLatest_35 rfl rfl rfl ?_
      refine ex_getR (pc' := 39) dX1_undoLatest_36 fl_X1_15 rfl (sh1_k (sh10_T3 hM)) (sh1_F1 (sh10_T3 hM)) rfl ?_
      refine ex_aload_n 0 (pc' := 40) dX1_undoLatest_39 rfl rfl rfl ?_
      refine ex_getI (pc' := 43) dX1_undoLatest_40 fl_X1_24 rfl (sh1_k (sh10_T3 hM)) rfl ?_
      obtain ⟨hg5, hf⟩ := of_guard hf
      refine ex_iald (pc' := 44) dX1_undoLatest_43 (sh1_T1 (sh10_T3 hM)) (inb_in hg5) rfl ?_
      refine ex_bipush (v := 6) (pc' := 46) dX1_undoLatest_44 bp_6 rfl ?_
      refine ex_imul (pc' := 47) dX1_undoLatest_46 rfl ?_
      refine ex_aload_n 0 (pc' := 48) dX1_undoLatest_47 rfl rfl rfl ?_
      refine ex_getR (pc' := 51) dX1_undoLatest_48 fl_X1_18 rfl (sh1_k (sh10_T3 hM)) (sh1_F2 (sh10_T3 hM)) rfl ?_
      refine ex_aload_n 0 (pc' := 52) dX1_undoLatest_51 rfl rfl rfl ?_
      refine ex_getI (pc' := 55) dX1_undoLatest_52 fl_X1_24 rfl (sh1_k (sh10_T3 hM)) rfl ?_
      obtain ⟨hg6, hf⟩ := of_guard hf
      refine ex_iald (pc' := 56) dX1_undoLatest_55 (sh1_T2 (sh10_T3 hM)) (inb_in hg6) rfl ?_
      refine ex_iadd (pc' := 57) dX1_undoLatest_56 rfl ?_
      refine ex_aload_n 0 (pc' := 58) dX1_undoLatest_57 rfl rfl rfl ?_
      refine ex_getR (pc' := 61) dX1_undoLatest_58 fl_X1_21 rfl (sh1_k (sh10_T3 hM)) (sh1_F3 (sh10_T3 hM)) rfl ?_
      refine ex_aload_n 0 (pc' := 62) dX1_undoLatest_61 rfl rfl rfl ?_
      refine ex_getI (pc' := 65) dX1_undoLatest_62 fl_X1_24 rfl (sh1_k (sh10_T3 hM)) rfl ?_
      obtain ⟨hg7, hf⟩ := of_guard hf
      refine ex_iald (pc' := 66) dX1_undoLatest_65 (sh1_T3 (sh10_T3 hM)) (inb_in hg7) rfl ?_
      obtain ⟨hg8, hf⟩ := of_guard hf
      refine ex_iast (pc' := 67) dX1_undoLatest_66 (sh5_T3 h1) (inb_in hg8) rfl ?_
      obtain ⟨I9, hI9, hf⟩ := of_let hf
      rw [← hI9]
      refine ex_goto (tgt := 105) dX1_undoLatest_67 (by decide) ?_
      exact ex_vret dX1_undoLatest_105 rfl (hR _ (Option.some.inj hf).symm)
    · replace hf := if_f hc4 hf
      refine ex_aload_n 1 (pc' := 71) dX1_undoLatest_70 rfl rfl rfl ?_
      refine ex_getR (pc' := 74) dX1_undoLatest_71 fl_X1_40 rfl (sh5_k h1) (sh5_F2 h1) rfl ?_
      refine ex_aload_n 0 (pc' := 75) dX1_undoLatest_74 rfl rfl rfl ?_
      refine ex_getR (pc' := 78) dX1_undoLatest_75 fl_X1_11 rfl (sh1_k (sh10_T3 hM)) (sh1_F0 (sh10_T3 hM)) rfl ?_
      refine ex_aload_n 0 (pc' := 79) dX1_undoLatest_78 rfl rfl rfl ?_
      refine ex_getI (pc' := 82) dX1_undoLatest_79 fl_X1_24 rfl (sh1_k (sh10_T3 hM)) rfl ?_
      obtain ⟨hg10, hf⟩ := of_guard hf
      refine ex_iald (pc' := 83) dX1_undoLatest_82 (sh1_T0 (sh10_T3 hM)) (inb_in hg10) rfl ?_
      obtain ⟨hg11, hf⟩ := of_guard hf
      refine ex_aaldS (pc' := 84) dX1_undoLatest_83 (sh5_T2 h1) (by decide) (by decide) (inb_in hg11) (sh5_E2 h1 _ (inb_lt hg11)) rfl ?_
      refine ex_aload_n 0 (pc' := 85) dX1_undoLatest_84 rfl rfl rfl ?_
      refine ex_getR (pc' := 88) dX1_undoLatest_85 fl_X1_15 rfl (sh1_k (sh10_T3 hM)) (sh1_F1 (sh10_T3 hM)) rfl ?_
      refine ex_aload_n 0 (pc' := 89) dX1_undoLatest_88 rfl rfl rfl ?_
      refine ex_getI (pc' := 92) dX1_undoLatest_89 fl_X1_24 rfl (sh1_k (sh10_T3 hM)) rfl ?_
      obtain ⟨hg12, hf⟩ := of_guard hf
      refine ex_iald (pc' := 93) dX1_undoLatest_92 (sh1_T1 (sh10_T3 hM)) (inb_in hg12) rfl ?_
      refine ex_aload_n 0 (pc' := 94) dX1_undoLatest_93 rfl rfl rfl ?_
      refine ex_getR (pc' := 97) dX1_undoLatest_94 fl_X1_18 rfl (sh1_k (sh10_T3 hM)) (sh1_F2 (sh10_T3 hM)) rfl ?_
      refine ex_aload_n 0 (pc' := 98) dX1_undoLatest_97 rfl rfl rfl ?_
      refine ex_getI (pc' := 101) dX1_undoLatest_98 fl_X1_24 rfl (sh1_k (sh10_T3 hM)) rfl ?_
      obtain ⟨hg13, hf⟩ := of_guard hf
      refine ex_iald (pc' := 102) dX1_undoLatest_101 (sh1_T2 (sh10_T3 hM)) (inb_in hg13) rfl ?_
      obtain ⟨I14, hq15, hf⟩ := of_bnd1 hf
      refine ex_callV_v (rm' := rmX0_toggle) (st := []) (pc' := 105) [.int (I2 69 (Int32.toNatClampNeg (I2 67 4))), .int (I2 70 (Int32.toNatClampNeg (I2 67 4)))] dX1_undoLatest_102 cl_X1_43 (k_X0_toggle G (sh5_O2 h1 _ (inb_lt hg11)) hq15) rfl (sh0_k (sh5_O2 h1 _ (inb_lt hg11))) ⟨_, _, rfl⟩ rfl rfl (ROOM_of rfl) (Nat.le_of_ble_eq_true rfl) rfl rfl ?_
      exact ex_vret dX1_undoLatest_105 rfl (hR _ (Option.some.inj hf).symm)
  · replace hf := if_f hc1 hf
    exact ex_vret dX1_undoLatest_7 rfl (hR _ (Option.some.inj hf).symm)
set_option maxRecDepth 100000 in
set_option maxHeartbeats 4000000 in
theorem k_X1_undoLatest (G : GX) {X : MX} (hM : shX10 X) {a1 : Nat} (h1 : shX5 X a1) {I : MI} {L : ML} {I' : MI} (hf : f_X1_undoLatest a1 I = some I') : Con G mX1_undoLatest yX1_undoLatest rmX1_undoLatest (fun B => [.ref (B + 67), .ref (B + a1)]) X I L none X I' L :=
  Con.of (by decide) rfl (fun h => by cases h) (fun B => Nat.le_of_ble_eq_true rfl) (fun G => kb_X1_undoLatest hM h1 hf (fun _ he => by cases he; rfl))
theorem fl_X2_80 : Cond.fieldLink RX2 80 (sNm 1).1 (sNm 1).2 "[I" ∈ lwg := lwg_at 714 (by decide +kernel) rfl
theorem fl_X2_83 : Cond.fieldLink RX2 83 (sNm 2).1 (sNm 2).2 "[I" ∈ lwg := lwg_at 715 (by decide +kernel) rfl
-- X2_countInKey ('RookWords$Ladder', 'countInKey', '(JI)I')
def rmX2_countInKey : RM := ((0, 0, 0, 0), false, (some FieldType.int))
def f_X2_countInKey (v0 : Int64) (v2 : Int32) (I : MI) : Option (Int32) := (if v2 = 0 then some 1 else if inb v2 7 then if inb v2 7 then some ((Int64.toInt32 (jlushr v0 (tabI 1 (Int32.toNatClampNeg v2)))) &&& (tabI 2 (Int32.toNatClampNeg v2))) else none else none)
set_option maxRecDepth 100000 in
set_option maxHeartbeats 4000000 in
theorem kb_X2_countInKey {G : GX} {Q : State → Prop} {X : MX} {v0 : Int64} {v2 : Int32}  {I : MI} {L : ML} {out : Int32} (hf : f_X2_countInKey v0 v2 I = some out) (hR : ∀ (z : Int32), out = z → Q = RetQ G (some (.int z)) X I L (0, 0)) : Ex G mX2_countInKey rmX2_countInKey Q (0, 0) X I L 0 [(0, .long v0), (2, .int v2)] [] := by
  unfold f_X2_countInKey at hf
  refine ex_iload_n 1 (pc' := 1) dX2_countInKey_0 rfl rfl rfl ?_
  refine ex_ifne (tgt := 8) (pc' := 4) dX2_countInKey_1 (by decide) rfl (fun hc1 => ?_) (fun hc1 => ?_)
  · replace hf := if_t hc1 hf
    refine ex_iconst (v := 1) (pc' := 5) dX2_countInKey_4 ic_1 rfl ?_
    refine ex_goto (tgt := 22) dX2_countInKey_5 (by decide) ?_
    exact ex_iret dX2_countInKey_22 rfl (hR _ (Option.some.inj hf).symm)
  · replace hf := if_f hc1 hf
    refine ex_lload_n 0 (pc' := 9) dX2_countInKey_8 rfl rfl rfl ?_
    refine ex_getst (j := 1) (pc' := 12) dX2_countInKey_9 (by decide) fl_X2_80 rfl ?_
    refine ex_iload_n 1 (pc' := 13) dX2_countInKey_12 rfl rfl rfl ?_
    obtain ⟨hg2, hf⟩ := of_guard hf
    refine ex_siald (pc' := 14) dX2_countInKey_13 (by decide) (inb_in hg2) rfl ?_
    refine ex_lushr (pc' := 15) dX2_countInKey_14 rfl ?_
    refine ex_l2i (pc' := 16) dX2_countInKey_15 rfl ?_
    refine ex_getst (j := 2) (pc' := 19) dX2_countInKey_16 (by decide) fl_X2_83 rfl ?_
    refine ex_iload_n 1 (pc' := 20) dX2_countInKey_19 rfl rfl rfl ?_
    obtain ⟨hg3, hf⟩ := of_guard hf
    refine ex_siald (pc' := 21) dX2_countInKey_20 (by decide) (inb_in hg3) rfl ?_
    refine ex_iand (pc' := 22) dX2_countInKey_21 rfl ?_
    exact ex_iret dX2_countInKey_22 rfl (hR _ (Option.some.inj hf).symm)
set_option maxRecDepth 100000 in
set_option maxHeartbeats 4000000 in
theorem k_X2_countInKey (G : GX) {X : MX} {v0 : Int64} {v2 : Int32}  {I : MI} {L : ML} {z : Int32} (hf : f_X2_countInKey v0 v2 I = some z) : Con G mX2_countInKey yX2_countInKey rmX2_countInKey (fun B => [.long v0, .int v2]) X I L (some (.int z)) X I L :=
  Con.of (by decide) rfl (fun h => by cases h) (fun B => Nat.le_of_ble_eq_true rfl) (fun G => kb_X2_countInKey  hf (fun _ he => by cases he; rfl))
-- X2_digitsOf ('RookWords$Ladder', 'digitsOf', '([I)I')
def rmX2_digitsOf : RM := ((0, 0, 0, 0), false, (some FieldType.int))
def f_X2_digitsOf_b4 (N : Nat) (a0 : Nat) (n0 : Nat) (v1 : Int32) (v2 : Int32) (I : MI) : Option ((Int32 × Int32) ⊕ (Int32)) := (if v2 < (Int32.ofNat n0) then if inb v2 n0 then letv ((v1 * 10) + (I a0 (Int32.toNatClampNeg v2))) fun x3 => some (.inl (x3, v2 + 1)) else none else some (.inr v1))
set_option maxRecDepth 100000 in
set_option maxHeartbeats 4000000 in
theorem k_X2_digitsOf_b4 {G : GX} {Q : State → Prop} {X : MX} {a0 : Nat} {n0 : Nat} (h0 : X.1 a0 = (2, n0)) {v1 : Int32} {v2 : Int32} {N : Nat} {I : MI} {L : ML} {out : (Int32 × Int32) ⊕ (Int32)} (hf : f_X2_digitsOf_b4 N a0 n0 v1 v2 I = some out) (hC : ∀ (v1' : Int32) (v2' : Int32), out = .inl (v1', v2') → Ex G mX2_digitsOf rmX2_digitsOf Q (0, 0) X I L 4 [(0, .ref (gB G + a0)), (1, .int v1'), (2, .int v2')] []) (hX : ∀ (w1 : Int32), out = .inr w1 → Ex G mX2_digitsOf rmX2_digitsOf Q (0, 0) X I L 25 [(1, .int w1)] []) : Ex G mX2_digitsOf rmX2_digitsOf Q (0, 0) X I L 4 [(0, .ref (gB G + a0)), (1, .int v1), (2, .int v2)] [] := by
  unfold f_X2_digitsOf_b4 at hf
  refine ex_iload_n 2 (pc' := 5) dX2_digitsOf_4 rfl rfl rfl ?_
  refine ex_aload_n 0 (pc' := 6) dX2_digitsOf_5 rfl rfl rfl ?_
  refine ex_alen (pc' := 7) dX2_digitsOf_6 h0 (Or.inl rfl) rfl rfl ?_
  refine ex_icmpge (tgt := 25) (pc' := 10) dX2_digitsOf_7 (by decide) rfl (fun hc1 => ?_) (fun hc1 => ?_)
  · replace hf := if_t hc1 hf
    refine ex_iload_n 1 (pc' := 11) dX2_digitsOf_10 rfl rfl rfl ?_
    refine ex_bipush (v := 10) (pc' := 13) dX2_digitsOf_11 bp_10 rfl ?_
    refine ex_imul (pc' := 14) dX2_digitsOf_13 rfl ?_
    refine ex_aload_n 0 (pc' := 15) dX2_digitsOf_14 rfl rfl rfl ?_
    refine ex_iload_n 2 (pc' := 16) dX2_digitsOf_15 rfl rfl rfl ?_
    obtain ⟨hg2, hf⟩ := of_guard hf
    refine ex_iald (pc' := 17) dX2_digitsOf_16 h0 (inb_in hg2) rfl ?_
    refine ex_iadd (pc' := 18) dX2_digitsOf_17 rfl ?_
    obtain ⟨x3, hx3, hf⟩ := of_let hf
    rw [← hx3]
    refine ex_istore_n (lv' := [(1, .int x3), (0, .ref (gB G + a0)), (2, .int v2)]) (pc' := 19) dX2_digitsOf_18 rfl (Nat.le_of_ble_eq_true rfl) rfl rfl ?_
    refine ex_iincc (lv' := [(2, .int (v2 + 1)), (1, .int x3), (0, .ref (gB G + a0))]) 2 (pc' := 22) dX2_digitsOf_19 rfl ic_1 (Nat.le_of_ble_eq_true rfl) rfl rfl ?_
    refine ex_goto (tgt := 4) dX2_digitsOf_22 (by decide) ?_
    exact ex_sub [2, 1, 0] rfl (hC _ _ (Option.some.inj hf).symm)
  · replace hf := if_f hc1 hf
    exact ex_sub [1] rfl (hX _ (Option.some.inj hf).symm)
def f_X2_digitsOf_l4 (N : Nat) (a0 : Nat) (n0 : Nat) (v1 : Int32) (v2 : Int32) (I : MI) : Option (Int32) := loopN (fun s => f_X2_digitsOf_b4 N a0 n0 s.1 s.2 I) N (v1, v2)
set_option maxRecDepth 100000 in
set_option maxHeartbeats 4000000 in
theorem k_X2_digitsOf_l4 {G : GX} {Q : State → Prop} {X : MX} {a0 : Nat} {n0 : Nat} (h0 : X.1 a0 = (2, n0)) {N0 : Nat} {I : MI} {L : ML} {out : (Int32)} (hX : ∀ (w1 : Int32), out = w1 → Ex G mX2_digitsOf rmX2_digitsOf Q (0, 0) X I L 25 [(1, .int w1)] []) : ∀ (N : Nat) (v1 : Int32) (v2 : Int32), loopN (fun s => f_X2_digitsOf_b4 N0 a0 n0 s.1 s.2 I) N (v1, v2) = some out → Ex G mX2_digitsOf rmX2_digitsOf Q (0, 0) X I L 4 [(0, .ref (gB G + a0)), (1, .int v1), (2, .int v2)] [] := by
  intro N
  induction N with
  | zero => intro v1 v2 hf; exact absurd (loopN_zero hf) id
  | succ n ih =>
    intro v1 v2 hf
    rcases loopN_succ hf with ⟨s, hb, hl⟩ | hb
    · obtain ⟨v1', v2'⟩ := s
      refine k_X2_digitsOf_b4 h0 hb (fun _ _ he => ?_) (fun _ he => by cases he)
      cases he
      exact ih v1' v2' hl
    · exact k_X2_digitsOf_b4 h0 hb (fun _ _ he => by cases he) (fun x0 he => hX x0 (Sum.inr.inj he))
def f_X2_digitsOf (N : Nat) (a0 : Nat) (n0 : Nat) (I : MI) : Option (Int32) := bnd1 (f_X2_digitsOf_l4 N a0 n0 0 0 I) fun x4 => some x4
set_option maxRecDepth 100000 in
set_option maxHeartbeats 4000000 in
theorem kb_X2_digitsOf {G : GX} {Q : State → Prop} {X : MX} {a0 : Nat} {n0 : Nat} (h0 : X.1 a0 = (2, n0)) {N : Nat} {I : MI} {L : ML} {out : Int32} (hf : f_X2_digitsOf N a0 n0 I = some out) (hR : ∀ (z : Int32), out = z → Q = RetQ G (some (.int z)) X I L (0, 0)) : Ex G mX2_digitsOf rmX2_digitsOf Q (0, 0) X I L 0 [(0, .ref (gB G + a0))] [] := by
  unfold f_X2_digitsOf at hf
  refine ex_iconst (v := 0) (pc' := 1) dX2_digitsOf_0 ic_0 rfl ?_
  refine ex_istore_n (lv' := [(1, .int 0), (0, .ref (gB G + a0))]) (pc' := 2) dX2_digitsOf_1 rfl (Nat.le_of_ble_eq_true rfl) rfl rfl ?_
  refine ex_iconst (v := 0) (pc' := 3) dX2_digitsOf_2 ic_0 rfl ?_
  refine ex_istore_n (lv' := [(2, .int 0), (1, .int 0), (0, .ref (gB G + a0))]) (pc' := 4) dX2_digitsOf_3 rfl (Nat.le_of_ble_eq_true rfl) rfl rfl ?_
  refine ex_sub (lv' := [(0, .ref (gB G + a0)), (1, .int 0), (2, .int 0)]) [2, 1, 0] rfl ?_
  obtain ⟨x4, hq5, hf⟩ := of_bnd1 hf
  refine k_X2_digitsOf_l4 h0 (fun x4' he => ?_) _ _ _ hq5
  cases he
  refine ex_iload_n 0 (pc' := 26) dX2_digitsOf_25 rfl rfl rfl ?_
  exact ex_iret dX2_digitsOf_26 rfl (hR _ (Option.some.inj hf).symm)
set_option maxRecDepth 100000 in
set_option maxHeartbeats 4000000 in
theorem k_X2_digitsOf (G : GX) {X : MX} {a0 : Nat} {n0 : Nat} (h0 : X.1 a0 = (2, n0)) {N : Nat} {I : MI} {L : ML} {z : Int32} (hf : f_X2_digitsOf N a0 n0 I = some z) : Con G mX2_digitsOf yX2_digitsOf rmX2_digitsOf (fun B => [.ref (B + a0)]) X I L (some (.int z)) X I L :=
  Con.of (by decide) rfl (fun h => by cases h) (fun B => Nat.le_of_ble_eq_true rfl) (fun G => kb_X2_digitsOf h0 hf (fun _ he => by cases he; rfl))
theorem cl_X2_55 : CLS RX2 55 yJ7_fill_53178 mJ7_fill_53178 none 2 := ⟨⟨lwg_at 582 (by decide +kernel) rfl, lwg_at 138 (by decide +kernel) rfl, lwg_at 55 (by decide +kernel) rfl⟩, lwg_at 139 (by decide +kernel) rfl, ⟨by decide +kernel, by decide +kernel, by decide +kernel⟩⟩
-- X2_fillCounts ('RookWords$Ladder', 'fillCounts', '([I[I)V')
def rmX2_fillCounts : RM := ((1, 23, 0, 0), false, none)
def f_X2_fillCounts_b21 (N : Nat) (a0 : Nat) (n0 : Nat) (a1 : Nat) (n1 : Nat) (v2 : Int32) (v3 : Int32) (I : MI) : Option ((Int32 × MI) ⊕ (MI)) := (if v3 < 1 then some (.inr I) else if inb v3 n1 then if inb v2 n0 then if inb (v3 - 1) n1 then if inb v3 n1 then letv (upI I a1 (Int32.toNatClampNeg v3) ((I a1 (Int32.toNatClampNeg v3)) + ((((I a0 (Int32.toNatClampNeg v2)) - v3) + 1) * (I a1 (Int32.toNatClampNeg (v3 - 1)))))) fun I11 => some (.inl (v3 + (-1), I11)) else none else none else none else none)
set_option maxRecDepth 100000 in
set_option maxHeartbeats 4000000 in
theorem k_X2_fillCounts_b21 {G : GX} {Q : State → Prop} {X : MX} {a0 : Nat} {n0 : Nat} {a1 : Nat} {n1 : Nat} {v2 : Int32} (h0 : X.1 a0 = (2, n0)) (h1 : X.1 a1 = (2, n1)) {v3 : Int32} {N : Nat} {I : MI} {L : ML} {out : (Int32 × MI) ⊕ (MI)} (hf : f_X2_fillCounts_b21 N a0 n0 a1 n1 v2 v3 I = some out) (hC : ∀ (v3' : Int32) (I' : MI), out = .inl (v3', I') → Ex G mX2_fillCounts rmX2_fillCounts Q (0, 0) X I' L 21 [(0, .ref (gB G + a0)), (1, .ref (gB G + a1)), (2, .int v2), (3, .int v3')] []) (hX : ∀ (I' : MI), out = .inr I' → Ex G mX2_fillCounts rmX2_fillCounts Q (0, 0) X I' L 51 [(0, .ref (gB G + a0)), (1, .ref (gB G + a1)), (2, .int v2)] []) : Ex G mX2_fillCounts rmX2_fillCounts Q (0, 0) X I L 21 [(0, .ref (gB G + a0)), (1, .ref (gB G + a1)), (2, .int v2), (3, .int v3)] [] := by
  unfold f_X2_fillCounts_b21 at hf
  refine ex_iload_n 3 (pc' := 22) dX2_fillCounts_21 rfl rfl rfl ?_
  refine ex_iconst (v := 1) (pc' := 23) dX2_fillCounts_22 ic_1 rfl ?_
  refine ex_icmplt (tgt := 51) (pc' := 26) dX2_fillCounts_23 (by decide) rfl (fun hc6 => ?_) (fun hc6 => ?_)
  · replace hf := if_t hc6 hf
    exact ex_sub [0, 1, 2] rfl (hX _ (Option.some.inj hf).symm)
  · replace hf := if_f hc6 hf
    refine ex_aload_n 1 (pc' := 27) dX2_fillCounts_26 rfl rfl rfl ?_
    refine ex_iload_n 3 (pc' := 28) dX2_fillCounts_27 rfl rfl rfl ?_
    refine ex_dup2 (pc' := 29) dX2_fillCounts_28 rfl rfl rfl ?_
    obtain ⟨hg7, hf⟩ := of_guard hf
    refine ex_iald (pc' := 30) dX2_fillCounts_29 h1 (inb_in hg7) rfl ?_
    refine ex_aload_n 0 (pc' := 31) dX2_fillCounts_30 rfl rfl rfl ?_
    refine ex_iload_n 2 (pc' := 32) dX2_fillCounts_31 rfl rfl rfl ?_
    obtain ⟨hg8, hf⟩ := of_guard hf
    refine ex_iald (pc' := 33) dX2_fillCounts_32 h0 (inb_in hg8) rfl ?_
    refine ex_iload_n 3 (pc' := 34) dX2_fillCounts_33 rfl rfl rfl ?_
    refine ex_isub (pc' := 35) dX2_fillCounts_34 rfl ?_
    refine ex_iconst (v := 1) (pc' := 36) dX2_fillCounts_35 ic_1 rfl ?_
    refine ex_iadd (pc' := 37) dX2_fillCounts_36 rfl ?_
    refine ex_aload_n 1 (pc' := 38) dX2_fillCounts_37 rfl rfl rfl ?_
    refine ex_iload_n 3 (pc' := 39) dX2_fillCounts_38 rfl rfl rfl ?_
    refine ex_iconst (v := 1) (pc' := 40) dX2_fillCounts_39 ic_1 rfl ?_
    refine ex_isub (pc' := 41) dX2_fillCounts_40 rfl ?_
    obtain ⟨hg9, hf⟩ := of_guard hf
    refine ex_iald (pc' := 42) dX2_fillCounts_41 h1 (inb_in hg9) rfl ?_
    refine ex_imul (pc' := 43) dX2_fillCounts_42 rfl ?_
    refine ex_iadd (pc' := 44) dX2_fillCounts_43 rfl ?_
    obtain ⟨hg10, hf⟩ := of_guard hf
    refine ex_iast (pc' := 45) dX2_fillCounts_44 h1 (inb_in hg10) rfl ?_
    obtain ⟨I11, hI11, hf⟩ := of_let hf
    rw [← hI11]
    refine ex_iincc (lv' := [(3, .int (v3 + (-1))), (0, .ref (gB G + a0)), (1, .ref (gB G + a1)), (2, .int v2)]) 3 (pc' := 48) dX2_fillCounts_45 rfl ic_m1 (Nat.le_of_ble_eq_true rfl) rfl rfl ?_
    refine ex_goto (tgt := 21) dX2_fillCounts_48 (by decide) ?_
    exact ex_sub [1, 2, 3, 0] rfl (hC _ _ (Option.some.inj hf).symm)
def f_X2_fillCounts_l21 (N : Nat) (a0 : Nat) (n0 : Nat) (a1 : Nat) (n1 : Nat) (v2 : Int32) (v3 : Int32) (I : MI) : Option (MI) := loopN (fun s => f_X2_fillCounts_b21 N a0 n0 a1 n1 v2 s.1 s.2) N (v3, I)
set_option maxRecDepth 100000 in
set_option maxHeartbeats 4000000 in
theorem k_X2_fillCounts_l21 {G : GX} {Q : State → Prop} {X : MX} {a0 : Nat} {n0 : Nat} {a1 : Nat} {n1 : Nat} {v2 : Int32} (h0 : X.1 a0 = (2, n0)) (h1 : X.1 a1 = (2, n1)) {N0 : Nat} {L : ML} {out : (MI)} (hX : ∀ (I' : MI), out = I' → Ex G mX2_fillCounts rmX2_fillCounts Q (0, 0) X I' L 51 [(0, .ref (gB G + a0)), (1, .ref (gB G + a1)), (2, .int v2)] []) : ∀ (N : Nat) (v3 : Int32) (I : MI), loopN (fun s => f_X2_fillCounts_b21 N0 a0 n0 a1 n1 v2 s.1 s.2) N (v3, I) = some out → Ex G mX2_fillCounts rmX2_fillCounts Q (0, 0) X I L 21 [(0, .ref (gB G + a0)), (1, .ref (gB G + a1)), (2, .int v2), (3, .int v3)] [] := by
  intro N
  induction N with
  | zero => intro v3 I hf; exact absurd (loopN_zero hf) id
  | succ n ih =>
    intro v3 I hf
    rcases loopN_succ hf with ⟨s, hb, hl⟩ | hb
    · obtain ⟨v3', I'⟩ := s
      refine k_X2_fillCounts_b21 h0 h1 hb (fun _ _ he => ?_) (fun _ he => by cases he)
      cases he
      exact ih v3' I' hl
    · exact k_X2_fillCounts_b21 h0 h1 hb (fun _ _ he => by cases he) (fun x0 he => hX x0 (Sum.inr.inj he))
def f_X2_fillCounts_b11 (N : Nat) (a0 : Nat) (n0 : Nat) (a1 : Nat) (n1 : Nat) (v2 : Int32) (I : MI) : Option ((Int32 × MI) ⊕ (MI)) := (if v2 < (Int32.ofNat n0) then bnd1 (f_X2_fillCounts_l21 N a0 n0 a1 n1 v2 (v2 + 1) I) fun I12 => some (.inl (v2 + 1, I12)) else some (.inr I))
set_option maxRecDepth 100000 in
set_option maxHeartbeats 4000000 in
theorem k_X2_fillCounts_b11 {G : GX} {Q : State → Prop} {X : MX} {a0 : Nat} {n0 : Nat} {a1 : Nat} {n1 : Nat} (h0 : X.1 a0 = (2, n0)) (h1 : X.1 a1 = (2, n1)) {v2 : Int32} {N : Nat} {I : MI} {L : ML} {out : (Int32 × MI) ⊕ (MI)} (hf : f_X2_fillCounts_b11 N a0 n0 a1 n1 v2 I = some out) (hC : ∀ (v2' : Int32) (I' : MI), out = .inl (v2', I') → Ex G mX2_fillCounts rmX2_fillCounts Q (0, 0) X I' L 11 [(0, .ref (gB G + a0)), (1, .ref (gB G + a1)), (2, .int v2')] []) (hX : ∀ (I' : MI), out = .inr I' → Ex G mX2_fillCounts rmX2_fillCounts Q (0, 0) X I' L 57 [] []) : Ex G mX2_fillCounts rmX2_fillCounts Q (0, 0) X I L 11 [(0, .ref (gB G + a0)), (1, .ref (gB G + a1)), (2, .int v2)] [] := by
  unfold f_X2_fillCounts_b11 at hf
  refine ex_iload_n 2 (pc' := 12) dX2_fillCounts_11 rfl rfl rfl ?_
  refine ex_aload_n 0 (pc' := 13) dX2_fillCounts_12 rfl rfl rfl ?_
  refine ex_alen (pc' := 14) dX2_fillCounts_13 h0 (Or.inl rfl) rfl rfl ?_
  refine ex_icmpge (tgt := 57) (pc' := 17) dX2_fillCounts_14 (by decide) rfl (fun hc5 => ?_) (fun hc5 => ?_)
  · replace hf := if_t hc5 hf
    refine ex_iload_n 2 (pc' := 18) dX2_fillCounts_17 rfl rfl rfl ?_
    refine ex_iconst (v := 1) (pc' := 19) dX2_fillCounts_18 ic_1 rfl ?_
    refine ex_iadd (pc' := 20) dX2_fillCounts_19 rfl ?_
    refine ex_istore_n (lv' := [(3, .int (v2 + 1)), (0, .ref (gB G + a0)), (1, .ref (gB G + a1)), (2, .int v2)]) (pc' := 21) dX2_fillCounts_20 rfl (Nat.le_of_ble_eq_true rfl) rfl rfl ?_
    refine ex_sub (lv' := [(0, .ref (gB G + a0)), (1, .ref (gB G + a1)), (2, .int v2), (3, .int (v2 + 1))]) [1, 2, 3, 0] rfl ?_
    obtain ⟨I12, hq13, hf⟩ := of_bnd1 hf
    refine k_X2_fillCounts_l21 h0 h1 (fun I12' he => ?_) _ _ _ hq13
    cases he
    refine ex_iincc (lv' := [(2, .int (v2 + 1)), (0, .ref (gB G + a0)), (1, .ref (gB G + a1))]) 2 (pc' := 54) dX2_fillCounts_51 rfl ic_1 (Nat.le_of_ble_eq_true rfl) rfl rfl ?_
    refine ex_goto (tgt := 11) dX2_fillCounts_54 (by decide) ?_
    exact ex_sub [1, 2, 0] rfl (hC _ _ (Option.some.inj hf).symm)
  · replace hf := if_f hc5 hf
    exact ex_sub [] rfl (hX _ (Option.some.inj hf).symm)
def f_X2_fillCounts_l11 (N : Nat) (a0 : Nat) (n0 : Nat) (a1 : Nat) (n1 : Nat) (v2 : Int32) (I : MI) : Option (MI) := loopN (fun s => f_X2_fillCounts_b11 N a0 n0 a1 n1 s.1 s.2) N (v2, I)
set_option maxRecDepth 100000 in
set_option maxHeartbeats 4000000 in
theorem k_X2_fillCounts_l11 {G : GX} {Q : State → Prop} {X : MX} {a0 : Nat} {n0 : Nat} {a1 : Nat} {n1 : Nat} (h0 : X.1 a0 = (2, n0)) (h1 : X.1 a1 = (2, n1)) {N0 : Nat} {L : ML} {out : (MI)} (hX : ∀ (I' : MI), out = I' → Ex G mX2_fillCounts rmX2_fillCounts Q (0, 0) X I' L 57 [] []) : ∀ (N : Nat) (v2 : Int32) (I : MI), loopN (fun s => f_X2_fillCounts_b11 N0 a0 n0 a1 n1 s.1 s.2) N (v2, I) = some out → Ex G mX2_fillCounts rmX2_fillCounts Q (0, 0) X I L 11 [(0, .ref (gB G + a0)), (1, .ref (gB G + a1)), (2, .int v2)] [] := by
  intro N
  induction N with
  | zero => intro v2 I hf; exact absurd (loopN_zero hf) id
  | succ n ih =>
    intro v2 I hf
    rcases loopN_succ hf with ⟨s, hb, hl⟩ | hb
    · obtain ⟨v2', I'⟩ := s
      refine k_X2_fillCounts_b11 h0 h1 hb (fun _ _ he => ?_) (fun _ he => by cases he)
      cases he
      exact ih v2' I' hl
    · exact k_X2_fillCounts_b11 h0 h1 hb (fun _ _ he => by cases he) (fun x0 he => hX x0 (Sum.inr.inj he))
def f_X2_fillCounts (N : Nat) (a0 : Nat) (n0 : Nat) (a1 : Nat) (n1 : Nat) (I : MI) : Option (MI) := bnd1 (f_J7_fill_53178 N a1 n1 0 I) fun I1 => if inb 0 n1 then letv (upI I1 a1 (Int32.toNatClampNeg 0) 1) fun I4 => bnd1 (f_X2_fillCounts_l11 N a0 n0 a1 n1 0 I4) fun I14 => some I14 else none
set_option maxRecDepth 100000 in
set_option maxHeartbeats 4000000 in
theorem kb_X2_fillCounts {G : GX} {Q : State → Prop} {X : MX} {a0 : Nat} {n0 : Nat} {a1 : Nat} {n1 : Nat} (h0 : X.1 a0 = (2, n0)) (h1 : X.1 a1 = (2, n1)) {N : Nat} {I : MI} {L : ML} {out : MI} (hf : f_X2_fillCounts N a0 n0 a1 n1 I = some out) (hR : ∀ (I' : MI), out = I' → Q = RetQ G none X I' L (0, 0)) : Ex G mX2_fillCounts rmX2_fillCounts Q (0, 0) X I L 0 [(0, .ref (gB G + a0)), (1, .ref (gB G + a1))] [] := by
  unfold f_X2_fillCounts at hf
  refine ex_aload_n 1 (pc' := 1) dX2_fillCounts_0 rfl rfl rfl ?_
  refine ex_iconst (v := 0) (pc' := 2) dX2_fillCounts_1 ic_0 rfl ?_
  obtain ⟨I1, hq2, hf⟩ := of_bnd1 hf
  refine ex_callS_v (rm' := rmJ7_fill_53178) (st := []) (pc' := 5) [.ref (gB G + a1), .int 0] dX2_fillCounts_2 cl_X2_55 (k_J7_fill_53178 G h1 hq2) rfl rfl rfl (ROOM_of rfl) (Nat.le_of_ble_eq_true rfl) rfl rfl ?_
  refine ex_aload_n 1 (pc' := 6) dX2_fillCounts_5 rfl rfl rfl ?_
  refine ex_iconst (v := 0) (pc' := 7) dX2_fillCounts_6 ic_0 rfl ?_
  refine ex_iconst (v := 1) (pc' := 8) dX2_fillCounts_7 ic_1 rfl ?_
  obtain ⟨hg3, hf⟩ := of_guard hf
  refine ex_iast (pc' := 9) dX2_fillCounts_8 h1 (inb_in hg3) rfl ?_
  obtain ⟨I4, hI4, hf⟩ := of_let hf
  rw [← hI4]
  refine ex_iconst (v := 0) (pc' := 10) dX2_fillCounts_9 ic_0 rfl ?_
  refine ex_istore_n (lv' := [(2, .int 0), (0, .ref (gB G + a0)), (1, .ref (gB G + a1))]) (pc' := 11) dX2_fillCounts_10 rfl (Nat.le_of_ble_eq_true rfl) rfl rfl ?_
  refine ex_sub (lv' := [(0, .ref (gB G + a0)), (1, .ref (gB G + a1)), (2, .int 0)]) [1, 2, 0] rfl ?_
  obtain ⟨I14, hq15, hf⟩ := of_bnd1 hf
  refine k_X2_fillCounts_l11 h0 h1 (fun I14' he => ?_) _ _ _ hq15
  cases he
  exact ex_vret dX2_fillCounts_57 rfl (hR _ (Option.some.inj hf).symm)
set_option maxRecDepth 100000 in
set_option maxHeartbeats 4000000 in
theorem k_X2_fillCounts (G : GX) {X : MX} {a0 : Nat} {n0 : Nat} {a1 : Nat} {n1 : Nat} (h0 : X.1 a0 = (2, n0)) (h1 : X.1 a1 = (2, n1)) {N : Nat} {I : MI} {L : ML} {I' : MI} (hf : f_X2_fillCounts N a0 n0 a1 n1 I = some I') : Con G mX2_fillCounts yX2_fillCounts rmX2_fillCounts (fun B => [.ref (B + a0), .ref (B + a1)]) X I L none X I' L :=
  Con.of (by decide) rfl (fun h => by cases h) (fun B => Nat.le_of_ble_eq_true rfl) (fun G => kb_X2_fillCounts h0 h1 hf (fun _ he => by cases he; rfl))
theorem fl_X2_71 : FLD RX2 71 2 3 false := ⟨RX2, TX2, 7, rfl, inX2, by decide, lwg_at 610 (by decide +kernel) rfl, nmX2, tyX2_ok, rfl, rfl⟩
theorem fl_X2_26 : FLD RX2 26 2 4 true := ⟨RX2, TX2, 7, rfl, inX2, by decide, lwg_at 612 (by decide +kernel) rfl, nmX2, tyX2_ok, rfl, rfl⟩
-- X2_firstPartFrom ('RookWords$Ladder', 'firstPartFrom', '(J)I')
def rmX2_firstPartFrom : RM := ((0, 0, 0, 0), false, (some FieldType.int))
def f_X2_firstPartFrom_b8 (N : Nat) (a0 : Nat) (n0 : Nat) (v1 : Int64) (v3 : Int32) (v4 : Int32) (L : ML) : Option ((Int32 × Int32) ⊕ (Int32)) := (if v3 < v4 then if inb ((v3 + v4) / 2) n0 then (if (L (a0 + 3) (Int32.toNatClampNeg ((v3 + v4) / 2))) < v1 then some (.inl (((v3 + v4) / 2) + 1, v4)) else some (.inl (v3, (v3 + v4) / 2))) else none else some (.inr v3))
set_option maxRecDepth 100000 in
set_option maxHeartbeats 4000000 in
theorem k_X2_firstPartFrom_b8 {G : GX} {Q : State → Prop} {X : MX} {a0 : Nat} {n0 : Nat} {v1 : Int64} (h0 : shX2 X a0 n0) {v3 : Int32} {v4 : Int32} {N : Nat} {I : MI} {L : ML} {out : (Int32 × Int32) ⊕ (Int32)} (hf : f_X2_firstPartFrom_b8 N a0 n0 v1 v3 v4 L = some out) (hC : ∀ (v3' : Int32) (v4' : Int32), out = .inl (v3', v4') → Ex G mX2_firstPartFrom rmX2_firstPartFrom Q (0, 0) X I L 8 [(0, .ref (gB G + a0)), (1, .long v1), (3, .int v3'), (4, .int v4')] []) (hX : ∀ (w3 : Int32), out = .inr w3 → Ex G mX2_firstPartFrom rmX2_firstPartFrom Q (0, 0) X I L 49 [(3, .int w3)] []) : Ex G mX2_firstPartFrom rmX2_firstPartFrom Q (0, 0) X I L 8 [(0, .ref (gB G + a0)), (1, .long v1), (3, .int v3), (4, .int v4)] [] := by
  unfold f_X2_firstPartFrom_b8 at hf
  refine ex_iload_n 2 (pc' := 9) dX2_firstPartFrom_8 rfl rfl rfl ?_
  refine ex_iload 3 (pc' := 11) dX2_firstPartFrom_9 rfl rfl ?_
  refine ex_icmpge (tgt := 49) (pc' := 14) dX2_firstPartFrom_11 (by decide) rfl (fun hc1 => ?_) (fun hc1 => ?_)
  · replace hf := if_t hc1 hf
    refine ex_iload_n 2 (pc' := 15) dX2_firstPartFrom_14 rfl rfl rfl ?_
    refine ex_iload 3 (pc' := 17) dX2_firstPartFrom_15 rfl rfl ?_
    refine ex_iadd (pc' := 18) dX2_firstPartFrom_17 rfl ?_
    refine ex_iconst (v := 2) (pc' := 19) dX2_firstPartFrom_18 ic_2 rfl ?_
    refine ex_idiv (pc' := 20) dX2_firstPartFrom_19 (by decide) rfl ?_
    refine ex_istore (lv' := [(5, .int ((v3 + v4) / 2)), (0, .ref (gB G + a0)), (1, .long v1), (3, .int v3), (4, .int v4)]) (pc' := 22) dX2_firstPartFrom_20 (Nat.le_of_ble_eq_true rfl) rfl rfl ?_
    refine ex_aload_n 1 (pc' := 23) dX2_firstPartFrom_22 rfl rfl rfl ?_
    refine ex_getR (pc' := 26) dX2_firstPartFrom_23 fl_X2_26 rfl (sh2_k h0) (sh2_F4 h0) rfl ?_
    refine ex_iload 0 (pc' := 28) dX2_firstPartFrom_26 rfl rfl ?_
    obtain ⟨hg2, hf⟩ := of_guard hf
    refine ex_lald (pc' := 29) dX2_firstPartFrom_28 (sh2_T4 h0) (inb_in hg2) rfl ?_
    refine ex_lload_n 2 (pc' := 30) dX2_firstPartFrom_29 rfl rfl rfl ?_
    refine ex_lcmp (pc' := 31) dX2_firstPartFrom_30 rfl ?_
    refine ex_lifge (tgt := 42) (pc' := 34) dX2_firstPartFrom_31 (by decide) rfl (fun hc3 => ?_) (fun hc3 => ?_)
    · replace hf := if_t hc3 hf
      refine ex_iload 0 (pc' := 36) dX2_firstPartFrom_34 rfl rfl ?_
      refine ex_iconst (v := 1) (pc' := 37) dX2_firstPartFrom_36 ic_1 rfl ?_
      refine ex_iadd (pc' := 38) dX2_firstPartFrom_37 rfl ?_
      refine ex_istore_n (lv' := [(3, .int (((v3 + v4) / 2) + 1)), (5, .int ((v3 + v4) / 2)), (0, .ref (gB G + a0)), (1, .long v1), (4, .int v4)]) (pc' := 39) dX2_firstPartFrom_38 rfl (Nat.le_of_ble_eq_true rfl) rfl rfl ?_
      refine ex_goto (tgt := 46) dX2_firstPartFrom_39 (by decide) ?_
      refine ex_goto (tgt := 8) dX2_firstPartFrom_46 (by decide) ?_
      exact ex_sub [2, 3, 0, 4] rfl (hC _ _ (Option.some.inj hf).symm)
    · replace hf := if_f hc3 hf
      refine ex_iload 0 (pc' := 44) dX2_firstPartFrom_42 rfl rfl ?_
      refine ex_istore (lv' := [(4, .int ((v3 + v4) / 2)), (5, .int ((v3 + v4) / 2)), (0, .ref (gB G + a0)), (1, .long v1), (3, .int v3)]) (pc' := 46) dX2_firstPartFrom_44 (Nat.le_of_ble_eq_true rfl) rfl rfl ?_
      refine ex_goto (tgt := 8) dX2_firstPartFrom_46 (by decide) ?_
      exact ex_sub [2, 3, 4, 0] rfl (hC _ _ (Option.some.inj hf).symm)
  · replace hf := if_f hc1 hf
    exact ex_sub [2] rfl (hX _ (Option.some.inj hf).symm)
def f_X2_firstPartFrom_l8 (N : Nat) (a0 : Nat) (n0 : Nat) (v1 : Int64) (v3 : Int32) (v4 : Int32) (L : ML) : Option (Int32) := loopN (fun s => f_X2_firstPartFrom_b8 N a0 n0 v1 s.1 s.2 L) N (v3, v4)
set_option maxRecDepth 100000 in
set_option maxHeartbeats 4000000 in
theorem k_X2_firstPartFrom_l8 {G : GX} {Q : State → Prop} {X : MX} {a0 : Nat} {n0 : Nat} {v1 : Int64} (h0 : shX2 X a0 n0) {N0 : Nat} {I : MI} {L : ML} {out : (Int32)} (hX : ∀ (w3 : Int32), out = w3 → Ex G mX2_firstPartFrom rmX2_firstPartFrom Q (0, 0) X I L 49 [(3, .int w3)] []) : ∀ (N : Nat) (v3 : Int32) (v4 : Int32), loopN (fun s => f_X2_firstPartFrom_b8 N0 a0 n0 v1 s.1 s.2 L) N (v3, v4) = some out → Ex G mX2_firstPartFrom rmX2_firstPartFrom Q (0, 0) X I L 8 [(0, .ref (gB G + a0)), (1, .long v1), (3, .int v3), (4, .int v4)] [] := by
  intro N
  induction N with
  | zero => intro v3 v4 hf; exact absurd (loopN_zero hf) id
  | succ n ih =>
    intro v3 v4 hf
    rcases loopN_succ hf with ⟨s, hb, hl⟩ | hb
    · obtain ⟨v3', v4'⟩ := s
      refine k_X2_firstPartFrom_b8 h0 hb (fun _ _ he => ?_) (fun _ he => by cases he)
      cases he
      exact ih v3' v4' hl
    · exact k_X2_firstPartFrom_b8 h0 hb (fun _ _ he => by cases he) (fun x0 he => hX x0 (Sum.inr.inj he))
def f_X2_firstPartFrom (N : Nat) (a0 : Nat) (n0 : Nat) (v1 : Int64) (I : MI) (L : ML) : Option (Int32) := bnd1 (f_X2_firstPartFrom_l8 N a0 n0 v1 0 (I a0 3) L) fun x4 => some x4
set_option maxRecDepth 100000 in
set_option maxHeartbeats 4000000 in
theorem kb_X2_firstPartFrom {G : GX} {Q : State → Prop} {X : MX} {a0 : Nat} {n0 : Nat} {v1 : Int64} (h0 : shX2 X a0 n0) {N : Nat} {I : MI} {L : ML} {out : Int32} (hf : f_X2_firstPartFrom N a0 n0 v1 I L = some out) (hR : ∀ (z : Int32), out = z → Q = RetQ G (some (.int z)) X I L (0, 0)) : Ex G mX2_firstPartFrom rmX2_firstPartFrom Q (0, 0) X I L 0 [(0, .ref (gB G + a0)), (1, .long v1)] [] := by
  unfold f_X2_firstPartFrom at hf
  refine ex_iconst (v := 0) (pc' := 1) dX2_firstPartFrom_0 ic_0 rfl ?_
  refine ex_istore_n (lv' := [(3, .int 0), (0, .ref (gB G + a0)), (1, .long v1)]) (pc' := 2) dX2_firstPartFrom_1 rfl (Nat.le_of_ble_eq_true rfl) rfl rfl ?_
  refine ex_aload_n 1 (pc' := 3) dX2_firstPartFrom_2 rfl rfl rfl ?_
  refine ex_getI (pc' := 6) dX2_firstPartFrom_3 fl_X2_71 rfl (sh2_k h0) rfl ?_
  refine ex_istore (lv' := [(4, .int (I a0 3)), (3, .int 0), (0, .ref (gB G + a0)), (1, .long v1)]) (pc' := 8) dX2_firstPartFrom_6 (Nat.le_of_ble_eq_true rfl) rfl rfl ?_
  refine ex_sub (lv' := [(0, .ref (gB G + a0)), (1, .long v1), (3, .int 0), (4, .int (I a0 3))]) [2, 3, 1, 0] rfl ?_
  obtain ⟨x4, hq5, hf⟩ := of_bnd1 hf
  refine k_X2_firstPartFrom_l8 h0 (fun x4' he => ?_) _ _ _ hq5
  cases he
  refine ex_iload_n 0 (pc' := 50) dX2_firstPartFrom_49 rfl rfl rfl ?_
  exact ex_iret dX2_firstPartFrom_50 rfl (hR _ (Option.some.inj hf).symm)
set_option maxRecDepth 100000 in
set_option maxHeartbeats 4000000 in
theorem k_X2_firstPartFrom (G : GX) {X : MX} {a0 : Nat} {n0 : Nat} {v1 : Int64} (h0 : shX2 X a0 n0) {N : Nat} {I : MI} {L : ML} {z : Int32} (hf : f_X2_firstPartFrom N a0 n0 v1 I L = some z) : Con G mX2_firstPartFrom yX2_firstPartFrom rmX2_firstPartFrom (fun B => [.ref (B + a0), .long v1]) X I L (some (.int z)) X I L :=
  Con.of (by decide) rfl (fun h => by cases h) (fun B => Nat.le_of_ble_eq_true rfl) (fun G => kb_X2_firstPartFrom h0 hf (fun _ he => by cases he; rfl))
theorem cl_X2_61 : Cond.methodLink RX2 61 Lib.Math.max.name ∈ lwg ∧ Cond.static Lib.Math.max.name ∈ lwg ∧ Cond.initialized "java/lang/Math" ∈ lwg ∧ Cond.code Lib.Math.max.name Lib.Math.max.code 2 (some .int) ∈ lwg := ⟨lwg_at 603 (by decide +kernel) rfl, lwg_at 368 (by decide +kernel) rfl, lwg_at 62 (by decide +kernel) rfl, lwg_at 369 (by decide +kernel) rfl⟩
-- X2_goOn ('RookWords$Ladder', 'goOn', '([I)V')
def rmX2_goOn : RM := ((1, 21, 0, 0), false, none)
def f_X2_goOn_b5 (N : Nat) (a0 : Nat) (n0 : Nat) (v1 : Int32) (I : MI) : Option ((Int32) ⊕ (Int32)) := (if v1 < 0 then some (.inr v1) else if inb v1 n0 then (if (I a0 (Int32.toNatClampNeg v1)) < (Int32.ofNat n0) then some (.inr v1) else some (.inl (v1 + (-1)))) else none)
set_option maxRecDepth 100000 in
set_option maxHeartbeats 4000000 in
theorem k_X2_goOn_b5 {G : GX} {Q : State → Prop} {X : MX} {a0 : Nat} {n0 : Nat} (h0 : X.1 a0 = (2, n0)) {v1 : Int32} {N : Nat} {I : MI} {L : ML} {out : (Int32) ⊕ (Int32)} (hf : f_X2_goOn_b5 N a0 n0 v1 I = some out) (hC : ∀ (v1' : Int32), out = .inl v1' → Ex G mX2_goOn rmX2_goOn Q (0, 0) X I L 5 [(0, .ref (gB G + a0)), (1, .int v1')] []) (hX : ∀ (w1 : Int32), out = .inr w1 → Ex G mX2_goOn rmX2_goOn Q (0, 0) X I L 23 [(0, .ref (gB G + a0)), (1, .int w1)] []) : Ex G mX2_goOn rmX2_goOn Q (0, 0) X I L 5 [(0, .ref (gB G + a0)), (1, .int v1)] [] := by
  unfold f_X2_goOn_b5 at hf
  refine ex_iload_n 1 (pc' := 6) dX2_goOn_5 rfl rfl rfl ?_
  refine ex_iflt (tgt := 23) (pc' := 9) dX2_goOn_6 (by decide) rfl (fun hc1 => ?_) (fun hc1 => ?_)
  · replace hf := if_t hc1 hf
    exact ex_sub [0, 1] rfl (hX _ (Option.some.inj hf).symm)
  · replace hf := if_f hc1 hf
    refine ex_aload_n 0 (pc' := 10) dX2_goOn_9 rfl rfl rfl ?_
    refine ex_iload_n 1 (pc' := 11) dX2_goOn_10 rfl rfl rfl ?_
    obtain ⟨hg2, hf⟩ := of_guard hf
    refine ex_iald (pc' := 12) dX2_goOn_11 h0 (inb_in hg2) rfl ?_
    refine ex_aload_n 0 (pc' := 13) dX2_goOn_12 rfl rfl rfl ?_
    refine ex_alen (pc' := 14) dX2_goOn_13 h0 (Or.inl rfl) rfl rfl ?_
    refine ex_icmplt (tgt := 23) (pc' := 17) dX2_goOn_14 (by decide) rfl (fun hc3 => ?_) (fun hc3 => ?_)
    · replace hf := if_t hc3 hf
      exact ex_sub [0, 1] rfl (hX _ (Option.some.inj hf).symm)
    · replace hf := if_f hc3 hf
      refine ex_iincc (lv' := [(1, .int (v1 + (-1))), (0, .ref (gB G + a0))]) 1 (pc' := 20) dX2_goOn_17 rfl ic_m1 (Nat.le_of_ble_eq_true rfl) rfl rfl ?_
      refine ex_goto (tgt := 5) dX2_goOn_20 (by decide) ?_
      exact ex_sub [1, 0] rfl (hC _ (Option.some.inj hf).symm)
def f_X2_goOn_l5 (N : Nat) (a0 : Nat) (n0 : Nat) (v1 : Int32) (I : MI) : Option (Int32) := loopN (fun s => f_X2_goOn_b5 N a0 n0 s I) N v1
set_option maxRecDepth 100000 in
set_option maxHeartbeats 4000000 in
theorem k_X2_goOn_l5 {G : GX} {Q : State → Prop} {X : MX} {a0 : Nat} {n0 : Nat} (h0 : X.1 a0 = (2, n0)) {N0 : Nat} {I : MI} {L : ML} {out : (Int32)} (hX : ∀ (w1 : Int32), out = w1 → Ex G mX2_goOn rmX2_goOn Q (0, 0) X I L 23 [(0, .ref (gB G + a0)), (1, .int w1)] []) : ∀ (N : Nat) (v1 : Int32), loopN (fun s => f_X2_goOn_b5 N0 a0 n0 s I) N v1 = some out → Ex G mX2_goOn rmX2_goOn Q (0, 0) X I L 5 [(0, .ref (gB G + a0)), (1, .int v1)] [] := by
  intro N
  induction N with
  | zero => intro v1 hf; exact absurd (loopN_zero hf) id
  | succ n ih =>
    intro v1 hf
    rcases loopN_succ hf with ⟨s, hb, hl⟩ | hb
    · skip
      refine k_X2_goOn_b5 h0 hb (fun _ he => ?_) (fun _ he => by cases he)
      cases he
      exact ih s hl
    · exact k_X2_goOn_b5 h0 hb (fun _ he => by cases he) (fun x0 he => hX x0 (Sum.inr.inj he))
def f_X2_goOn_b44 (N : Nat) (a0 : Nat) (n0 : Nat) (v2 : Int32) (v3 : Int32) (I : MI) : Option ((Int32 × MI) ⊕ (MI)) := (if v3 < (Int32.ofNat n0) then if inb v3 n0 then letv (upI I a0 (Int32.toNatClampNeg v3) v2) fun I10 => some (.inl (v3 + 1, I10)) else none else some (.inr I))
set_option maxRecDepth 100000 in
set_option maxHeartbeats 4000000 in
theorem k_X2_goOn_b44 {G : GX} {Q : State → Prop} {X : MX} {a0 : Nat} {n0 : Nat} {v2 : Int32} (h0 : X.1 a0 = (2, n0)) {v3 : Int32} {N : Nat} {I : MI} {L : ML} {out : (Int32 × MI) ⊕ (MI)} (hf : f_X2_goOn_b44 N a0 n0 v2 v3 I = some out) (hC : ∀ (v3' : Int32) (I' : MI), out = .inl (v3', I') → Ex G mX2_goOn rmX2_goOn Q (0, 0) X I' L 44 [(0, .ref (gB G + a0)), (2, .int v2), (3, .int v3')] []) (hX : ∀ (I' : MI), out = .inr I' → Ex G mX2_goOn rmX2_goOn Q (0, 0) X I' L 60 [] []) : Ex G mX2_goOn rmX2_goOn Q (0, 0) X I L 44 [(0, .ref (gB G + a0)), (2, .int v2), (3, .int v3)] [] := by
  unfold f_X2_goOn_b44 at hf
  refine ex_iload_n 2 (pc' := 45) dX2_goOn_44 rfl rfl rfl ?_
  refine ex_aload_n 0 (pc' := 46) dX2_goOn_45 rfl rfl rfl ?_
  refine ex_alen (pc' := 47) dX2_goOn_46 h0 (Or.inl rfl) rfl rfl ?_
  refine ex_icmpge (tgt := 60) (pc' := 50) dX2_goOn_47 (by decide) rfl (fun hc8 => ?_) (fun hc8 => ?_)
  · replace hf := if_t hc8 hf
    refine ex_aload_n 0 (pc' := 51) dX2_goOn_50 rfl rfl rfl ?_
    refine ex_iload_n 2 (pc' := 52) dX2_goOn_51 rfl rfl rfl ?_
    refine ex_iload_n 1 (pc' := 53) dX2_goOn_52 rfl rfl rfl ?_
    obtain ⟨hg9, hf⟩ := of_guard hf
    refine ex_iast (pc' := 54) dX2_goOn_53 h0 (inb_in hg9) rfl ?_
    obtain ⟨I10, hI10, hf⟩ := of_let hf
    rw [← hI10]
    refine ex_iincc (lv' := [(3, .int (v3 + 1)), (0, .ref (gB G + a0)), (2, .int v2)]) 2 (pc' := 57) dX2_goOn_54 rfl ic_1 (Nat.le_of_ble_eq_true rfl) rfl rfl ?_
    refine ex_goto (tgt := 44) dX2_goOn_57 (by decide) ?_
    exact ex_sub [1, 2, 0] rfl (hC _ _ (Option.some.inj hf).symm)
  · replace hf := if_f hc8 hf
    exact ex_sub [] rfl (hX _ (Option.some.inj hf).symm)
def f_X2_goOn_l44 (N : Nat) (a0 : Nat) (n0 : Nat) (v2 : Int32) (v3 : Int32) (I : MI) : Option (MI) := loopN (fun s => f_X2_goOn_b44 N a0 n0 v2 s.1 s.2) N (v3, I)
set_option maxRecDepth 100000 in
set_option maxHeartbeats 4000000 in
theorem k_X2_goOn_l44 {G : GX} {Q : State → Prop} {X : MX} {a0 : Nat} {n0 : Nat} {v2 : Int32} (h0 : X.1 a0 = (2, n0)) {N0 : Nat} {L : ML} {out : (MI)} (hX : ∀ (I' : MI), out = I' → Ex G mX2_goOn rmX2_goOn Q (0, 0) X I' L 60 [] []) : ∀ (N : Nat) (v3 : Int32) (I : MI), loopN (fun s => f_X2_goOn_b44 N0 a0 n0 v2 s.1 s.2) N (v3, I) = some out → Ex G mX2_goOn rmX2_goOn Q (0, 0) X I L 44 [(0, .ref (gB G + a0)), (2, .int v2), (3, .int v3)] [] := by
  intro N
  induction N with
  | zero => intro v3 I hf; exact absurd (loopN_zero hf) id
  | succ n ih =>
    intro v3 I hf
    rcases loopN_succ hf with ⟨s, hb, hl⟩ | hb
    · obtain ⟨v3', I'⟩ := s
      refine k_X2_goOn_b44 h0 hb (fun _ _ he => ?_) (fun _ he => by cases he)
      cases he
      exact ih v3' I' hl
    · exact k_X2_goOn_b44 h0 hb (fun _ _ he => by cases he) (fun x0 he => hX x0 (Sum.inr.inj he))
def f_X2_goOn_j23 (N : Nat) (a0 : Nat) (n0 : Nat) (v1 : Int32) (I : MI) : Option (MI) := (if v1 < 0 then letv (if v1 < 0 then 0 else v1) fun x7 => bnd1 (f_X2_goOn_l44 N a0 n0 (Int32.ofNat n0) x7 I) fun I11 => some I11 else if inb v1 n0 then letv ((I a0 (Int32.toNatClampNeg v1)) + 1) fun x14 => letv (if v1 < 0 then 0 else v1) fun x15 => bnd1 (f_X2_goOn_l44 N a0 n0 x14 x15 I) fun I16 => some I16 else none)
set_option maxRecDepth 100000 in
set_option maxHeartbeats 4000000 in
theorem k_X2_goOn_j23 {G : GX} {Q : State → Prop} {X : MX} {a0 : Nat} {n0 : Nat} {v1 : Int32} (h0 : X.1 a0 = (2, n0)) {N : Nat} {I : MI} {L : ML} {out : MI} (hf : f_X2_goOn_j23 N a0 n0 v1 I = some out) (hR : ∀ (I' : MI), out = I' → Q = RetQ G none X I' L (0, 0)) : Ex G mX2_goOn rmX2_goOn Q (0, 0) X I L 23 [(0, .ref (gB G + a0)), (1, .int v1)] [] := by
  unfold f_X2_goOn_j23 at hf
  refine ex_iload_n 1 (pc' := 24) dX2_goOn_23 rfl rfl rfl ?_
  refine ex_iflt (tgt := 35) (pc' := 27) dX2_goOn_24 (by decide) rfl (fun hc6 => ?_) (fun hc6 => ?_)
  · replace hf := if_t hc6 hf
    refine ex_aload_n 0 (pc' := 36) dX2_goOn_35 rfl rfl rfl ?_
    refine ex_alen (pc' := 37) dX2_goOn_36 h0 (Or.inl rfl) rfl rfl ?_
    refine ex_istore_n (lv' := [(2, .int (Int32.ofNat n0)), (0, .ref (gB G + a0)), (1, .int v1)]) (pc' := 38) dX2_goOn_37 rfl (Nat.le_of_ble_eq_true rfl) rfl rfl ?_
    refine ex_iload_n 2 (pc' := 39) dX2_goOn_38 rfl rfl rfl ?_
    refine ex_iconst (v := 0) (pc' := 40) dX2_goOn_39 ic_0 rfl ?_
    refine ex_mmax (pc' := 43) dX2_goOn_40 cl_X2_61 ⟨Nat.le_of_ble_eq_true rfl, Nat.le_of_ble_eq_true rfl, Nat.le_of_ble_eq_true rfl, Nat.le_of_ble_eq_true rfl⟩ rfl ?_
    obtain ⟨x7, hx7, hf⟩ := of_let hf
    rw [← hx7]
    refine ex_istore_n (lv' := [(3, .int x7), (2, .int (Int32.ofNat n0)), (0, .ref (gB G + a0)), (1, .int v1)]) (pc' := 44) dX2_goOn_43 rfl (Nat.le_of_ble_eq_true rfl) rfl rfl ?_
    refine ex_sub (lv' := [(0, .ref (gB G + a0)), (2, .int (Int32.ofNat n0)), (3, .int x7)]) [2, 1, 0] rfl ?_
    obtain ⟨I11, hq12, hf⟩ := of_bnd1 hf
    refine k_X2_goOn_l44 h0 (fun I11' he => ?_) _ _ _ hq12
    cases he
    exact ex_vret dX2_goOn_60 rfl (hR _ (Option.some.inj hf).symm)
  · replace hf := if_f hc6 hf
    refine ex_aload_n 0 (pc' := 28) dX2_goOn_27 rfl rfl rfl ?_
    refine ex_iload_n 1 (pc' := 29) dX2_goOn_28 rfl rfl rfl ?_
    obtain ⟨hg13, hf⟩ := of_guard hf
    refine ex_iald (pc' := 30) dX2_goOn_29 h0 (inb_in hg13) rfl ?_
    refine ex_iconst (v := 1) (pc' := 31) dX2_goOn_30 ic_1 rfl ?_
    refine ex_iadd (pc' := 32) dX2_goOn_31 rfl ?_
    refine ex_goto (tgt := 37) dX2_goOn_32 (by decide) ?_
    obtain ⟨x14, hx14, hf⟩ := of_let hf
    rw [← hx14]
    refine ex_istore_n (lv' := [(2, .int x14), (0, .ref (gB G + a0)), (1, .int v1)]) (pc' := 38) dX2_goOn_37 rfl (Nat.le_of_ble_eq_true rfl) rfl rfl ?_
    refine ex_iload_n 2 (pc' := 39) dX2_goOn_38 rfl rfl rfl ?_
    refine ex_iconst (v := 0) (pc' := 40) dX2_goOn_39 ic_0 rfl ?_
    refine ex_mmax (pc' := 43) dX2_goOn_40 cl_X2_61 ⟨Nat.le_of_ble_eq_true rfl, Nat.le_of_ble_eq_true rfl, Nat.le_of_ble_eq_true rfl, Nat.le_of_ble_eq_true rfl⟩ rfl ?_
    obtain ⟨x15, hx15, hf⟩ := of_let hf
    rw [← hx15]
    refine ex_istore_n (lv' := [(3, .int x15), (2, .int x14), (0, .ref (gB G + a0)), (1, .int v1)]) (pc' := 44) dX2_goOn_43 rfl (Nat.le_of_ble_eq_true rfl) rfl rfl ?_
    refine ex_sub (lv' := [(0, .ref (gB G + a0)), (2, .int x14), (3, .int x15)]) [2, 1, 0] rfl ?_
    obtain ⟨I16, hq17, hf⟩ := of_bnd1 hf
    refine k_X2_goOn_l44 h0 (fun I16' he => ?_) _ _ _ hq17
    cases he
    exact ex_vret dX2_goOn_60 rfl (hR _ (Option.some.inj hf).symm)
def f_X2_goOn (N : Nat) (a0 : Nat) (n0 : Nat) (I : MI) : Option (MI) := bnd1 (f_X2_goOn_l5 N a0 n0 ((Int32.ofNat n0) - 1) I) fun x4 => f_X2_goOn_j23 N a0 n0 x4 I
set_option maxRecDepth 100000 in
set_option maxHeartbeats 4000000 in
theorem kb_X2_goOn {G : GX} {Q : State → Prop} {X : MX} {a0 : Nat} {n0 : Nat} (h0 : X.1 a0 = (2, n0)) {N : Nat} {I : MI} {L : ML} {out : MI} (hf : f_X2_goOn N a0 n0 I = some out) (hR : ∀ (I' : MI), out = I' → Q = RetQ G none X I' L (0, 0)) : Ex G mX2_goOn rmX2_goOn Q (0, 0) X I L 0 [(0, .ref (gB G + a0))] [] := by
  unfold f_X2_goOn at hf
  refine ex_aload_n 0 (pc' := 1) dX2_goOn_0 rfl rfl rfl ?_
  refine ex_alen (pc' := 2) dX2_goOn_1 h0 (Or.inl rfl) rfl rfl ?_
  refine ex_iconst (v := 1) (pc' := 3) dX2_goOn_2 ic_1 rfl ?_
  refine ex_isub (pc' := 4) dX2_goOn_3 rfl ?_
  refine ex_istore_n (lv' := [(1, .int ((Int32.ofNat n0) - 1)), (0, .ref (gB G + a0))]) (pc' := 5) dX2_goOn_4 rfl (Nat.le_of_ble_eq_true rfl) rfl rfl ?_
  refine ex_sub (lv' := [(0, .ref (gB G + a0)), (1, .int ((Int32.ofNat n0) - 1))]) [1, 0] rfl ?_
  obtain ⟨x4, hq5, hf⟩ := of_bnd1 hf
  refine k_X2_goOn_l5 h0 (fun x4' he => ?_) _ _ hq5
  cases he
  refine ex_sub [0, 1] rfl (k_X2_goOn_j23 h0 hf hR)
set_option maxRecDepth 100000 in
set_option maxHeartbeats 4000000 in
theorem k_X2_goOn (G : GX) {X : MX} {a0 : Nat} {n0 : Nat} (h0 : X.1 a0 = (2, n0)) {N : Nat} {I : MI} {L : ML} {I' : MI} (hf : f_X2_goOn N a0 n0 I = some I') : Con G mX2_goOn yX2_goOn rmX2_goOn (fun B => [.ref (B + a0)]) X I L none X I' L :=
  Con.of (by decide) rfl (fun h => by cases h) (fun B => Nat.le_of_ble_eq_true rfl) (fun G => kb_X2_goOn h0 hf (fun _ he => by cases he; rfl))
theorem fl_X2_29 : FLD RX2 29 2 5 true := ⟨RX2, TX2, 7, rfl, inX2, by decide, lwg_at 613 (by decide +kernel) rfl, nmX2, tyX2_ok, rfl, rfl⟩
-- X2_greatestPart ('RookWords$Ladder', 'greatestPart', '()I')
def rmX2_greatestPart : RM := ((1, 21, 0, 0), false, (some FieldType.int))
def f_X2_greatestPart_b4 (N : Nat) (a0 : Nat) (n0 : Nat) (v1 : Int32) (v2 : Int32) (I : MI) : Option ((Int32 × Int32) ⊕ (Int32)) := (if v2 < (I a0 3) then if inb v2 n0 then letv (if v1 < (I (a0 + 4) (Int32.toNatClampNeg v2)) then (I (a0 + 4) (Int32.toNatClampNeg v2)) else v1) fun x3 => some (.inl (x3, v2 + 1)) else none else some (.inr v1))
set_option maxRecDepth 100000 in
set_option maxHeartbeats 4000000 in
theorem k_X2_greatestPart_b4 {G : GX} {Q : State → Prop} {X : MX} {a0 : Nat} {n0 : Nat} (h0 : shX2 X a0 n0) {v1 : Int32} {v2 : Int32} {N : Nat} {I : MI} {L : ML} {out : (Int32 × Int32) ⊕ (Int32)} (hf : f_X2_greatestPart_b4 N a0 n0 v1 v2 I = some out) (hC : ∀ (v1' : Int32) (v2' : Int32), out = .inl (v1', v2') → Ex G mX2_greatestPart rmX2_greatestPart Q (0, 0) X I L 4 [(0, .ref (gB G + a0)), (1, .int v1'), (2, .int v2')] []) (hX : ∀ (w1 : Int32), out = .inr w1 → Ex G mX2_greatestPart rmX2_greatestPart Q (0, 0) X I L 29 [(1, .int w1)] []) : Ex G mX2_greatestPart rmX2_greatestPart Q (0, 0) X I L 4 [(0, .ref (gB G + a0)), (1, .int v1), (2, .int v2)] [] := by
  unfold f_X2_greatestPart_b4 at hf
  refine ex_iload_n 2 (pc' := 5) dX2_greatestPart_4 rfl rfl rfl ?_
  refine ex_aload_n 0 (pc' := 6) dX2_greatestPart_5 rfl rfl rfl ?_
  refine ex_getI (pc' := 9) dX2_greatestPart_6 fl_X2_71 rfl (sh2_k h0) rfl ?_
  refine ex_icmpge (tgt := 29) (pc' := 12) dX2_greatestPart_9 (by decide) rfl (fun hc1 => ?_) (fun hc1 => ?_)
  · replace hf := if_t hc1 hf
    refine ex_iload_n 1 (pc' := 13) dX2_greatestPart_12 rfl rfl rfl ?_
    refine ex_aload_n 0 (pc' := 14) dX2_greatestPart_13 rfl rfl rfl ?_
    refine ex_getR (pc' := 17) dX2_greatestPart_14 fl_X2_29 rfl (sh2_k h0) (sh2_F5 h0) rfl ?_
    refine ex_iload_n 2 (pc' := 18) dX2_greatestPart_17 rfl rfl rfl ?_
    obtain ⟨hg2, hf⟩ := of_guard hf
    refine ex_iald (pc' := 19) dX2_greatestPart_18 (sh2_T5 h0) (inb_in hg2) rfl ?_
    refine ex_mmax (pc' := 22) dX2_greatestPart_19 cl_X2_61 ⟨Nat.le_of_ble_eq_true rfl, Nat.le_of_ble_eq_true rfl, Nat.le_of_ble_eq_true rfl, Nat.le_of_ble_eq_true rfl⟩ rfl ?_
    obtain ⟨x3, hx3, hf⟩ := of_let hf
    rw [← hx3]
    refine ex_istore_n (lv' := [(1, .int x3), (0, .ref (gB G + a0)), (2, .int v2)]) (pc' := 23) dX2_greatestPart_22 rfl (Nat.le_of_ble_eq_true rfl) rfl rfl ?_
    refine ex_iincc (lv' := [(2, .int (v2 + 1)), (1, .int x3), (0, .ref (gB G + a0))]) 2 (pc' := 26) dX2_greatestPart_23 rfl ic_1 (Nat.le_of_ble_eq_true rfl) rfl rfl ?_
    refine ex_goto (tgt := 4) dX2_greatestPart_26 (by decide) ?_
    exact ex_sub [2, 1, 0] rfl (hC _ _ (Option.some.inj hf).symm)
  · replace hf := if_f hc1 hf
    exact ex_sub [1] rfl (hX _ (Option.some.inj hf).symm)
def f_X2_greatestPart_l4 (N : Nat) (a0 : Nat) (n0 : Nat) (v1 : Int32) (v2 : Int32) (I : MI) : Option (Int32) := loopN (fun s => f_X2_greatestPart_b4 N a0 n0 s.1 s.2 I) N (v1, v2)
set_option maxRecDepth 100000 in
set_option maxHeartbeats 4000000 in
theorem k_X2_greatestPart_l4 {G : GX} {Q : State → Prop} {X : MX} {a0 : Nat} {n0 : Nat} (h0 : shX2 X a0 n0) {N0 : Nat} {I : MI} {L : ML} {out : (Int32)} (hX : ∀ (w1 : Int32), out = w1 → Ex G mX2_greatestPart rmX2_greatestPart Q (0, 0) X I L 29 [(1, .int w1)] []) : ∀ (N : Nat) (v1 : Int32) (v2 : Int32), loopN (fun s => f_X2_greatestPart_b4 N0 a0 n0 s.1 s.2 I) N (v1, v2) = some out → Ex G mX2_greatestPart rmX2_greatestPart Q (0, 0) X I L 4 [(0, .ref (gB G + a0)), (1, .int v1), (2, .int v2)] [] := by
  intro N
  induction N with
  | zero => intro v1 v2 hf; exact absurd (loopN_zero hf) id
  | succ n ih =>
    intro v1 v2 hf
    rcases loopN_succ hf with ⟨s, hb, hl⟩ | hb
    · obtain ⟨v1', v2'⟩ := s
      refine k_X2_greatestPart_b4 h0 hb (fun _ _ he => ?_) (fun _ he => by cases he)
      cases he
      exact ih v1' v2' hl
    · exact k_X2_greatestPart_b4 h0 hb (fun _ _ he => by cases he) (fun x0 he => hX x0 (Sum.inr.inj he))
def f_X2_greatestPart (N : Nat) (a0 : Nat) (n0 : Nat) (I : MI) : Option (Int32) := bnd1 (f_X2_greatestPart_l4 N a0 n0 0 0 I) fun x4 => some x4
set_option maxRecDepth 100000 in
set_option maxHeartbeats 4000000 in
theorem kb_X2_greatestPart {G : GX} {Q : State → Prop} {X : MX} {a0 : Nat} {n0 : Nat} (h0 : shX2 X a0 n0) {N : Nat} {I : MI} {L : ML} {out : Int32} (hf : f_X2_greatestPart N a0 n0 I = some out) (hR : ∀ (z : Int32), out = z → Q = RetQ G (some (.int z)) X I L (0, 0)) : Ex G mX2_greatestPart rmX2_greatestPart Q (0, 0) X I L 0 [(0, .ref (gB G + a0))] [] := by
  unfold f_X2_greatestPart at hf
  refine ex_iconst (v := 0) (pc' := 1) dX2_greatestPart_0 ic_0 rfl ?_
  refine ex_istore_n (lv' := [(1, .int 0), (0, .ref (gB G + a0))]) (pc' := 2) dX2_greatestPart_1 rfl (Nat.le_of_ble_eq_true rfl) rfl rfl ?_
  refine ex_iconst (v := 0) (pc' := 3) dX2_greatestPart_2 ic_0 rfl ?_
  refine ex_istore_n (lv' := [(2, .int 0), (1, .int 0), (0, .ref (gB G + a0))]) (pc' := 4) dX2_greatestPart_3 rfl (Nat.le_of_ble_eq_true rfl) rfl rfl ?_
  refine ex_sub (lv' := [(0, .ref (gB G + a0)), (1, .int 0), (2, .int 0)]) [2, 1, 0] rfl ?_
  obtain ⟨x4, hq5, hf⟩ := of_bnd1 hf
  refine k_X2_greatestPart_l4 h0 (fun x4' he => ?_) _ _ _ hq5
  cases he
  refine ex_iload_n 0 (pc' := 30) dX2_greatestPart_29 rfl rfl rfl ?_
  exact ex_iret dX2_greatestPart_30 rfl (hR _ (Option.some.inj hf).symm)
set_option maxRecDepth 100000 in
set_option maxHeartbeats 4000000 in
theorem k_X2_greatestPart (G : GX) {X : MX} {a0 : Nat} {n0 : Nat} (h0 : shX2 X a0 n0) {N : Nat} {I : MI} {L : ML} {z : Int32} (hf : f_X2_greatestPart N a0 n0 I = some z) : Con G mX2_greatestPart yX2_greatestPart rmX2_greatestPart (fun B => [.ref (B + a0)]) X I L (some (.int z)) X I L :=
  Con.of (by decide) rfl (fun h => by cases h) (fun B => Nat.le_of_ble_eq_true rfl) (fun G => kb_X2_greatestPart h0 hf (fun _ he => by cases he; rfl))
theorem fl_X2_15 : FLD RX2 15 2 0 true := ⟨RX2, TX2, 7, rfl, inX2, by decide, lwg_at 604 (by decide +kernel) rfl, nmX2, tyX2_ok, rfl, rfl⟩
theorem fl_X2_19 : FLD RX2 19 2 1 true := ⟨RX2, TX2, 7, rfl, inX2, by decide, lwg_at 606 (by decide +kernel) rfl, nmX2, tyX2_ok, rfl, rfl⟩
theorem bp_m5 : (Int8.ofInt (-5)).toInt32 = (-5) := by decide
-- X2_numberOf ('RookWords$Ladder', 'numberOf', '(I)I')
def rmX2_numberOf : RM := ((0, 0, 0, 0), false, (some FieldType.int))
def f_X2_numberOf_b2 (N : Nat) (a0 : Nat) (n0 : Nat) (v1 : Int32) (v2 : Int32) (I : MI) : Option ((Int32) ⊕ ((Unit) ⊕ (Int32))) := (if v2 < (I a0 0) then if inb v2 n0 then (if (I (a0 + 1) (Int32.toNatClampNeg v2)) = v1 then some (.inr (.inr v2)) else some (.inl (v2 + 1))) else none else some (.inr (.inl ())))
set_option maxRecDepth 100000 in
set_option maxHeartbeats 4000000 in
theorem k_X2_numberOf_b2 {G : GX} {Q : State → Prop} {X : MX} {a0 : Nat} {n0 : Nat} {v1 : Int32} (h0 : shX2 X a0 n0) {v2 : Int32} {N : Nat} {I : MI} {L : ML} {out : (Int32) ⊕ ((Unit) ⊕ (Int32))} (hf : f_X2_numberOf_b2 N a0 n0 v1 v2 I = some out) (hC : ∀ (v2' : Int32), out = .inl v2' → Ex G mX2_numberOf rmX2_numberOf Q (0, 0) X I L 2 [(0, .ref (gB G + a0)), (1, .int v1), (2, .int v2')] []) (hX : ∀ (u : Unit), out = .inr (.inl u) → Ex G mX2_numberOf rmX2_numberOf Q (0, 0) X I L 28 [] []) (hR : ∀ (z : Int32), out = .inr (.inr z) → Q = RetQ G (some (.int z)) X I L (0, 0)) : Ex G mX2_numberOf rmX2_numberOf Q (0, 0) X I L 2 [(0, .ref (gB G + a0)), (1, .int v1), (2, .int v2)] [] := by
  unfold f_X2_numberOf_b2 at hf
  refine ex_iload_n 2 (pc' := 3) dX2_numberOf_2 rfl rfl rfl ?_
  refine ex_aload_n 0 (pc' := 4) dX2_numberOf_3 rfl rfl rfl ?_
  refine ex_getI (pc' := 7) dX2_numberOf_4 fl_X2_15 rfl (sh2_k h0) rfl ?_
  refine ex_icmpge (tgt := 28) (pc' := 10) dX2_numberOf_7 (by decide) rfl (fun hc1 => ?_) (fun hc1 => ?_)
  · replace hf := if_t hc1 hf
    refine ex_aload_n 0 (pc' := 11) dX2_numberOf_10 rfl rfl rfl ?_
    refine ex_getR (pc' := 14) dX2_numberOf_11 fl_X2_19 rfl (sh2_k h0) (sh2_F1 h0) rfl ?_
    refine ex_iload_n 2 (pc' := 15) dX2_numberOf_14 rfl rfl rfl ?_
    obtain ⟨hg2, hf⟩ := of_guard hf
    refine ex_iald (pc' := 16) dX2_numberOf_15 (sh2_T1 h0) (inb_in hg2) rfl ?_
    refine ex_iload_n 1 (pc' := 17) dX2_numberOf_16 rfl rfl rfl ?_
    refine ex_icmpne (tgt := 22) (pc' := 20) dX2_numberOf_17 (by decide) rfl (fun hc3 => ?_) (fun hc3 => ?_)
    · replace hf := if_t hc3 hf
      refine ex_iload_n 2 (pc' := 21) dX2_numberOf_20 rfl rfl rfl ?_
      exact ex_iret dX2_numberOf_21 rfl (hR _ (Option.some.inj hf).symm)
    · replace hf := if_f hc3 hf
      refine ex_iincc (lv' := [(2, .int (v2 + 1)), (0, .ref (gB G + a0)), (1, .int v1)]) 2 (pc' := 25) dX2_numberOf_22 rfl ic_1 (Nat.le_of_ble_eq_true rfl) rfl rfl ?_
      refine ex_goto (tgt := 2) dX2_numberOf_25 (by decide) ?_
      exact ex_sub [1, 2, 0] rfl (hC _ (Option.some.inj hf).symm)
  · replace hf := if_f hc1 hf
    exact ex_sub [] rfl (hX _ (Option.some.inj hf).symm)
def f_X2_numberOf_l2 (N : Nat) (a0 : Nat) (n0 : Nat) (v1 : Int32) (v2 : Int32) (I : MI) : Option ((Unit) ⊕ (Int32)) := loopN (fun s => f_X2_numberOf_b2 N a0 n0 v1 s I) N v2
set_option maxRecDepth 100000 in
set_option maxHeartbeats 4000000 in
theorem k_X2_numberOf_l2 {G : GX} {Q : State → Prop} {X : MX} {a0 : Nat} {n0 : Nat} {v1 : Int32} (h0 : shX2 X a0 n0) {N0 : Nat} {I : MI} {L : ML} {out : ((Unit) ⊕ (Int32))} (hX : ∀ (u : Unit), out = .inl u → Ex G mX2_numberOf rmX2_numberOf Q (0, 0) X I L 28 [] []) (hR : ∀ (z : Int32), out = .inr z → Q = RetQ G (some (.int z)) X I L (0, 0)) : ∀ (N : Nat) (v2 : Int32), loopN (fun s => f_X2_numberOf_b2 N0 a0 n0 v1 s I) N v2 = some out → Ex G mX2_numberOf rmX2_numberOf Q (0, 0) X I L 2 [(0, .ref (gB G + a0)), (1, .int v1), (2, .int v2)] [] := by
  intro N
  induction N with
  | zero => intro v2 hf; exact absurd (loopN_zero hf) id
  | succ n ih =>
    intro v2 hf
    rcases loopN_succ hf with ⟨s, hb, hl⟩ | hb
    · skip
      refine k_X2_numberOf_b2 h0 hb (fun _ he => ?_) (fun _ he => by cases he) (fun _ he => by cases he)
      cases he
      exact ih s hl
    · exact k_X2_numberOf_b2 h0 hb (fun _ he => by cases he) (fun x0 he => hX x0 (Sum.inr.inj he)) (fun z0 he => hR z0 (Sum.inr.inj he))
def f_X2_numberOf (N : Nat) (a0 : Nat) (n0 : Nat) (v1 : Int32) (I : MI) : Option (Int32) := bns1 (f_X2_numberOf_l2 N a0 n0 v1 0 I) (fun u4 => some (-5)) (fun q6 => some q6)
set_option maxRecDepth 100000 in
set_option maxHeartbeats 4000000 in
theorem kb_X2_numberOf {G : GX} {Q : State → Prop} {X : MX} {a0 : Nat} {n0 : Nat} {v1 : Int32} (h0 : shX2 X a0 n0) {N : Nat} {I : MI} {L : ML} {out : Int32} (hf : f_X2_numberOf N a0 n0 v1 I = some out) (hR : ∀ (z : Int32), out = z → Q = RetQ G (some (.int z)) X I L (0, 0)) : Ex G mX2_numberOf rmX2_numberOf Q (0, 0) X I L 0 [(0, .ref (gB G + a0)), (1, .int v1)] [] := by
  unfold f_X2_numberOf at hf
  refine ex_iconst (v := 0) (pc' := 1) dX2_numberOf_0 ic_0 rfl ?_
  refine ex_istore_n (lv' := [(2, .int 0), (0, .ref (gB G + a0)), (1, .int v1)]) (pc' := 2) dX2_numberOf_1 rfl (Nat.le_of_ble_eq_true rfl) rfl rfl ?_
  refine ex_sub (lv' := [(0, .ref (gB G + a0)), (1, .int v1), (2, .int 0)]) [1, 2, 0] rfl ?_
  rcases of_bns1 hf with ⟨u4, hq5, hf⟩ | ⟨q6, hq5, hf⟩
  · refine k_X2_numberOf_l2 h0 (fun u4' he => ?_) (fun _ he => by cases he) _ _ hq5
    cases he
    refine ex_bipush (v := (-5)) (pc' := 30) dX2_numberOf_28 bp_m5 rfl ?_
    exact ex_iret dX2_numberOf_30 rfl (hR _ (Option.some.inj hf).symm)
  · refine k_X2_numberOf_l2 h0 (fun _ he => by cases he) (fun z0 he => ?_) _ _ hq5
    refine hR _ ?_
    rw [← Option.some.inj hf]
    cases he
    rfl
set_option maxRecDepth 100000 in
set_option maxHeartbeats 4000000 in
theorem k_X2_numberOf (G : GX) {X : MX} {a0 : Nat} {n0 : Nat} {v1 : Int32} (h0 : shX2 X a0 n0) {N : Nat} {I : MI} {L : ML} {z : Int32} (hf : f_X2_numberOf N a0 n0 v1 I = some z) : Con G mX2_numberOf yX2_numberOf rmX2_numberOf (fun B => [.ref (B + a0), .int v1]) X I L (some (.int z)) X I L :=
  Con.of (by decide) rfl (fun h => by cases h) (fun B => Nat.le_of_ble_eq_true rfl) (fun G => kb_X2_numberOf h0 hf (fun _ he => by cases he; rfl))
theorem cl_X2_67 : CLV RX2 67 yX2_firstPartFrom mX2_firstPartFrom (some FieldType.int) 1 := ⟨⟨lwg_at 595 (by decide +kernel) rfl, lwg_at 597 (by decide +kernel) rfl, lwg_at 9 (by decide +kernel) rfl, lwg_at 65 (by decide +kernel) rfl⟩, lwg_at 598 (by decide +kernel) rfl, ⟨by decide +kernel, by decide +kernel, by decide +kernel⟩⟩
-- X2_partOf ('RookWords$Ladder', 'partOf', '(J)I')
def rmX2_partOf : RM := ((1, 25, 0, 0), false, (some FieldType.int))
def f_X2_partOf (N : Nat) (a0 : Nat) (n0 : Nat) (v1 : Int64) (I : MI) (L : ML) : Option (Int32) := bnd1 (f_X2_firstPartFrom N a0 n0 v1 I L) fun r1 => (if r1 < (I a0 3) then if inb r1 n0 then (if (L (a0 + 3) (Int32.toNatClampNeg r1)) = v1 then some r1 else some (-1)) else none else some (-1))
set_option maxRecDepth 100000 in
set_option maxHeartbeats 4000000 in
theorem kb_X2_partOf {G : GX} {Q : State → Prop} {X : MX} {a0 : Nat} {n0 : Nat} {v1 : Int64} (h0 : shX2 X a0 n0) {N : Nat} {I : MI} {L : ML} {out : Int32} (hf : f_X2_partOf N a0 n0 v1 I L = some out) (hR : ∀ (z : Int32), out = z → Q = RetQ G (some (.int z)) X I L (0, 0)) : Ex G mX2_partOf rmX2_partOf Q (0, 0) X I L 0 [(0, .ref (gB G + a0)), (1, .long v1)] [] := by
  unfold f_X2_partOf at hf
  refine ex_aload_n 0 (pc' := 1) dX2_partOf_0 rfl rfl rfl ?_
  refine ex_lload_n 1 (pc' := 2) dX2_partOf_1 rfl rfl rfl ?_
  obtain ⟨r1, hq2, hf⟩ := of_bnd1 hf
  refine ex_callV_i (rm' := rmX2_firstPartFrom) (st := []) (pc' := 5) [.long v1] dX2_partOf_2 cl_X2_67 (k_X2_firstPartFrom G h0 hq2) rfl (sh2_k h0) ⟨_, _, rfl⟩ rfl rfl (ROOM_of rfl) (Nat.le_of_ble_eq_true rfl) rfl rfl ?_
  refine ex_istore_n (lv' := [(3, .int r1), (0, .ref (gB G + a0)), (1, .long v1)]) (pc' := 6) dX2_partOf_5 rfl (Nat.le_of_ble_eq_true rfl) rfl rfl ?_
  refine ex_iload_n 0 (pc' := 7) dX2_partOf_6 rfl rfl rfl ?_
  refine ex_aload_n 1 (pc' := 8) dX2_partOf_7 rfl rfl rfl ?_
  refine ex_getI (pc' := 11) dX2_partOf_8 fl_X2_71 rfl (sh2_k h0) rfl ?_
  refine ex_icmpge (tgt := 29) (pc' := 14) dX2_partOf_11 (by decide) rfl (fun hc3 => ?_) (fun hc3 => ?_)
  · replace hf := if_t hc3 hf
    refine ex_aload_n 1 (pc' := 15) dX2_partOf_14 rfl rfl rfl ?_
    refine ex_getR (pc' := 18) dX2_partOf_15 fl_X2_26 rfl (sh2_k h0) (sh2_F4 h0) rfl ?_
    refine ex_iload_n 0 (pc' := 19) dX2_partOf_18 rfl rfl rfl ?_
    obtain ⟨hg4, hf⟩ := of_guard hf
    refine ex_lald (pc' := 20) dX2_partOf_19 (sh2_T4 h0) (inb_in hg4) rfl ?_
    refine ex_lload_n 2 (pc' := 21) dX2_partOf_20 rfl rfl rfl ?_
    refine ex_lcmp (pc' := 22) dX2_partOf_21 rfl ?_
    refine ex_lifne (tgt := 29) (pc' := 25) dX2_partOf_22 (by decide) rfl (fun hc5 => ?_) (fun hc5 => ?_)
    · replace hf := if_t hc5 hf
      refine ex_iload_n 0 (pc' := 26) dX2_partOf_25 rfl rfl rfl ?_
      refine ex_goto (tgt := 30) dX2_partOf_26 (by decide) ?_
      exact ex_iret dX2_partOf_30 rfl (hR _ (Option.some.inj hf).symm)
    · replace hf := if_f hc5 hf
      refine ex_iconst (v := (-1)) (pc' := 30) dX2_partOf_29 ic_m1 rfl ?_
      exact ex_iret dX2_partOf_30 rfl (hR _ (Option.some.inj hf).symm)
  · replace hf := if_f hc3 hf
    refine ex_iconst (v := (-1)) (pc' := 30) dX2_partOf_29 ic_m1 rfl ?_
    exact ex_iret dX2_partOf_30 rfl (hR _ (Option.some.inj hf).symm)
set_option maxRecDepth 100000 in
set_option maxHeartbeats 4000000 in
theorem k_X2_partOf (G : GX) {X : MX} {a0 : Nat} {n0 : Nat} {v1 : Int64} (h0 : shX2 X a0 n0) {N : Nat} {I : MI} {L : ML} {z : Int32} (hf : f_X2_partOf N a0 n0 v1 I L = some z) : Con G mX2_partOf yX2_partOf rmX2_partOf (fun B => [.ref (B + a0), .long v1]) X I L (some (.int z)) X I L :=
  Con.of (by decide) rfl (fun h => by cases h) (fun B => Nat.le_of_ble_eq_true rfl) (fun G => kb_X2_partOf h0 hf (fun _ he => by cases he; rfl))
theorem fl_X2_22 : FLD RX2 22 2 2 true := ⟨RX2, TX2, 7, rfl, inX2, by decide, lwg_at 608 (by decide +kernel) rfl, nmX2, tyX2_ok, rfl, rfl⟩
theorem cl_X2_74 : CPW RX2 74 := ⟨lwg_at 599 (by decide +kernel) rfl, lwg_at 413 (by decide +kernel) rfl, lwg_at 412 (by decide +kernel) rfl, lwg_at 63 (by decide +kernel) rfl⟩
theorem fl_X2_32 : FLD RX2 32 2 6 true := ⟨RX2, TX2, 7, rfl, inX2, by decide, lwg_at 615 (by decide +kernel) rfl, nmX2, tyX2_ok, rfl, rfl⟩
-- X2_sortIn ('RookWords$Ladder', 'sortIn', '(I)V')
def rmX2_sortIn : RM := ((1, 26, 0, 0), false, none)
def f_X2_sortIn_j46 (N : Nat) (a0 : Nat) (n0 : Nat) (v1 : Int32) (v2 : Int32) (I : MI) (L : ML) : Option (MI × ML) := if cpok v2 (v2 + 1) ((I a0 3) - v2) n0 n0 then letv (cpL L (a0 + 3) (a0 + 3) (Int32.toNatClampNeg v2) (Int32.toNatClampNeg (v2 + 1)) (Int32.toNatClampNeg ((I a0 3) - v2))) fun L12 => if cpok v2 (v2 + 1) ((I a0 3) - v2) n0 n0 then letv (cpI I (a0 + 4) (a0 + 4) (Int32.toNatClampNeg v2) (Int32.toNatClampNeg (v2 + 1)) (Int32.toNatClampNeg ((I a0 3) - v2))) fun I14 => if cpok v2 (v2 + 1) ((I14 a0 3) - v2) n0 n0 then letv (cpI I14 (a0 + 5) (a0 + 5) (Int32.toNatClampNeg v2) (Int32.toNatClampNeg (v2 + 1)) (Int32.toNatClampNeg ((I14 a0 3) - v2))) fun I16 => if inb v1 n0 then if inb v2 n0 then letv (upL L12 (a0 + 3) (Int32.toNatClampNeg v2) (L12 (a0 + 2) (Int32.toNatClampNeg v1))) fun L19 => if inb v2 n0 then letv (upI I16 (a0 + 4) (Int32.toNatClampNeg v2) 1) fun I21 => if inb v2 n0 then letv (upI I21 (a0 + 5) (Int32.toNatClampNeg v2) v1) fun I23 => letv (upI I23 a0 3 ((I23 a0 3) + 1)) fun I24 => some (I24, L19) else none else none else none else none else none else none else none
set_option maxRecDepth 100000 in
set_option maxHeartbeats 4000000 in
theorem k_X2_sortIn_j46 {G : GX} {Q : State → Prop} {X : MX} {a0 : Nat} {n0 : Nat} {v1 : Int32} {v2 : Int32} (h0 : shX2 X a0 n0) {N : Nat} {I : MI} {L : ML} {out : MI × ML} (hf : f_X2_sortIn_j46 N a0 n0 v1 v2 I L = some out) (hR : ∀ (I' : MI) (L' : ML), out = (I', L') → Q = RetQ G none X I' L' (0, 0)) : Ex G mX2_sortIn rmX2_sortIn Q (0, 0) X I L 46 [(0, .ref (gB G + a0)), (1, .int v1), (2, .int v2)] [] := by
  unfold f_X2_sortIn_j46 at hf
  refine ex_aload_n 0 (pc' := 47) dX2_sortIn_46 rfl rfl rfl ?_
  refine ex_getR (pc' := 50) dX2_sortIn_47 fl_X2_26 rfl (sh2_k h0) (sh2_F4 h0) rfl ?_
  refine ex_iload_n 2 (pc' := 51) dX2_sortIn_50 rfl rfl rfl ?_
  refine ex_aload_n 0 (pc' := 52) dX2_sortIn_51 rfl rfl rfl ?_
  refine ex_getR (pc' := 55) dX2_sortIn_52 fl_X2_26 rfl (sh2_k h0) (sh2_F4 h0) rfl ?_
  refine ex_iload_n 2 (pc' := 56) dX2_sortIn_55 rfl rfl rfl ?_
  refine ex_iconst (v := 1) (pc' := 57) dX2_sortIn_56 ic_1 rfl ?_
  refine ex_iadd (pc' := 58) dX2_sortIn_57 rfl ?_
  refine ex_aload_n 0 (pc' := 59) dX2_sortIn_58 rfl rfl rfl ?_
  refine ex_getI (pc' := 62) dX2_sortIn_59 fl_X2_71 rfl (sh2_k h0) rfl ?_
  refine ex_iload_n 2 (pc' := 63) dX2_sortIn_62 rfl rfl rfl ?_
  refine ex_isub (pc' := 64) dX2_sortIn_63 rfl ?_
  obtain ⟨hg11, hf⟩ := of_guard hf
  refine ex_copyL (pc' := 67) dX2_sortIn_64 cl_X2_74 (sh2_T4 h0) (sh2_T4 h0) (cpok_ok hg11) ⟨Nat.le_of_ble_eq_true rfl, Nat.le_of_ble_eq_true rfl⟩ rfl ?_
  obtain ⟨L12, hL12, hf⟩ := of_let hf
  rw [← hL12]
  refine ex_aload_n 0 (pc' := 68) dX2_sortIn_67 rfl rfl rfl ?_
  refine ex_getR (pc' := 71) dX2_sortIn_68 fl_X2_29 rfl (sh2_k h0) (sh2_F5 h0) rfl ?_
  refine ex_iload_n 2 (pc' := 72) dX2_sortIn_71 rfl rfl rfl ?_
  refine ex_aload_n 0 (pc' := 73) dX2_sortIn_72 rfl rfl rfl ?_
  refine ex_getR (pc' := 76) dX2_sortIn_73 fl_X2_29 rfl (sh2_k h0) (sh2_F5 h0) rfl ?_
  refine ex_iload_n 2 (pc' := 77) dX2_sortIn_76 rfl rfl rfl ?_
  refine ex_iconst (v := 1) (pc' := 78) dX2_sortIn_77 ic_1 rfl ?_
  refine ex_iadd (pc' := 79) dX2_sortIn_78 rfl ?_
  refine ex_aload_n 0 (pc' := 80) dX2_sortIn_79 rfl rfl rfl ?_
  refine ex_getI (pc' := 83) dX2_sortIn_80 fl_X2_71 rfl (sh2_k h0) rfl ?_
  refine ex_iload_n 2 (pc' := 84) dX2_sortIn_83 rfl rfl rfl ?_
  refine ex_isub (pc' := 85) dX2_sortIn_84 rfl ?_
  obtain ⟨hg13, hf⟩ := of_guard hf
  refine ex_copyI (pc' := 88) dX2_sortIn_85 cl_X2_74 (sh2_T5 h0) (sh2_T5 h0) (cpok_ok hg13) ⟨Nat.le_of_ble_eq_true rfl, Nat.le_of_ble_eq_true rfl⟩ rfl ?_
  obtain ⟨I14, hI14, hf⟩ := of_let hf
  rw [← hI14]
  refine ex_aload_n 0 (pc' := 89) dX2_sortIn_88 rfl rfl rfl ?_
  refine ex_getR (pc' := 92) dX2_sortIn_89 fl_X2_32 rfl (sh2_k h0) (sh2_F6 h0) rfl ?_
  refine ex_iload_n 2 (pc' := 93) dX2_sortIn_92 rfl rfl rfl ?_
  refine ex_aload_n 0 (pc' := 94) dX2_sortIn_93 rfl rfl rfl ?_
  refine ex_getR (pc' := 97) dX2_sortIn_94 fl_X2_32 rfl (sh2_k h0) (sh2_F6 h0) rfl ?_
  refine ex_iload_n 2 (pc' := 98) dX2_sortIn_97 rfl rfl rfl ?_
  refine ex_iconst (v := 1) (pc' := 99) dX2_sortIn_98 ic_1 rfl ?_
  refine ex_iadd (pc' := 100) dX2_sortIn_99 rfl ?_
  refine ex_aload_n 0 (pc' := 101) dX2_sortIn_100 rfl rfl rfl ?_
  refine ex_getI (pc' := 104) dX2_sortIn_101 fl_X2_71 rfl (sh2_k h0) rfl ?_
  refine ex_iload_n 2 (pc' := 105) dX2_sortIn_104 rfl rfl rfl ?_
  refine ex_isub (pc' := 106) dX2_sortIn_105 rfl ?_
  obtain ⟨hg15, hf⟩ := of_guard hf
  refine ex_copyI (pc' := 109) dX2_sortIn_106 cl_X2_74 (sh2_T6 h0) (sh2_T6 h0) (cpok_ok hg15) ⟨Nat.le_of_ble_eq_true rfl, Nat.le_of_ble_eq_true rfl⟩ rfl ?_
  obtain ⟨I16, hI16, hf⟩ := of_let hf
  rw [← hI16]
  refine ex_aload_n 0 (pc' := 110) dX2_sortIn_109 rfl rfl rfl ?_
  refine ex_getR (pc' := 113) dX2_sortIn_110 fl_X2_26 rfl (sh2_k h0) (sh2_F4 h0) rfl ?_
  refine ex_iload_n 2 (pc' := 114) dX2_sortIn_113 rfl rfl rfl ?_
  refine ex_aload_n 0 (pc' := 115) dX2_sortIn_114 rfl rfl rfl ?_
  refine ex_getR (pc' := 118) dX2_sortIn_115 fl_X2_22 rfl (sh2_k h0) (sh2_F2 h0) rfl ?_
  refine ex_iload_n 1 (pc' := 119) dX2_sortIn_118 rfl rfl rfl ?_
  obtain ⟨hg17, hf⟩ := of_guard hf
  refine ex_lald (pc' := 120) dX2_sortIn_119 (sh2_T2 h0) (inb_in hg17) rfl ?_
  obtain ⟨hg18, hf⟩ := of_guard hf
  refine ex_last (pc' := 121) dX2_sortIn_120 (sh2_T4 h0) (inb_in hg18) rfl ?_
  obtain ⟨L19, hL19, hf⟩ := of_let hf
  rw [← hL19]
  refine ex_aload_n 0 (pc' := 122) dX2_sortIn_121 rfl rfl rfl ?_
  refine ex_getR (pc' := 125) dX2_sortIn_122 fl_X2_29 rfl (sh2_k h0) (sh2_F5 h0) rfl ?_
  refine ex_iload_n 2 (pc' := 126) dX2_sortIn_125 rfl rfl rfl ?_
  refine ex_iconst (v := 1) (pc' := 127) dX2_sortIn_126 ic_1 rfl ?_
  obtain ⟨hg20, hf⟩ := of_guard hf
  refine ex_iast (pc' := 128) dX2_sortIn_127 (sh2_T5 h0) (inb_in hg20) rfl ?_
  obtain ⟨I21, hI21, hf⟩ := of_let hf
  rw [← hI21]
  refine ex_aload_n 0 (pc' := 129) dX2_sortIn_128 rfl rfl rfl ?_
  refine ex_getR (pc' := 132) dX2_sortIn_129 fl_X2_32 rfl (sh2_k h0) (sh2_F6 h0) rfl ?_
  refine ex_iload_n 2 (pc' := 133) dX2_sortIn_132 rfl rfl rfl ?_
  refine ex_iload_n 1 (pc' := 134) dX2_sortIn_133 rfl rfl rfl ?_
  obtain ⟨hg22, hf⟩ := of_guard hf
  refine ex_iast (pc' := 135) dX2_sortIn_134 (sh2_T6 h0) (inb_in hg22) rfl ?_
  obtain ⟨I23, hI23, hf⟩ := of_let hf
  rw [← hI23]
  refine ex_aload_n 0 (pc' := 136) dX2_sortIn_135 rfl rfl rfl ?_
  refine ex_dup (pc' := 137) dX2_sortIn_136 rfl rfl ?_
  refine ex_getI (pc' := 140) dX2_sortIn_137 fl_X2_71 rfl (sh2_k h0) rfl ?_
  refine ex_iconst (v := 1) (pc' := 141) dX2_sortIn_140 ic_1 rfl ?_
  refine ex_iadd (pc' := 142) dX2_sortIn_141 rfl ?_
  refine ex_putI (pc' := 145) dX2_sortIn_142 fl_X2_71 rfl (sh2_k h0) rfl ?_
  obtain ⟨I24, hI24, hf⟩ := of_let hf
  rw [← hI24]
  exact ex_vret dX2_sortIn_145 rfl (hR _ _ (Option.some.inj hf).symm)
def f_X2_sortIn (N : Nat) (a0 : Nat) (n0 : Nat) (v1 : Int32) (I : MI) (L : ML) : Option (MI × ML) := if inb v1 n0 then bnd1 (f_X2_firstPartFrom N a0 n0 (L (a0 + 2) (Int32.toNatClampNeg v1)) I L) fun r2 => (if r2 < (I a0 3) then if inb r2 n0 then if inb v1 n0 then (if (L (a0 + 3) (Int32.toNatClampNeg r2)) = (L (a0 + 2) (Int32.toNatClampNeg v1)) then if inb r2 n0 then if inb r2 n0 then letv (upI I (a0 + 4) (Int32.toNatClampNeg r2) ((I (a0 + 4) (Int32.toNatClampNeg r2)) + 1)) fun I10 => some (I10, L) else none else none else f_X2_sortIn_j46 N a0 n0 v1 r2 I L) else none else none else f_X2_sortIn_j46 N a0 n0 v1 r2 I L) else none
set_option maxRecDepth 100000 in
set_option maxHeartbeats 4000000 in
theorem kb_X2_sortIn {G : GX} {Q : State → Prop} {X : MX} {a0 : Nat} {n0 : Nat} {v1 : Int32} (h0 : shX2 X a0 n0) {N : Nat} {I : MI} {L : ML} {out : MI × ML} (hf : f_X2_sortIn N a0 n0 v1 I L = some out) (hR : ∀ (I' : MI) (L' : ML), out = (I', L') → Q = RetQ G none X I' L' (0, 0)) : Ex G mX2_sortIn rmX2_sortIn Q (0, 0) X I L 0 [(0, .ref (gB G + a0)), (1, .int v1)] [] := by
  unfold f_X2_sortIn at hf
  refine ex_aload_n 0 (pc' := 1) dX2_sortIn_0 rfl rfl rfl ?_
  refine ex_aload_n 0 (pc' := 2) dX2_sortIn_1 rfl rfl rfl ?_
  refine ex_getR (pc' := 5) dX2_sortIn_2 fl_X2_22 rfl (sh2_k h0) (sh2_F2 h0) rfl ?_
  refine ex_iload_n 1 (pc' := 6) dX2_sortIn_5 rfl rfl rfl ?_
  obtain ⟨hg1, hf⟩ := of_guard hf
  refine ex_lald (pc' := 7) dX2_sortIn_6 (sh2_T2 h0) (inb_in hg1) rfl ?_
  obtain ⟨r2, hq3, hf⟩ := of_bnd1 hf
  refine ex_callV_i (rm' := rmX2_firstPartFrom) (st := []) (pc' := 10) [.long (L (a0 + 2) (Int32.toNatClampNeg v1))] dX2_sortIn_7 cl_X2_67 (k_X2_firstPartFrom G h0 hq3) rfl (sh2_k h0) ⟨_, _, rfl⟩ rfl rfl (ROOM_of rfl) (Nat.le_of_ble_eq_true rfl) rfl rfl ?_
  refine ex_istore_n (lv' := [(2, .int r2), (0, .ref (gB G + a0)), (1, .int v1)]) (pc' := 11) dX2_sortIn_10 rfl (Nat.le_of_ble_eq_true rfl) rfl rfl ?_
  refine ex_iload_n 0 (pc' := 12) dX2_sortIn_11 rfl rfl rfl ?_
  refine ex_aload_n 1 (pc' := 13) dX2_sortIn_12 rfl rfl rfl ?_
  refine ex_getI (pc' := 16) dX2_sortIn_13 fl_X2_71 rfl (sh2_k h0) rfl ?_
  refine ex_icmpge (tgt := 46) (pc' := 19) dX2_sortIn_16 (by decide) rfl (fun hc4 => ?_) (fun hc4 => ?_)
  · replace hf := if_t hc4 hf
    refine ex_aload_n 1 (pc' := 20) dX2_sortIn_19 rfl rfl rfl ?_
    refine ex_getR (pc' := 23) dX2_sortIn_20 fl_X2_26 rfl (sh2_k h0) (sh2_F4 h0) rfl ?_
    refine ex_iload_n 0 (pc' := 24) dX2_sortIn_23 rfl rfl rfl ?_
    obtain ⟨hg5, hf⟩ := of_guard hf
    refine ex_lald (pc' := 25) dX2_sortIn_24 (sh2_T4 h0) (inb_in hg5) rfl ?_
    refine ex_aload_n 1 (pc' := 26) dX2_sortIn_25 rfl rfl rfl ?_
    refine ex_getR (pc' := 29) dX2_sortIn_26 fl_X2_22 rfl (sh2_k h0) (sh2_F2 h0) rfl ?_
    refine ex_iload_n 2 (pc' := 30) dX2_sortIn_29 rfl rfl rfl ?_
    obtain ⟨hg6, hf⟩ := of_guard hf
    refine ex_lald (pc' := 31) dX2_sortIn_30 (sh2_T2 h0) (inb_in hg6) rfl ?_
    refine ex_lcmp (pc' := 32) dX2_sortIn_31 rfl ?_
    refine ex_lifne (tgt := 46) (pc' := 35) dX2_sortIn_32 (by decide) rfl (fun hc7 => ?_) (fun hc7 => ?_)
    · replace hf := if_t hc7 hf
      refine ex_aload_n 1 (pc' := 36) dX2_sortIn_35 rfl rfl rfl ?_
      refine ex_getR (pc' := 39) dX2_sortIn_36 fl_X2_29 rfl (sh2_k h0) (sh2_F5 h0) rfl ?_
      refine ex_iload_n 0 (pc' := 40) dX2_sortIn_39 rfl rfl rfl ?_
      refine ex_dup2 (pc' := 41) dX2_sortIn_40 rfl rfl rfl ?_
      obtain ⟨hg8, hf⟩ := of_guard hf
      refine ex_iald (pc' := 42) dX2_sortIn_41 (sh2_T5 h0) (inb_in hg8) rfl ?_
      refine ex_iconst (v := 1) (pc' := 43) dX2_sortIn_42 ic_1 rfl ?_
      refine ex_iadd (pc' := 44) dX2_sortIn_43 rfl ?_
      obtain ⟨hg9, hf⟩ := of_guard hf
      refine ex_iast (pc' := 45) dX2_sortIn_44 (sh2_T5 h0) (inb_in hg9) rfl ?_
      obtain ⟨I10, hI10, hf⟩ := of_let hf
      rw [← hI10]
      exact ex_vret dX2_sortIn_45 rfl (hR _ _ (Option.some.inj hf).symm)
    · replace hf := if_f hc7 hf
      refine ex_sub [1, 2, 0] rfl (k_X2_sortIn_j46 h0 hf hR)
  · replace hf := if_f hc4 hf
    refine ex_sub [1, 2, 0] rfl (k_X2_sortIn_j46 h0 hf hR)
set_option maxRecDepth 100000 in
set_option maxHeartbeats 4000000 in
theorem k_X2_sortIn (G : GX) {X : MX} {a0 : Nat} {n0 : Nat} {v1 : Int32} (h0 : shX2 X a0 n0) {N : Nat} {I : MI} {L : ML} {I' : MI} {L' : ML} (hf : f_X2_sortIn N a0 n0 v1 I L = some (I', L')) : Con G mX2_sortIn yX2_sortIn rmX2_sortIn (fun B => [.ref (B + a0), .int v1]) X I L none X I' L' :=
  Con.of (by decide) rfl (fun h => by cases h) (fun B => Nat.le_of_ble_eq_true rfl) (fun G => kb_X2_sortIn h0 hf (fun _ _ he => by cases he; rfl))
theorem fl_X3_15 : FLD RX3 15 3 1 false := ⟨RX3, TX3, 2, rfl, inX3, by decide, lwg_at 223 (by decide +kernel) rfl, nmX3, tyX3_ok, rfl, rfl⟩
theorem fl_X3_9 : FLD RX3 9 3 0 true := ⟨RX3, TX3, 2, rfl, inX3, by decide, lwg_at 221 (by decide +kernel) rfl, nmX3, tyX3_ok, rfl, rfl⟩
theorem al_12 : Int32.ofNat 12 = 12 := by decide
-- X3_putByte ('RookWords$Paper', 'putByte', '(I)V')
def rmX3_putByte : RM := ((0, 0, 0, 0), false, none)
def f_X3_putByte (v1 : Int32) (I : MI) : Option (MI) := (if (I 76 1) < 12 then if inb (I 76 1) 12 then letv (upI I 77 (Int32.toNatClampNeg (I 76 1)) v1) fun I3 => letv (upI I3 76 1 ((I3 76 1) + 1)) fun I4 => some I4 else none else some I)
set_option maxRecDepth 100000 in
set_option maxHeartbeats 4000000 in
theorem kb_X3_putByte {G : GX} {Q : State → Prop} {X : MX} (hM : shX10 X) {v1 : Int32}  {I : MI} {L : ML} {out : MI} (hf : f_X3_putByte v1 I = some out) (hR : ∀ (I' : MI), out = I' → Q = RetQ G none X I' L (0, 0)) : Ex G mX3_putByte rmX3_putByte Q (0, 0) X I L 0 [(0, .ref (gB G + 76)), (1, .int v1)] [] := by
  unfold f_X3_putByte at hf
  refine ex_aload_n 0 (pc' := 1) dX3_putByte_0 rfl rfl rfl ?_
  refine ex_getI (pc' := 4) dX3_putByte_1 fl_X3_15 rfl (sh3_k (sh10_T5 hM)) rfl ?_
  refine ex_aload_n 0 (pc' := 5) dX3_putByte_4 rfl rfl rfl ?_
  refine ex_getR (pc' := 8) dX3_putByte_5 fl_X3_9 rfl (sh3_k (sh10_T5 hM)) (sh3_F0 (sh10_T5 hM)) rfl ?_
  refine ex_alen (v := 12) (pc' := 9) dX3_putByte_8 (sh3_T0 (sh10_T5 hM)) (Or.inl rfl) al_12 rfl ?_
  refine ex_icmpge (tgt := 32) (pc' := 12) dX3_putByte_9 (by decide) rfl (fun hc1 => ?_) (fun hc1 => ?_)
  · replace hf := if_t hc1 hf
    refine ex_aload_n 0 (pc' := 13) dX3_putByte_12 rfl rfl rfl ?_
    refine ex_getR (pc' := 16) dX3_putByte_13 fl_X3_9 rfl (sh3_k (sh10_T5 hM)) (sh3_F0 (sh10_T5 hM)) rfl ?_
    refine ex_aload_n 0 (pc' := 17) dX3_putByte_16 rfl rfl rfl ?_
    refine ex_getI (pc' := 20) dX3_putByte_17 fl_X3_15 rfl (sh3_k (sh10_T5 hM)) rfl ?_
    refine ex_iload_n 1 (pc' := 21) dX3_putByte_20 rfl rfl rfl ?_
    obtain ⟨hg2, hf⟩ := of_guard hf
    refine ex_iast (pc' := 22) dX3_putByte_21 (sh3_T0 (sh10_T5 hM)) (inb_in hg2) rfl ?_
    obtain ⟨I3, hI3, hf⟩ := of_let hf
    rw [← hI3]
    refine ex_aload_n 0 (pc' := 23) dX3_putByte_22 rfl rfl rfl ?_
    refine ex_dup (pc' := 24) dX3_putByte_23 rfl rfl ?_
    refine ex_getI (pc' := 27) dX3_putByte_24 fl_X3_15 rfl (sh3_k (sh10_T5 hM)) rfl ?_
    refine ex_iconst (v := 1) (pc' := 28) dX3_putByte_27 ic_1 rfl ?_
    refine ex_iadd (pc' := 29) dX3_putByte_28 rfl ?_
    refine ex_putI (pc' := 32) dX3_putByte_29 fl_X3_15 rfl (sh3_k (sh10_T5 hM)) rfl ?_
    obtain ⟨I4, hI4, hf⟩ := of_let hf
    rw [← hI4]
    exact ex_vret dX3_putByte_32 rfl (hR _ (Option.some.inj hf).symm)
  · replace hf := if_f hc1 hf
    exact ex_vret dX3_putByte_32 rfl (hR _ (Option.some.inj hf).symm)
set_option maxRecDepth 100000 in
set_option maxHeartbeats 4000000 in
theorem k_X3_putByte (G : GX) {X : MX} (hM : shX10 X) {v1 : Int32}  {I : MI} {L : ML} {I' : MI} (hf : f_X3_putByte v1 I = some I') : Con G mX3_putByte yX3_putByte rmX3_putByte (fun B => [.ref (B + 76), .int v1]) X I L none X I' L :=
  Con.of (by decide) rfl (fun h => by cases h) (fun B => Nat.le_of_ble_eq_true rfl) (fun G => kb_X3_putByte hM  hf (fun _ he => by cases he; rfl))
theorem fl_X3_19 : FLD RX3 19 9 1 false := ⟨RX9, TX9, 2, rfl, inX9, by decide, lwg_at 110 (by decide +kernel) rfl, nmX9, tyX9_ok, rfl, rfl⟩
theorem fl_X3_22 : FLD RX3 22 9 0 true := ⟨RX9, TX9, 2, rfl, inX9, by decide, lwg_at 105 (by decide +kernel) rfl, nmX9, tyX9_ok, rfl, rfl⟩
theorem bp_85 : (Int8.ofInt 85).toInt32 = 85 := by decide
theorem cl_X3_25 : CLV RX3 25 yX3_putByte mX3_putByte none 1 := ⟨⟨lwg_at 841 (by decide +kernel) rfl, lwg_at 843 (by decide +kernel) rfl, lwg_at 18 (by decide +kernel) rfl, lwg_at 58 (by decide +kernel) rfl⟩, lwg_at 844 (by decide +kernel) rfl, ⟨by decide +kernel, by decide +kernel, by decide +kernel⟩⟩
theorem bp_48 : (Int8.ofInt 48).toInt32 = 48 := by decide
theorem bp_68 : (Int8.ofInt 68).toInt32 = 68 := by decide
-- X3_putWord ('RookWords$Paper', 'putWord', '(LRookWords$Word;)V')
def rmX3_putWord : RM := ((1, 21, 0, 0), false, none)
def f_X3_putWord_b17 (N : Nat) (a1 : Nat) (v2 : Int32) (v3 : Int32) (I : MI) : Option ((Int32) ⊕ (Int32)) := (if v3 < 9 then (if (v2 + v3) < (I a1 1) then if inb (v2 + v3) 12 then if inb v2 12 then (if (I (a1 + 1) (Int32.toNatClampNeg (v2 + v3))) = (I (a1 + 1) (Int32.toNatClampNeg v2)) then some (.inl (v3 + 1)) else some (.inr v3)) else none else none else some (.inr v3)) else some (.inr v3))
set_option maxRecDepth 100000 in
set_option maxHeartbeats 4000000 in
theorem k_X3_putWord_b17 {G : GX} {Q : State → Prop} {X : MX} (hM : shX10 X) {a1 : Nat} {v2 : Int32} (h1 : shX9 X a1) {v3 : Int32} {N : Nat} {I : MI} {L : ML} {out : (Int32) ⊕ (Int32)} (hf : f_X3_putWord_b17 N a1 v2 v3 I = some out) (hC : ∀ (v3' : Int32), out = .inl v3' → Ex G mX3_putWord rmX3_putWord Q (0, 0) X I L 17 [(0, .ref (gB G + 76)), (1, .ref (gB G + a1)), (2, .int v2), (3, .int v3')] []) (hX : ∀ (w3 : Int32), out = .inr w3 → Ex G mX3_putWord rmX3_putWord Q (0, 0) X I L 56 [(0, .ref (gB G + 76)), (1, .ref (gB G + a1)), (2, .int v2), (3, .int w3)] []) : Ex G mX3_putWord rmX3_putWord Q (0, 0) X I L 17 [(0, .ref (gB G + 76)), (1, .ref (gB G + a1)), (2, .int v2), (3, .int v3)] [] := by
  unfold f_X3_putWord_b17 at hf
  refine ex_iload_n 3 (pc' := 18) dX3_putWord_17 rfl rfl rfl ?_
  refine ex_bipush (v := 9) (pc' := 20) dX3_putWord_18 bp_9 rfl ?_
  refine ex_icmpge (tgt := 56) (pc' := 23) dX3_putWord_20 (by decide) rfl (fun hc3 => ?_) (fun hc3 => ?_)
  · replace hf := if_t hc3 hf
    refine ex_iload_n 2 (pc' := 24) dX3_putWord_23 rfl rfl rfl ?_
    refine ex_iload_n 3 (pc' := 25) dX3_putWord_24 rfl rfl rfl ?_
    refine ex_iadd (pc' := 26) dX3_putWord_25 rfl ?_
    refine ex_aload_n 1 (pc' := 27) dX3_putWord_26 rfl rfl rfl ?_
    refine ex_getI (pc' := 30) dX3_putWord_27 fl_X3_19 rfl (sh9_k h1) rfl ?_
    refine ex_icmpge (tgt := 56) (pc' := 33) dX3_putWord_30 (by decide) rfl (fun hc4 => ?_) (fun hc4 => ?_)
    · replace hf := if_t hc4 hf
      refine ex_aload_n 1 (pc' := 34) dX3_putWord_33 rfl rfl rfl ?_
      refine ex_getR (pc' := 37) dX3_putWord_34 fl_X3_22 rfl (sh9_k h1) (sh9_F0 h1) rfl ?_
      refine ex_iload_n 2 (pc' := 38) dX3_putWord_37 rfl rfl rfl ?_
      refine ex_iload_n 3 (pc' := 39) dX3_putWord_38 rfl rfl rfl ?_
      refine ex_iadd (pc' := 40) dX3_putWord_39 rfl ?_
      obtain ⟨hg5, hf⟩ := of_guard hf
      refine ex_iald (pc' := 41) dX3_putWord_40 (sh9_T0 h1) (inb_in hg5) rfl ?_
      refine ex_aload_n 1 (pc' := 42) dX3_putWord_41 rfl rfl rfl ?_
      refine ex_getR (pc' := 45) dX3_putWord_42 fl_X3_22 rfl (sh9_k h1) (sh9_F0 h1) rfl ?_
      refine ex_iload_n 2 (pc' := 46) dX3_putWord_45 rfl rfl rfl ?_
      obtain ⟨hg6, hf⟩ := of_guard hf
      refine ex_iald (pc' := 47) dX3_putWord_46 (sh9_T0 h1) (inb_in hg6) rfl ?_
      refine ex_icmpne (tgt := 56) (pc' := 50) dX3_putWord_47 (by decide) rfl (fun hc7 => ?_) (fun hc7 => ?_)
      · replace hf := if_t hc7 hf
        refine ex_iincc (lv' := [(3, .int (v3 + 1)), (0, .ref (gB G + 76)), (1, .ref (gB G + a1)), (2, .int v2)]) 3 (pc' := 53) dX3_putWord_50 rfl ic_1 (Nat.le_of_ble_eq_true rfl) rfl rfl ?_
        refine ex_goto (tgt := 17) dX3_putWord_53 (by decide) ?_
        exact ex_sub [1, 2, 3, 0] rfl (hC _ (Option.some.inj hf).symm)
      · replace hf := if_f hc7 hf
        exact ex_sub [0, 1, 2, 3] rfl (hX _ (Option.some.inj hf).symm)
    · replace hf := if_f hc4 hf
      exact ex_sub [0, 1, 2, 3] rfl (hX _ (Option.some.inj hf).symm)
  · replace hf := if_f hc3 hf
    exact ex_sub [0, 1, 2, 3] rfl (hX _ (Option.some.inj hf).symm)
def f_X3_putWord_l17 (N : Nat) (a1 : Nat) (v2 : Int32) (v3 : Int32) (I : MI) : Option (Int32) := loopN (fun s => f_X3_putWord_b17 N a1 v2 s I) N v3
set_option maxRecDepth 100000 in
set_option maxHeartbeats 4000000 in
theorem k_X3_putWord_l17 {G : GX} {Q : State → Prop} {X : MX} (hM : shX10 X) {a1 : Nat} {v2 : Int32} (h1 : shX9 X a1) {N0 : Nat} {I : MI} {L : ML} {out : (Int32)} (hX : ∀ (w3 : Int32), out = w3 → Ex G mX3_putWord rmX3_putWord Q (0, 0) X I L 56 [(0, .ref (gB G + 76)), (1, .ref (gB G + a1)), (2, .int v2), (3, .int w3)] []) : ∀ (N : Nat) (v3 : Int32), loopN (fun s => f_X3_putWord_b17 N0 a1 v2 s I) N v3 = some out → Ex G mX3_putWord rmX3_putWord Q (0, 0) X I L 17 [(0, .ref (gB G + 76)), (1, .ref (gB G + a1)), (2, .int v2), (3, .int v3)] [] := by
  intro N
  induction N with
  | zero => intro v3 hf; exact absurd (loopN_zero hf) id
  | succ n ih =>
    intro v3 hf
    rcases loopN_succ hf with ⟨s, hb, hl⟩ | hb
    · skip
      refine k_X3_putWord_b17 hM h1 hb (fun _ he => ?_) (fun _ he => by cases he)
      cases he
      exact ih s hl
    · exact k_X3_putWord_b17 hM h1 hb (fun _ he => by cases he) (fun x0 he => hX x0 (Sum.inr.inj he))
def f_X3_putWord_b7_j73 (N : Nat) (a1 : Nat) (v2 : Int32) (v3 : Int32) (s0 : Int32) (I : MI) : Option ((Int32 × MI) ⊕ (MI)) := bnd1 (f_X3_putByte s0 I) fun I12 => (if 1 < v3 then bnd1 (f_X3_putByte (48 + v3) I12) fun I15 => some (.inl (v2 + v3, I15)) else some (.inl (v2 + v3, I12)))
set_option maxRecDepth 100000 in
set_option maxHeartbeats 4000000 in
theorem k_X3_putWord_b7_j73 {G : GX} {Q : State → Prop} {X : MX} (hM : shX10 X) {a1 : Nat} {v2 : Int32} {v3 : Int32} {s0 : Int32}  (h1 : shX9 X a1) {N : Nat} {I : MI} {L : ML} {out : (Int32 × MI) ⊕ (MI)} (hf : f_X3_putWord_b7_j73 N a1 v2 v3 s0 I = some out) (hC : ∀ (v2' : Int32) (I' : MI), out = .inl (v2', I') → Ex G mX3_putWord rmX3_putWord Q (0, 0) X I' L 7 [(0, .ref (gB G + 76)), (1, .ref (gB G + a1)), (2, .int v2')] []) (hX : ∀ (I' : MI), out = .inr I' → Ex G mX3_putWord rmX3_putWord Q (0, 0) X I' L 96 [] []) : Ex G mX3_putWord rmX3_putWord Q (0, 0) X I L 73 [(0, .ref (gB G + 76)), (1, .ref (gB G + a1)), (2, .int v2), (3, .int v3)] [.int s0, .ref (gB G + 76)] := by
  unfold f_X3_putWord_b7_j73 at hf
  obtain ⟨I12, hq13, hf⟩ := of_bnd1 hf
  refine ex_callV_v (rm' := rmX3_putByte) (st := []) (pc' := 76) [.int s0] dX3_putWord_73 cl_X3_25 (k_X3_putByte G hM hq13) rfl (sh3_k (sh10_T5 hM)) ⟨_, _, rfl⟩ rfl rfl (ROOM_of rfl) (Nat.le_of_ble_eq_true rfl) rfl rfl ?_
  refine ex_iload_n 3 (pc' := 77) dX3_putWord_76 rfl rfl rfl ?_
  refine ex_iconst (v := 1) (pc' := 78) dX3_putWord_77 ic_1 rfl ?_
  refine ex_icmple (tgt := 89) (pc' := 81) dX3_putWord_78 (by decide) rfl (fun hc14 => ?_) (fun hc14 => ?_)
  · replace hf := if_t hc14 hf
    refine ex_aload_n 0 (pc' := 82) dX3_putWord_81 rfl rfl rfl ?_
    refine ex_bipush (v := 48) (pc' := 84) dX3_putWord_82 bp_48 rfl ?_
    refine ex_iload_n 3 (pc' := 85) dX3_putWord_84 rfl rfl rfl ?_
    refine ex_iadd (pc' := 86) dX3_putWord_85 rfl ?_
    obtain ⟨I15, hq16, hf⟩ := of_bnd1 hf
    refine ex_callV_v (rm' := rmX3_putByte) (st := []) (pc' := 89) [.int (48 + v3)] dX3_putWord_86 cl_X3_25 (k_X3_putByte G hM hq16) rfl (sh3_k (sh10_T5 hM)) ⟨_, _, rfl⟩ rfl rfl (ROOM_of rfl) (Nat.le_of_ble_eq_true rfl) rfl rfl ?_
    refine ex_iload_n 2 (pc' := 90) dX3_putWord_89 rfl rfl rfl ?_
    refine ex_iload_n 3 (pc' := 91) dX3_putWord_90 rfl rfl rfl ?_
    refine ex_iadd (pc' := 92) dX3_putWord_91 rfl ?_
    refine ex_istore_n (lv' := [(2, .int (v2 + v3)), (0, .ref (gB G + 76)), (1, .ref (gB G + a1)), (3, .int v3)]) (pc' := 93) dX3_putWord_92 rfl (Nat.le_of_ble_eq_true rfl) rfl rfl ?_
    refine ex_goto (tgt := 7) dX3_putWord_93 (by decide) ?_
    exact ex_sub [1, 2, 0] rfl (hC _ _ (Option.some.inj hf).symm)
  · replace hf := if_f hc14 hf
    refine ex_iload_n 2 (pc' := 90) dX3_putWord_89 rfl rfl rfl ?_
    refine ex_iload_n 3 (pc' := 91) dX3_putWord_90 rfl rfl rfl ?_
    refine ex_iadd (pc' := 92) dX3_putWord_91 rfl ?_
    refine ex_istore_n (lv' := [(2, .int (v2 + v3)), (0, .ref (gB G + 76)), (1, .ref (gB G + a1)), (3, .int v3)]) (pc' := 93) dX3_putWord_92 rfl (Nat.le_of_ble_eq_true rfl) rfl rfl ?_
    refine ex_goto (tgt := 7) dX3_putWord_93 (by decide) ?_
    exact ex_sub [1, 2, 0] rfl (hC _ _ (Option.some.inj hf).symm)
def f_X3_putWord_b7_j56 (N : Nat) (a1 : Nat) (v2 : Int32) (v3 : Int32) (I : MI) : Option ((Int32 × MI) ⊕ (MI)) := if inb v2 12 then (if (I (a1 + 1) (Int32.toNatClampNeg v2)) = 0 then f_X3_putWord_b7_j73 N a1 v2 v3 85 I else f_X3_putWord_b7_j73 N a1 v2 v3 68 I) else none
set_option maxRecDepth 100000 in
set_option maxHeartbeats 4000000 in
theorem k_X3_putWord_b7_j56 {G : GX} {Q : State → Prop} {X : MX} (hM : shX10 X) {a1 : Nat} {v2 : Int32} {v3 : Int32}  (h1 : shX9 X a1) {N : Nat} {I : MI} {L : ML} {out : (Int32 × MI) ⊕ (MI)} (hf : f_X3_putWord_b7_j56 N a1 v2 v3 I = some out) (hC : ∀ (v2' : Int32) (I' : MI), out = .inl (v2', I') → Ex G mX3_putWord rmX3_putWord Q (0, 0) X I' L 7 [(0, .ref (gB G + 76)), (1, .ref (gB G + a1)), (2, .int v2')] []) (hX : ∀ (I' : MI), out = .inr I' → Ex G mX3_putWord rmX3_putWord Q (0, 0) X I' L 96 [] []) : Ex G mX3_putWord rmX3_putWord Q (0, 0) X I L 56 [(0, .ref (gB G + 76)), (1, .ref (gB G + a1)), (2, .int v2), (3, .int v3)] [] := by
  unfold f_X3_putWord_b7_j56 at hf
  refine ex_aload_n 0 (pc' := 57) dX3_putWord_56 rfl rfl rfl ?_
  refine ex_aload_n 1 (pc' := 58) dX3_putWord_57 rfl rfl rfl ?_
  refine ex_getR (pc' := 61) dX3_putWord_58 fl_X3_22 rfl (sh9_k h1) (sh9_F0 h1) rfl ?_
  refine ex_iload_n 2 (pc' := 62) dX3_putWord_61 rfl rfl rfl ?_
  obtain ⟨hg10, hf⟩ := of_guard hf
  refine ex_iald (pc' := 63) dX3_putWord_62 (sh9_T0 h1) (inb_in hg10) rfl ?_
  refine ex_ifne (tgt := 71) (pc' := 66) dX3_putWord_63 (by decide) rfl (fun hc11 => ?_) (fun hc11 => ?_)
  · replace hf := if_t hc11 hf
    refine ex_bipush (v := 85) (pc' := 68) dX3_putWord_66 bp_85 rfl ?_
    refine ex_goto (tgt := 73) dX3_putWord_68 (by decide) ?_
    refine ex_sub [0, 1, 2, 3] rfl (k_X3_putWord_b7_j73 hM h1 hf hC hX)
  · replace hf := if_f hc11 hf
    refine ex_bipush (v := 68) (pc' := 73) dX3_putWord_71 bp_68 rfl ?_
    refine ex_sub [0, 1, 2, 3] rfl (k_X3_putWord_b7_j73 hM h1 hf hC hX)
def f_X3_putWord_b7 (N : Nat) (a1 : Nat) (v2 : Int32) (I : MI) : Option ((Int32 × MI) ⊕ (MI)) := (if v2 < (I a1 1) then bnd1 (f_X3_putWord_l17 N a1 v2 1 I) fun x8 => f_X3_putWord_b7_j56 N a1 v2 x8 I else some (.inr I))
set_option maxRecDepth 100000 in
set_option maxHeartbeats 4000000 in
theorem k_X3_putWord_b7 {G : GX} {Q : State → Prop} {X : MX} (hM : shX10 X) {a1 : Nat} (h1 : shX9 X a1) {v2 : Int32} {N : Nat} {I : MI} {L : ML} {out : (Int32 × MI) ⊕ (MI)} (hf : f_X3_putWord_b7 N a1 v2 I = some out) (hC : ∀ (v2' : Int32) (I' : MI), out = .inl (v2', I') → Ex G mX3_putWord rmX3_putWord Q (0, 0) X I' L 7 [(0, .ref (gB G + 76)), (1, .ref (gB G + a1)), (2, .int v2')] []) (hX : ∀ (I' : MI), out = .inr I' → Ex G mX3_putWord rmX3_putWord Q (0, 0) X I' L 96 [] []) : Ex G mX3_putWord rmX3_putWord Q (0, 0) X I L 7 [(0, .ref (gB G + 76)), (1, .ref (gB G + a1)), (2, .int v2)] [] := by
  unfold f_X3_putWord_b7 at hf
  refine ex_iload_n 2 (pc' := 8) dX3_putWord_7 rfl rfl rfl ?_
  refine ex_aload_n 1 (pc' := 9) dX3_putWord_8 rfl rfl rfl ?_
  refine ex_getI (pc' := 12) dX3_putWord_9 fl_X3_19 rfl (sh9_k h1) rfl ?_
  refine ex_icmpge (tgt := 96) (pc' := 15) dX3_putWord_12 (by decide) rfl (fun hc2 => ?_) (fun hc2 => ?_)
  · replace hf := if_t hc2 hf
    refine ex_iconst (v := 1) (pc' := 16) dX3_putWord_15 ic_1 rfl ?_
    refine ex_istore_n (lv' := [(3, .int 1), (0, .ref (gB G + 76)), (1, .ref (gB G + a1)), (2, .int v2)]) (pc' := 17) dX3_putWord_16 rfl (Nat.le_of_ble_eq_true rfl) rfl rfl ?_
    refine ex_sub (lv' := [(0, .ref (gB G + 76)), (1, .ref (gB G + a1)), (2, .int v2), (3, .int 1)]) [1, 2, 3, 0] rfl ?_
    obtain ⟨x8, hq9, hf⟩ := of_bnd1 hf
    refine k_X3_putWord_l17 hM h1 (fun x8' he => ?_) _ _ hq9
    cases he
    refine ex_sub [0, 1, 2, 3] rfl (k_X3_putWord_b7_j56 hM h1 hf hC hX)
  · replace hf := if_f hc2 hf
    exact ex_sub [] rfl (hX _ (Option.some.inj hf).symm)
def f_X3_putWord_l7 (N : Nat) (a1 : Nat) (v2 : Int32) (I : MI) : Option (MI) := loopN (fun s => f_X3_putWord_b7 N a1 s.1 s.2) N (v2, I)
set_option maxRecDepth 100000 in
set_option maxHeartbeats 4000000 in
theorem k_X3_putWord_l7 {G : GX} {Q : State → Prop} {X : MX} (hM : shX10 X) {a1 : Nat} (h1 : shX9 X a1) {N0 : Nat} {L : ML} {out : (MI)} (hX : ∀ (I' : MI), out = I' → Ex G mX3_putWord rmX3_putWord Q (0, 0) X I' L 96 [] []) : ∀ (N : Nat) (v2 : Int32) (I : MI), loopN (fun s => f_X3_putWord_b7 N0 a1 s.1 s.2) N (v2, I) = some out → Ex G mX3_putWord rmX3_putWord Q (0, 0) X I L 7 [(0, .ref (gB G + 76)), (1, .ref (gB G + a1)), (2, .int v2)] [] := by
  intro N
  induction N with
  | zero => intro v2 I hf; exact absurd (loopN_zero hf) id
  | succ n ih =>
    intro v2 I hf
    rcases loopN_succ hf with ⟨s, hb, hl⟩ | hb
    · obtain ⟨v2', I'⟩ := s
      refine k_X3_putWord_b7 hM h1 hb (fun _ _ he => ?_) (fun _ he => by cases he)
      cases he
      exact ih v2' I' hl
    · exact k_X3_putWord_b7 hM h1 hb (fun _ _ he => by cases he) (fun x0 he => hX x0 (Sum.inr.inj he))
def f_X3_putWord (N : Nat) (a1 : Nat) (I : MI) : Option (MI) := letv (upI I 76 1 0) fun I1 => bnd1 (f_X3_putWord_l7 N a1 0 I1) fun I17 => some I17
set_option maxRecDepth 100000 in
set_option maxHeartbeats 4000000 in
theorem kb_X3_putWord {G : GX} {Q : State → Prop} {X : MX} (hM : shX10 X) {a1 : Nat} (h1 : shX9 X a1) {N : Nat} {I : MI} {L : ML} {out : MI} (hf : f_X3_putWord N a1 I = some out) (hR : ∀ (I' : MI), out = I' → Q = RetQ G none X I' L (0, 0)) : Ex G mX3_putWord rmX3_putWord Q (0, 0) X I L 0 [(0, .ref (gB G + 76)), (1, .ref (gB G + a1))] [] := by
  unfold f_X3_putWord at hf
  refine ex_aload_n 0 (pc' := 1) dX3_putWord_0 rfl rfl rfl ?_
  refine ex_iconst (v := 0) (pc' := 2) dX3_putWord_1 ic_0 rfl ?_
  refine ex_putI (pc' := 5) dX3_putWord_2 fl_X3_15 rfl (sh3_k (sh10_T5 hM)) rfl ?_
  obtain ⟨I1, hI1, hf⟩ := of_let hf
  rw [← hI1]
  refine ex_iconst (v := 0) (pc' := 6) dX3_putWord_5 ic_0 rfl ?_
  refine ex_istore_n (lv' := [(2, .int 0), (0, .ref (gB G + 76)), (1, .ref (gB G + a1))]) (pc' := 7) dX3_putWord_6 rfl (Nat.le_of_ble_eq_true rfl) rfl rfl ?_
  refine ex_sub (lv' := [(0, .ref (gB G + 76)), (1, .ref (gB G + a1)), (2, .int 0)]) [1, 2, 0] rfl ?_
  obtain ⟨I17, hq18, hf⟩ := of_bnd1 hf
  refine k_X3_putWord_l7 hM h1 (fun I17' he => ?_) _ _ _ hq18
  cases he
  exact ex_vret dX3_putWord_96 rfl (hR _ (Option.some.inj hf).symm)
set_option maxRecDepth 100000 in
set_option maxHeartbeats 4000000 in
theorem k_X3_putWord (G : GX) {X : MX} (hM : shX10 X) {a1 : Nat} (h1 : shX9 X a1) {N : Nat} {I : MI} {L : ML} {I' : MI} (hf : f_X3_putWord N a1 I = some I') : Con G mX3_putWord yX3_putWord rmX3_putWord (fun B => [.ref (B + 76), .ref (B + a1)]) X I L none X I' L :=
  Con.of (by decide) rfl (fun h => by cases h) (fun B => Nat.le_of_ble_eq_true rfl) (fun G => kb_X3_putWord hM h1 hf (fun _ he => by cases he; rfl))
