theorem cn_L_7 : CLN RL 7 10 10 := ⟨RX10, TX10, rfl, inX10, tyX10_ok, by decide, lwg_at 66 (by decide +kernel) rfl, lwg_at 67 (by decide +kernel) rfl, lwg_at 50 (by decide +kernel) rfl⟩
theorem cn_L_10 : CLN RL 10 11 51 := ⟨RX11, TX11, rfl, inX11, tyX11_ok, by decide, lwg_at 928 (by decide +kernel) rfl, lwg_at 929 (by decide +kernel) rfl, lwg_at 61 (by decide +kernel) rfl⟩
theorem cl_L_9 : CLI RL 9 yX10_init mX10_init 0 := ⟨⟨lwg_at 68 (by decide +kernel) rfl, lwg_at 69 (by decide +kernel) rfl, lwg_at 50 (by decide +kernel) rfl⟩, lwg_at 70 (by decide +kernel) rfl, ⟨by decide +kernel, by decide +kernel, by decide +kernel⟩, rfl⟩
theorem cl_L_12 : CLI RL 12 yX11_init mX11_init 0 := ⟨⟨lwg_at 930 (by decide +kernel) rfl, lwg_at 931 (by decide +kernel) rfl, lwg_at 61 (by decide +kernel) rfl⟩, lwg_at 932 (by decide +kernel) rfl, ⟨by decide +kernel, by decide +kernel, by decide +kernel⟩, rfl⟩
def R_law : String := "RookWordsLaw"
def lw_P (b : Addr) (xs : List Int32) (args : Array Value) (s : State) : Prop := args = #[.ref b] ∧ s.IntsAt b xs ∧ xs.length ≤ 3072 ∧ (Jvm.Cond.and given_1 narrow_1).before args s = true
def lw_Q (_ : Array Value) (s : State) (o : Outcome) (t : State) : Prop := o = .returned (some (.int 1)) ∧ Framed s o t [] 600000 7302250
def lw_Z (below : List Frame) (a : Array Value) (s : State) : State → Prop := fun t => ∃ o, t.status = .running ∧ Ended t below o ∧ lw_Q a s o t
/-- the law's own end, with 1 on the stack, nothing written that was there before, its room as the claim has it -/
theorem lw_ret {p : Program} {l : Launch} {e : Env} {s : State} {m : MethodId} {below : List Frame} {meth : Method} {c : Code} {b : Nat} (hx : p.tables.exec = Jvm.exec) (hb : c.code = code) (hr : meth.sig.returnType = ret) (hlocks : meth.locks = false) {pc : Nat} {H : Heap} {ls : Array Slot} (hdg : decode code pc = .ok (.ireturn, 1)) : W p l e room_1 s m #[Value.ref b] below meth c H [] 600000 7302250 (lw_Z below #[Value.ref b] s) (F0 m pc ls [.int 1]) := by
  intro T hT X
  obtain ⟨fs, hret, hrun, hended, hW, hframe⟩ := X.leave (v := some (.int 1)) (hlocks := hlocks) (fun h => by rw [hr] at h; cases h)
  have hmeth' : T.vm.method? m = some meth := X.method'
  refine ⟨T.setFrames fs, ?_, .returned (some (.int 1)), hrun, hended, rfl, ⟨_, rfl⟩, hW, hframe⟩
  jvm_step X.here [X.here.top, hx, hb, hdg, hmeth', hr, ret, narrow_b1]
  (try refine ⟨rfl, ?_⟩); (try refine ⟨rfl, ?_⟩)
  first | (intro acts; rw [hret _ acts rfl rfl rfl]) | rw [hret _ _ rfl rfl rfl]
  exact Steps.refl _
/-- what holds at the law's entry: the machine, the code, the tables' words (any of lw_tbl by 'hts w (by decide +kernel)'), the script of L ints xs at the cell b, what the Statement gives of the start (any of its parts by flat_of_before) -/
def lw_At (p : Program) (s : State) (m : MethodId) (meth : Method) (c : Code) (b L : Nat) (xs : Nat → Int32) : Prop :=
  p.tables.exec = Jvm.exec ∧ c.code = code ∧ meth.sig.returnType = ret ∧ c.maxLocals = 4 ∧ s.vm.findClass R_law = some m.cls ∧ (∀ w ∈ lw_tbl, w.before #[Value.ref b] s = true) ∧ va_X b L xs s s.heap ∧ b < s.heap.size ∧ meth.locks = false ∧ (Jvm.Cond.and given_1 narrow_1).before #[Value.ref b] s = true

set_option maxRecDepth 100000 in
set_option maxHeartbeats 8000000 in
theorem world_of {s : State} {b : Nat} (hts : ∀ w ∈ lw_tbl, w.before #[Value.ref b] s = true) (hgv : (Jvm.Cond.and given_1 narrow_1).before #[Value.ref b] s = true) : ∃ (D : va_G) (dA : Nat → ClassId) (tS : Nat → Nat), World D dA s.heap.size tS s := by
  have hg : ∀ w ∈ lwg, w.before #[Value.ref b] s = true := fun w h => hts w (lwg_tbl h)
  obtain ⟨c0, iS0, hK0⟩ := u_known (C := RX0) (T := TX0) (N := 2) (n := 2) hg inX0 (hg _ (lwg_at (w := .instantiable RX0 2) 121 (by decide +kernel) rfl))
  obtain ⟨c1, iS1, hK1⟩ := u_known (C := RX1) (T := TX1) (N := 5) (n := 5) hg inX1 (hg _ (lwg_at (w := .instantiable RX1 5) 172 (by decide +kernel) rfl))
  obtain ⟨c2, iS2, hK2⟩ := u_known (C := RX2) (T := TX2) (N := 7) (n := 7) hg inX2 (hg _ (lwg_at (w := .instantiable RX2 7) 572 (by decide +kernel) rfl))
  obtain ⟨c3, iS3, hK3⟩ := u_known (C := RX3) (T := TX3) (N := 2) (n := 2) hg inX3 (hg _ (lwg_at (w := .instantiable RX3 2) 216 (by decide +kernel) rfl))
  obtain ⟨c4, iS4, hK4⟩ := u_known (C := RX4) (T := TX4) (N := 5) (n := 5) hg inX4 (hg _ (lwg_at (w := .instantiable RX4 5) 251 (by decide +kernel) rfl))
  obtain ⟨c5, iS5, hK5⟩ := u_known (C := RX5) (T := TX5) (N := 7) (n := 7) hg inX5 (hg _ (lwg_at (w := .instantiable RX5 7) 75 (by decide +kernel) rfl))
  obtain ⟨c6, iS6, hK6⟩ := u_known (C := RX6) (T := TX6) (N := 2) (n := 2) hg inX6 (hg _ (lwg_at (w := .instantiable RX6 2) 83 (by decide +kernel) rfl))
  obtain ⟨c7, iS7, hK7⟩ := u_known (C := RX7) (T := TX7) (N := 3) (n := 3) hg inX7 (hg _ (lwg_at (w := .instantiable RX7 3) 232 (by decide +kernel) rfl))
  obtain ⟨c8, iS8, hK8⟩ := u_known (C := RX8) (T := TX8) (N := 4) (n := 4) hg inX8 (hg _ (lwg_at (w := .instantiable RX8 4) 195 (by decide +kernel) rfl))
  obtain ⟨c9, iS9, hK9⟩ := u_known (C := RX9) (T := TX9) (N := 2) (n := 2) hg inX9 (hg _ (lwg_at (w := .instantiable RX9 2) 98 (by decide +kernel) rfl))
  obtain ⟨c10, iS10, hK10⟩ := u_known (C := RX10) (T := TX10) (N := 10) (n := 10) hg inX10 (hg _ (lwg_at (w := .instantiable RX10 10) 67 (by decide +kernel) rfl))
  obtain ⟨c11, iS11, hK11⟩ := u_known (C := RX11) (T := TX11) (N := 51) (n := 51) hg inX11 (hg _ (lwg_at (w := .instantiable RX11 51) 929 (by decide +kernel) rfl))
  obtain ⟨aI, kI, pI, i1, i2, i3⟩ := Cond.arrayClass_spec (hg _ (lwg_at (w := .arrayClass .int) 120 (by decide +kernel) rfl))
  obtain ⟨aJ, kJ, pJ, j1, j2, j3⟩ := Cond.arrayClass_spec (hg _ (lwg_at (w := .arrayClass .long) 95 (by decide +kernel) rfl))
  have hov4 : (Cond.arrayOver (.object RX9)).before #[Value.ref b] s = true := hts _ (List.mem_of_getElem? (i := 81) (by decide +kernel))
  obtain ⟨p4, q4, k4, r14, r24, r34, r44, r54⟩ := Cond.arrayOver_spec hov4
  have hov5 : (Cond.arrayOver (.object RX0)).before #[Value.ref b] s = true := hts _ (List.mem_of_getElem? (i := 97) (by decide +kernel))
  obtain ⟨p5, q5, k5, r15, r25, r35, r45, r55⟩ := Cond.arrayOver_spec hov5
  have hov6 : (Cond.arrayOver (.object RX7)).before #[Value.ref b] s = true := hts _ (List.mem_of_getElem? (i := 231) (by decide +kernel))
  obtain ⟨p6, q6, k6, r16, r26, r36, r46, r56⟩ := Cond.arrayOver_spec hov6
  have hov7 : (Cond.arrayOver (.object RX2)).before #[Value.ref b] s = true := hts _ (List.mem_of_getElem? (i := 273) (by decide +kernel))
  obtain ⟨p7, q7, k7, r17, r27, r37, r47, r57⟩ := Cond.arrayOver_spec hov7
  have hA : ∀ a : Nat, a < s.heap.size → ¬ s.heap.size ≤ a := fun a h => Nat.not_le.mpr h
  have hfl := flat_of_before _ hgv
  obtain ⟨t0, ev0, hT0⟩ := va_Tof (tm := (.static "RookWords$Rooks" "FACTORIALS" "[I")) (ty := .int) (N := 7) (f := fun i => .int (tabI 0 i)) (A := fun q => s.heap.size ≤ q) (by decide) (hfl (Cond.arrayOf (.static "RookWords$Rooks" "FACTORIALS" "[I") .int) (by decide +kernel)) (va_eqt (hfl (Cond.eq (.length (.static "RookWords$Rooks" "FACTORIALS" "[I")) (.int 7)) (by decide +kernel))) (fun k hk => by
      rcases (show k = 0 ∨ k = 1 ∨ k = 2 ∨ k = 3 ∨ k = 4 ∨ k = 5 ∨ k = 6 by omega) with rfl | rfl | rfl | rfl | rfl | rfl | rfl
      · exact va_eqt (hfl (Cond.eq (.elem (.static "RookWords$Rooks" "FACTORIALS" "[I") (.int 0)) (.int 1)) (by decide +kernel))
      · exact va_eqt (hfl (Cond.eq (.elem (.static "RookWords$Rooks" "FACTORIALS" "[I") (.int 1)) (.int 1)) (by decide +kernel))
      · exact va_eqt (hfl (Cond.eq (.elem (.static "RookWords$Rooks" "FACTORIALS" "[I") (.int 2)) (.int 2)) (by decide +kernel))
      · exact va_eqt (hfl (Cond.eq (.elem (.static "RookWords$Rooks" "FACTORIALS" "[I") (.int 3)) (.int 6)) (by decide +kernel))
      · exact va_eqt (hfl (Cond.eq (.elem (.static "RookWords$Rooks" "FACTORIALS" "[I") (.int 4)) (.int 24)) (by decide +kernel))
      · exact va_eqt (hfl (Cond.eq (.elem (.static "RookWords$Rooks" "FACTORIALS" "[I") (.int 5)) (.int 120)) (by decide +kernel))
      · exact va_eqt (hfl (Cond.eq (.elem (.static "RookWords$Rooks" "FACTORIALS" "[I") (.int 6)) (.int 720)) (by decide +kernel))) hA
  have hZ0 := va_Zof (A := fun q => s.heap.size ≤ q) (hts (.laysStatic "RookWords$Rooks" "FACTORIALS" "[I") (List.mem_of_getElem? (i := 667) (by decide +kernel))) (hg (.initialized "RookWords$Rooks") (lwg_at 60 (by decide +kernel) rfl)) ev0 hA
  obtain ⟨t1, ev1, hT1⟩ := va_Tof (tm := (.static "RookWords$Ladder" "SHIFTS" "[I")) (ty := .int) (N := 7) (f := fun i => .int (tabI 1 i)) (A := fun q => s.heap.size ≤ q) (by decide) (hfl (Cond.arrayOf (.static "RookWords$Ladder" "SHIFTS" "[I") .int) (by decide +kernel)) (va_eqt (hfl (Cond.eq (.length (.static "RookWords$Ladder" "SHIFTS" "[I")) (.int 7)) (by decide +kernel))) (fun k hk => by
      rcases (show k = 0 ∨ k = 1 ∨ k = 2 ∨ k = 3 ∨ k = 4 ∨ k = 5 ∨ k = 6 by omega) with rfl | rfl | rfl | rfl | rfl | rfl | rfl
      · exact va_eqt (hfl (Cond.eq (.elem (.static "RookWords$Ladder" "SHIFTS" "[I") (.int 0)) (.int 63)) (by decide +kernel))
      · exact va_eqt (hfl (Cond.eq (.elem (.static "RookWords$Ladder" "SHIFTS" "[I") (.int 1)) (.int 57)) (by decide +kernel))
      · exact va_eqt (hfl (Cond.eq (.elem (.static "RookWords$Ladder" "SHIFTS" "[I") (.int 2)) (.int 48)) (by decide +kernel))
      · exact va_eqt (hfl (Cond.eq (.elem (.static "RookWords$Ladder" "SHIFTS" "[I") (.int 3)) (.int 36)) (by decide +kernel))
      · exact va_eqt (hfl (Cond.eq (.elem (.static "RookWords$Ladder" "SHIFTS" "[I") (.int 4)) (.int 23)) (by decide +kernel))
      · exact va_eqt (hfl (Cond.eq (.elem (.static "RookWords$Ladder" "SHIFTS" "[I") (.int 5)) (.int 10)) (by decide +kernel))
      · exact va_eqt (hfl (Cond.eq (.elem (.static "RookWords$Ladder" "SHIFTS" "[I") (.int 6)) (.int 0)) (by decide +kernel))) hA
  have hZ1 := va_Zof (A := fun q => s.heap.size ≤ q) (hts (.laysStatic "RookWords$Ladder" "SHIFTS" "[I") (List.mem_of_getElem? (i := 590) (by decide +kernel))) (hg (.initialized "RookWords$Ladder") (lwg_at 65 (by decide +kernel) rfl)) ev1 hA
  obtain ⟨t2, ev2, hT2⟩ := va_Tof (tm := (.static "RookWords$Ladder" "MASKS" "[I")) (ty := .int) (N := 7) (f := fun i => .int (tabI 2 i)) (A := fun q => s.heap.size ≤ q) (by decide) (hfl (Cond.arrayOf (.static "RookWords$Ladder" "MASKS" "[I") .int) (by decide +kernel)) (va_eqt (hfl (Cond.eq (.length (.static "RookWords$Ladder" "MASKS" "[I")) (.int 7)) (by decide +kernel))) (fun k hk => by
      rcases (show k = 0 ∨ k = 1 ∨ k = 2 ∨ k = 3 ∨ k = 4 ∨ k = 5 ∨ k = 6 by omega) with rfl | rfl | rfl | rfl | rfl | rfl | rfl
      · exact va_eqt (hfl (Cond.eq (.elem (.static "RookWords$Ladder" "MASKS" "[I") (.int 0)) (.int 0)) (by decide +kernel))
      · exact va_eqt (hfl (Cond.eq (.elem (.static "RookWords$Ladder" "MASKS" "[I") (.int 1)) (.int 63)) (by decide +kernel))
      · exact va_eqt (hfl (Cond.eq (.elem (.static "RookWords$Ladder" "MASKS" "[I") (.int 2)) (.int 511)) (by decide +kernel))
      · exact va_eqt (hfl (Cond.eq (.elem (.static "RookWords$Ladder" "MASKS" "[I") (.int 3)) (.int 4095)) (by decide +kernel))
      · exact va_eqt (hfl (Cond.eq (.elem (.static "RookWords$Ladder" "MASKS" "[I") (.int 4)) (.int 8191)) (by decide +kernel))
      · exact va_eqt (hfl (Cond.eq (.elem (.static "RookWords$Ladder" "MASKS" "[I") (.int 5)) (.int 8191)) (by decide +kernel))
      · exact va_eqt (hfl (Cond.eq (.elem (.static "RookWords$Ladder" "MASKS" "[I") (.int 6)) (.int 1023)) (by decide +kernel))) hA
  have hZ2 := va_Zof (A := fun q => s.heap.size ≤ q) (hts (.laysStatic "RookWords$Ladder" "MASKS" "[I") (List.mem_of_getElem? (i := 716) (by decide +kernel))) (hg (.initialized "RookWords$Ladder") (lwg_at 65 (by decide +kernel) rfl)) ev2 hA
  obtain ⟨t3, ev3, hT3⟩ := va_Tof (tm := (.static "RookWords$Ladder" "SIZES" "[I")) (ty := .int) (N := 7) (f := fun i => .int (tabI 3 i)) (A := fun q => s.heap.size ≤ q) (by decide) (hfl (Cond.arrayOf (.static "RookWords$Ladder" "SIZES" "[I") .int) (by decide +kernel)) (va_eqt (hfl (Cond.eq (.length (.static "RookWords$Ladder" "SIZES" "[I")) (.int 7)) (by decide +kernel))) (fun k hk => by
      rcases (show k = 0 ∨ k = 1 ∨ k = 2 ∨ k = 3 ∨ k = 4 ∨ k = 5 ∨ k = 6 by omega) with rfl | rfl | rfl | rfl | rfl | rfl | rfl
      · exact va_eqt (hfl (Cond.eq (.elem (.static "RookWords$Ladder" "SIZES" "[I") (.int 0)) (.int 1)) (by decide +kernel))
      · exact va_eqt (hfl (Cond.eq (.elem (.static "RookWords$Ladder" "SIZES" "[I") (.int 1)) (.int 2)) (by decide +kernel))
      · exact va_eqt (hfl (Cond.eq (.elem (.static "RookWords$Ladder" "SIZES" "[I") (.int 2)) (.int 6)) (by decide +kernel))
      · exact va_eqt (hfl (Cond.eq (.elem (.static "RookWords$Ladder" "SIZES" "[I") (.int 3)) (.int 20)) (by decide +kernel))
      · exact va_eqt (hfl (Cond.eq (.elem (.static "RookWords$Ladder" "SIZES" "[I") (.int 4)) (.int 70)) (by decide +kernel))
      · exact va_eqt (hfl (Cond.eq (.elem (.static "RookWords$Ladder" "SIZES" "[I") (.int 5)) (.int 252)) (by decide +kernel))
      · exact va_eqt (hfl (Cond.eq (.elem (.static "RookWords$Ladder" "SIZES" "[I") (.int 6)) (.int 924)) (by decide +kernel))) hA
  have hZ3 := va_Zof (A := fun q => s.heap.size ≤ q) (hts (.laysStatic "RookWords$Ladder" "SIZES" "[I") (List.mem_of_getElem? (i := 578) (by decide +kernel))) (hg (.initialized "RookWords$Ladder") (lwg_at 65 (by decide +kernel) rfl)) ev3 hA
  refine ⟨(fun k => match k with | 0 => c0 | 1 => c1 | 2 => c2 | 3 => c3 | 4 => c4 | 5 => c5 | 6 => c6 | 7 => c7 | 8 => c8 | 9 => c9 | 10 => c10 | _ => c11, fun k => match k with | 0 => iS0 | 1 => iS1 | 2 => iS2 | 3 => iS3 | 4 => iS4 | 5 => iS5 | 6 => iS6 | 7 => iS7 | 8 => iS8 | 9 => iS9 | 10 => iS10 | _ => iS11), fun t => match t with | 2 => aI | 3 => aJ | 4 => q4 | 5 => q5 | 6 => q6 | _ => q7, fun j => match j with | 0 => t0 | 1 => t1 | 2 => t2 | _ => t3, ⟨?_, ?_⟩, ?_, ?_, ⟨hov4, hov5, hov6, hov7⟩, Nat.le_refl _⟩
  · intro k q hq
    match k, hq with
    | 0, hq => cases hq; exact hK0
    | 1, hq => cases hq; exact hK1
    | 2, hq => cases hq; exact hK2
    | 3, hq => cases hq; exact hK3
    | 4, hq => cases hq; exact hK4
    | 5, hq => cases hq; exact hK5
    | 6, hq => cases hq; exact hK6
    | 7, hq => cases hq; exact hK7
    | 8, hq => cases hq; exact hK8
    | 9, hq => cases hq; exact hK9
    | 10, hq => cases hq; exact hK10
    | 11, hq => cases hq; exact hK11
    | k + 12, hq => simp [vwCl] at hq
  · intro k q hq
    match k, hq with
    | 0, hq => cases hq; exact ⟨fun n z => ⟨fun k h => (by cases h), kI, i2, pI, i3⟩, i1⟩
    | 1, hq => cases hq; exact ⟨fun n z => ⟨fun k h => (by cases h), kJ, j2, pJ, j3⟩, j1⟩
    | 2, hq => cases hq; exact ⟨fun n z => ⟨fun k h => (by cases h), k4, r34, p4, r44⟩, k4, p4, r34, r44, r14, r54⟩
    | 3, hq => cases hq; exact ⟨fun n z => ⟨fun k h => (by cases h), k5, r35, p5, r45⟩, k5, p5, r35, r45, r15, r55⟩
    | 4, hq => cases hq; exact ⟨fun n z => ⟨fun k h => (by cases h), k6, r36, p6, r46⟩, k6, p6, r36, r46, r16, r56⟩
    | 5, hq => cases hq; exact ⟨fun n z => ⟨fun k h => (by cases h), k7, r37, p7, r47⟩, k7, p7, r37, r47, r17, r57⟩
    | k + 6, hq => simp [tysOf] at hq
  · intro j hj
    match j, hj with
    | 0, _ => exact ⟨hZ0, hT0⟩
    | 1, _ => exact ⟨hZ1, hT1⟩
    | 2, _ => exact ⟨hZ2, hT2⟩
    | 3, _ => exact ⟨hZ3, hT3⟩
  · intro w hw
    have hw2 : w ∈ lw_tbl ∧ w.onTables = true := by
      simp only [lwn, List.mem_cons, List.not_mem_nil, or_false] at hw
      rcases hw with rfl | rfl | rfl | rfl | rfl | rfl | rfl | rfl | rfl | rfl
      · exact ⟨List.mem_of_getElem? (i := 84) (by decide +kernel), rfl⟩
      · exact ⟨List.mem_of_getElem? (i := 99) (by decide +kernel), rfl⟩
      · exact ⟨List.mem_of_getElem? (i := 122) (by decide +kernel), rfl⟩
      · exact ⟨List.mem_of_getElem? (i := 173) (by decide +kernel), rfl⟩
      · exact ⟨List.mem_of_getElem? (i := 196) (by decide +kernel), rfl⟩
      · exact ⟨List.mem_of_getElem? (i := 217) (by decide +kernel), rfl⟩
      · exact ⟨List.mem_of_getElem? (i := 233) (by decide +kernel), rfl⟩
      · exact ⟨List.mem_of_getElem? (i := 252) (by decide +kernel), rfl⟩
      · exact ⟨List.mem_of_getElem? (i := 520) (by decide +kernel), rfl⟩
      · exact ⟨List.mem_of_getElem? (i := 586) (by decide +kernel), rfl⟩
    exact va_Nw.of hw2.2 (hts w hw2.1)
set_option maxRecDepth 100000 in
set_option maxHeartbeats 8000000 in
theorem law_entry {G : GX} {Q : State → Prop} {b : Nat} (hloop : Ex G mL_law rmL Q (138 + 8 * 0, 17299 + 4700 * 0) cXe cIe cLe 18 [(0, .ref b), (1, .ref (gB G + 0)), (2, .ref (gB G + 99)), (3, .int (nI (6 * 0)))] []) : Ex G mL_law rmL Q (0, 0) cX0 cI0 cL0 0 [(0, .ref b)] [] := by
  refine ex_new (pc' := 3) dL_law_0 cn_L_7 ⟨Nat.le_of_ble_eq_true rfl, Nat.le_of_ble_eq_true rfl⟩ rfl ?_
  show Ex G mL_law rmL Q (1, 10) cX1 cI1 cL0 3 [(0, .ref b)] [.ref (gB G + 0)]
  refine ex_dup (pc' := 4) dL_law_3 rfl rfl ?_
  refine ex_callI (rm' := rmcX10_init) (st := [.ref (gB G + 0)]) (pc' := 7) [] dL_law_4 cl_L_9 rfl (kc1_X10_init G) rfl rfl rfl (ROOM_of rfl) (Nat.le_of_ble_eq_true rfl) rfl ?_
  show Ex G mL_law rmL Q (99, 2890) cX197 cI102 cL11 7 [(0, .ref b)] [.ref (gB G + 0)]
  refine ex_astore_n (lv' := [(1, .ref (gB G + 0)), (0, .ref b)]) (pc' := 8) dL_law_7 rfl (Nat.le_of_ble_eq_true rfl) rfl rfl ?_
  refine ex_new (pc' := 11) dL_law_8 cn_L_10 ⟨Nat.le_of_ble_eq_true rfl, Nat.le_of_ble_eq_true rfl⟩ rfl ?_
  show Ex G mL_law rmL Q (100, 2941) cX198 cI103 cL11 11 [(1, .ref (gB G + 0)), (0, .ref b)] [.ref (gB G + 99)]
  refine ex_dup (pc' := 12) dL_law_11 rfl rfl ?_
  refine ex_callI (rm' := rmcX11_init) (st := [.ref (gB G + 99)]) (pc' := 15) [] dL_law_12 cl_L_12 rfl (kc40_X11_init G) rfl rfl rfl (ROOM_of rfl) (Nat.le_of_ble_eq_true rfl) rfl ?_
  show Ex G mL_law rmL Q (138, 17299) cXe cIe cLe 15 [(1, .ref (gB G + 0)), (0, .ref b)] [.ref (gB G + 99)]
  refine ex_astore_n (lv' := [(2, .ref (gB G + 99)), (1, .ref (gB G + 0)), (0, .ref b)]) (pc' := 16) dL_law_15 rfl (Nat.le_of_ble_eq_true rfl) rfl rfl ?_
  refine ex_iconst (v := nI (6 * 0)) (pc' := 17) dL_law_16 (by decide +kernel) rfl ?_
  refine ex_istore_n (lv' := [(3, .int (nI (6 * 0))), (2, .ref (gB G + 99)), (1, .ref (gB G + 0)), (0, .ref b)]) (pc' := 18) dL_law_17 rfl (Nat.le_of_ble_eq_true rfl) rfl rfl ?_
  exact ex_sub [3, 2, 1, 0] rfl (hloop)
theorem cX0_hold {D : va_G} {dA : Nat → ClassId} {H : Heap} : Hold D dA H.size cX0 cI0 cL0 H := ⟨rfl, fun _ _ => rfl, fun _ => trivial⟩
set_option maxRecDepth 100000 in
set_option maxHeartbeats 8000000 in
/-- the law from its entry, out of the steps -/
theorem start_of {N : Nat} {Inv : MX → MI → ML → Prop} (hSh : ∀ X I L, Inv X I L → shX10 X ∧ shX11 X) (hStep : Steps49 N Inv) (hI : Inv cXe cIe cLe) {p : Program} {e : Env} {s : State} {m : MethodId} {below : List Frame} {meth : Method} {c : Code} (l : Launch) {b L : Nat} {xs : Nat → Int32} (hL : L ≤ 3072) (C0 : lw_At p s m meth c b L xs) : W p l e room_1 s m #[Value.ref b] below meth c s.heap [] 0 0 (lw_Z below #[Value.ref b] s) (entryFrame m ([Value.ref b] : List Value).toArray 4) := by
  obtain ⟨hx, hb, hr, hml, hown, hts, hX, hbl, hlocks, hgv⟩ := C0
  obtain ⟨D, dA, tS, hW⟩ := world_of hts hgv
  have hEnd : ∀ (kn : Nat × Nat) (X : MX) (I : MI) (L : ML) (lv : List (Nat × Value)), kn.1 ≤ 600000 → kn.2 ≤ 7302250 → Ex ((p, l, e, room_1, s), (m, #[Value.ref b], below, meth, c), (D, dA, s.heap.size, tS)) mL_law rmL (lw_Z below #[Value.ref b] s) kn X I L 1896 lv [.int 1] := by
    intro kn X I L lv h1 h2 hc H locs ls hH hS hl
    refine va_forget (fun q hq => hS.2.2 q hq) ?_
    refine W.widen h1 h2 ?_
    exact lw_ret hx hb hr hlocks dL_law_1896
  have hloop := law_loop (G := ((p, l, e, room_1, s), (m, #[Value.ref b], below, meth, c), (D, dA, s.heap.size, tS))) (Q := lw_Z below #[Value.ref b] s) (b := b) (Ln := L) (xs := xs) ⟨hX, hbl, Nat.not_le.mpr hbl⟩ hL hSh hStep hEnd (L + 7) 0 cXe cIe cLe (by omega) (by omega) hI
  have hEx := law_entry hloop
  have hl := lv_entry ([.ref b]) (n := 4) (Nat.le_of_ble_eq_true rfl)
  rw [lg_entry_eq]
  exact hEx ⟨hx, hb, hml, hown, fun w h => hts w (lwg_tbl h), hW, hlocks, ⟨rfl, rfl, rfl, rfl⟩, (fun h => by cases h), hr⟩ s.heap [] _ cX0_hold va_S.rf hl
