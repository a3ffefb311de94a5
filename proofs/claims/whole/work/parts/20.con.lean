theorem oi_X10 : Cond.methodLink RX10 3 Lib.objectInit ∈ lwg ∧ Cond.instanceMethod Lib.objectInit ∈ lwg ∧ Cond.code Lib.objectInit ⟨#[0xb1]⟩ 1 none ∈ lwg := ⟨lwg_at 71 (by decide +kernel) rfl, lwg_at 72 (by decide +kernel) rfl, lwg_at 73 (by decide +kernel) rfl⟩
theorem cn_X10_9 : CLN RX10 9 5 7 := ⟨RX5, TX5, rfl, inX5, tyX5_ok, by decide, lwg_at 74 (by decide +kernel) rfl, lwg_at 75 (by decide +kernel) rfl, lwg_at 51 (by decide +kernel) rfl⟩
theorem cl_X10_11 : CLI RX10 11 yX5_init mX5_init 0 := ⟨⟨lwg_at 76 (by decide +kernel) rfl, lwg_at 77 (by decide +kernel) rfl, lwg_at 51 (by decide +kernel) rfl⟩, lwg_at 78 (by decide +kernel) rfl, ⟨by decide +kernel, by decide +kernel, by decide +kernel⟩, rfl⟩
theorem oi_X5 : Cond.methodLink RX5 3 Lib.objectInit ∈ lwg ∧ Cond.instanceMethod Lib.objectInit ∈ lwg ∧ Cond.code Lib.objectInit ⟨#[0xb1]⟩ 1 none ∈ lwg := ⟨lwg_at 79 (by decide +kernel) rfl, lwg_at 72 (by decide +kernel) rfl, lwg_at 73 (by decide +kernel) rfl⟩
theorem ck_X5_9 : Cond.classLink RX5 9 (raC 4) ∈ lwg := lwg_at 80 (by decide +kernel) rfl
theorem coX5 : ∀ C T N, vwCl[5]? = some (C, T, N) → C = RX5 := fun C T N h => by cases h; rfl
theorem cn_X5_17 : CLN RX5 17 6 2 := ⟨RX6, TX6, rfl, inX6, tyX6_ok, by decide, lwg_at 82 (by decide +kernel) rfl, lwg_at 83 (by decide +kernel) rfl, lwg_at 52 (by decide +kernel) rfl⟩
theorem cl_X5_19 : CLIN RX5 19 yX6_init mX6_init 0 := ⟨⟨_, List.mem_of_getElem? (i := 0) rfl⟩, ⟨lwg_at 85 (by decide +kernel) rfl, lwg_at 52 (by decide +kernel) rfl⟩, lwg_at 86 (by decide +kernel) rfl, ⟨by decide +kernel, by decide +kernel, by decide +kernel⟩, rfl⟩
theorem oi_X6 : Cond.methodLink RX6 3 Lib.objectInit ∈ lwg ∧ Cond.instanceMethod Lib.objectInit ∈ lwg ∧ Cond.code Lib.objectInit ⟨#[0xb1]⟩ 1 none ∈ lwg := ⟨lwg_at 87 (by decide +kernel) rfl, lwg_at 72 (by decide +kernel) rfl, lwg_at 73 (by decide +kernel) rfl⟩
theorem coX6 : ∀ C T N, vwCl[6]? = some (C, T, N) → C = RX6 := fun C T N h => by cases h; rfl
theorem ck_X5_24 : Cond.classLink RX5 24 (raC 5) ∈ lwg := lwg_at 96 (by decide +kernel) rfl
theorem cn_X5_9 : CLN RX5 9 9 2 := ⟨RX9, TX9, rfl, inX9, tyX9_ok, by decide, lwg_at 80 (by decide +kernel) rfl, lwg_at 98 (by decide +kernel) rfl, lwg_at 53 (by decide +kernel) rfl⟩
theorem cl_X5_40 : CLIN RX5 40 yX9_init mX9_init 0 := ⟨⟨_, List.mem_of_getElem? (i := 1) rfl⟩, ⟨lwg_at 100 (by decide +kernel) rfl, lwg_at 53 (by decide +kernel) rfl⟩, lwg_at 101 (by decide +kernel) rfl, ⟨by decide +kernel, by decide +kernel, by decide +kernel⟩, rfl⟩
theorem oi_X9 : Cond.methodLink RX9 3 Lib.objectInit ∈ lwg ∧ Cond.instanceMethod Lib.objectInit ∈ lwg ∧ Cond.code Lib.objectInit ⟨#[0xb1]⟩ 1 none ∈ lwg := ⟨lwg_at 102 (by decide +kernel) rfl, lwg_at 72 (by decide +kernel) rfl, lwg_at 73 (by decide +kernel) rfl⟩
theorem coX9 : ∀ C T N, vwCl[9]? = some (C, T, N) → C = RX9 := fun C T N h => by cases h; rfl
theorem cn_X5_24 : CLN RX5 24 0 2 := ⟨RX0, TX0, rfl, inX0, tyX0_ok, by decide, lwg_at 96 (by decide +kernel) rfl, lwg_at 121 (by decide +kernel) rfl, lwg_at 54 (by decide +kernel) rfl⟩
theorem cl_X5_41 : CLIN RX5 41 yX0_init mX0_init 0 := ⟨⟨_, List.mem_of_getElem? (i := 2) rfl⟩, ⟨lwg_at 123 (by decide +kernel) rfl, lwg_at 54 (by decide +kernel) rfl⟩, lwg_at 124 (by decide +kernel) rfl, ⟨by decide +kernel, by decide +kernel, by decide +kernel⟩, rfl⟩
theorem oi_X0 : Cond.methodLink RX0 3 Lib.objectInit ∈ lwg ∧ Cond.instanceMethod Lib.objectInit ∈ lwg ∧ Cond.code Lib.objectInit ⟨#[0xb1]⟩ 1 none ∈ lwg := ⟨lwg_at 125 (by decide +kernel) rfl, lwg_at 72 (by decide +kernel) rfl, lwg_at 73 (by decide +kernel) rfl⟩
theorem coX0 : ∀ C T N, vwCl[0]? = some (C, T, N) → C = RX0 := fun C T N h => by cases h; rfl
theorem cl_X5_42 : CLS RX5 42 yJ7_fill_53178 mJ7_fill_53178 none 2 := ⟨⟨lwg_at 137 (by decide +kernel) rfl, lwg_at 138 (by decide +kernel) rfl, lwg_at 55 (by decide +kernel) rfl⟩, lwg_at 139 (by decide +kernel) rfl, ⟨by decide +kernel, by decide +kernel, by decide +kernel⟩⟩
theorem coX10 : ∀ C T N, vwCl[10]? = some (C, T, N) → C = RX10 := fun C T N h => by cases h; rfl
theorem cn_X10_21 : CLN RX10 21 1 5 := ⟨RX1, TX1, rfl, inX1, tyX1_ok, by decide, lwg_at 171 (by decide +kernel) rfl, lwg_at 172 (by decide +kernel) rfl, lwg_at 56 (by decide +kernel) rfl⟩
theorem cl_X10_23 : CLIN RX10 23 yX1_init mX1_init 0 := ⟨⟨_, List.mem_of_getElem? (i := 3) rfl⟩, ⟨lwg_at 174 (by decide +kernel) rfl, lwg_at 56 (by decide +kernel) rfl⟩, lwg_at 175 (by decide +kernel) rfl, ⟨by decide +kernel, by decide +kernel, by decide +kernel⟩, rfl⟩
theorem oi_X1 : Cond.methodLink RX1 3 Lib.objectInit ∈ lwg ∧ Cond.instanceMethod Lib.objectInit ∈ lwg ∧ Cond.code Lib.objectInit ⟨#[0xb1]⟩ 1 none ∈ lwg := ⟨lwg_at 176 (by decide +kernel) rfl, lwg_at 72 (by decide +kernel) rfl, lwg_at 73 (by decide +kernel) rfl⟩
theorem coX1 : ∀ C T N, vwCl[1]? = some (C, T, N) → C = RX1 := fun C T N h => by cases h; rfl
theorem cn_X10_28 : CLN RX10 28 8 4 := ⟨RX8, TX8, rfl, inX8, tyX8_ok, by decide, lwg_at 194 (by decide +kernel) rfl, lwg_at 195 (by decide +kernel) rfl, lwg_at 57 (by decide +kernel) rfl⟩
theorem cl_X10_30 : CLIN RX10 30 yX8_init mX8_init 0 := ⟨⟨_, List.mem_of_getElem? (i := 4) rfl⟩, ⟨lwg_at 197 (by decide +kernel) rfl, lwg_at 57 (by decide +kernel) rfl⟩, lwg_at 198 (by decide +kernel) rfl, ⟨by decide +kernel, by decide +kernel, by decide +kernel⟩, rfl⟩
theorem oi_X8 : Cond.methodLink RX8 3 Lib.objectInit ∈ lwg ∧ Cond.instanceMethod Lib.objectInit ∈ lwg ∧ Cond.code Lib.objectInit ⟨#[0xb1]⟩ 1 none ∈ lwg := ⟨lwg_at 199 (by decide +kernel) rfl, lwg_at 72 (by decide +kernel) rfl, lwg_at 73 (by decide +kernel) rfl⟩
theorem coX8 : ∀ C T N, vwCl[8]? = some (C, T, N) → C = RX8 := fun C T N h => by cases h; rfl
theorem cn_X10_35 : CLN RX10 35 3 2 := ⟨RX3, TX3, rfl, inX3, tyX3_ok, by decide, lwg_at 215 (by decide +kernel) rfl, lwg_at 216 (by decide +kernel) rfl, lwg_at 58 (by decide +kernel) rfl⟩
theorem cl_X10_37 : CLIN RX10 37 yX3_init mX3_init 0 := ⟨⟨_, List.mem_of_getElem? (i := 5) rfl⟩, ⟨lwg_at 218 (by decide +kernel) rfl, lwg_at 58 (by decide +kernel) rfl⟩, lwg_at 219 (by decide +kernel) rfl, ⟨by decide +kernel, by decide +kernel, by decide +kernel⟩, rfl⟩
theorem oi_X3 : Cond.methodLink RX3 3 Lib.objectInit ∈ lwg ∧ Cond.instanceMethod Lib.objectInit ∈ lwg ∧ Cond.code Lib.objectInit ⟨#[0xb1]⟩ 1 none ∈ lwg := ⟨lwg_at 220 (by decide +kernel) rfl, lwg_at 72 (by decide +kernel) rfl, lwg_at 73 (by decide +kernel) rfl⟩
theorem coX3 : ∀ C T N, vwCl[3]? = some (C, T, N) → C = RX3 := fun C T N h => by cases h; rfl
theorem ck_X10_42 : Cond.classLink RX10 42 (raC 6) ∈ lwg := lwg_at 230 (by decide +kernel) rfl
theorem cn_X10_42 : CLN RX10 42 7 3 := ⟨RX7, TX7, rfl, inX7, tyX7_ok, by decide, lwg_at 230 (by decide +kernel) rfl, lwg_at 232 (by decide +kernel) rfl, lwg_at 59 (by decide +kernel) rfl⟩
theorem cl_X10_48 : CLIN RX10 48 yX7_init mX7_init 0 := ⟨⟨_, List.mem_of_getElem? (i := 6) rfl⟩, ⟨lwg_at 234 (by decide +kernel) rfl, lwg_at 59 (by decide +kernel) rfl⟩, lwg_at 235 (by decide +kernel) rfl, ⟨by decide +kernel, by decide +kernel, by decide +kernel⟩, rfl⟩
theorem oi_X7 : Cond.methodLink RX7 3 Lib.objectInit ∈ lwg ∧ Cond.instanceMethod Lib.objectInit ∈ lwg ∧ Cond.code Lib.objectInit ⟨#[0xb1]⟩ 1 none ∈ lwg := ⟨lwg_at 236 (by decide +kernel) rfl, lwg_at 72 (by decide +kernel) rfl, lwg_at 73 (by decide +kernel) rfl⟩
theorem coX7 : ∀ C T N, vwCl[7]? = some (C, T, N) → C = RX7 := fun C T N h => by cases h; rfl
theorem cn_X10_49 : CLN RX10 49 4 5 := ⟨RX4, TX4, rfl, inX4, tyX4_ok, by decide, lwg_at 250 (by decide +kernel) rfl, lwg_at 251 (by decide +kernel) rfl, lwg_at 60 (by decide +kernel) rfl⟩
theorem cl_X10_51 : CLIN RX10 51 yX4_init mX4_init 0 := ⟨⟨_, List.mem_of_getElem? (i := 7) rfl⟩, ⟨lwg_at 253 (by decide +kernel) rfl, lwg_at 60 (by decide +kernel) rfl⟩, lwg_at 254 (by decide +kernel) rfl, ⟨by decide +kernel, by decide +kernel, by decide +kernel⟩, rfl⟩
theorem oi_X4 : Cond.methodLink RX4 3 Lib.objectInit ∈ lwg ∧ Cond.instanceMethod Lib.objectInit ∈ lwg ∧ Cond.code Lib.objectInit ⟨#[0xb1]⟩ 1 none ∈ lwg := ⟨lwg_at 255 (by decide +kernel) rfl, lwg_at 72 (by decide +kernel) rfl, lwg_at 73 (by decide +kernel) rfl⟩
theorem coX4 : ∀ C T N, vwCl[4]? = some (C, T, N) → C = RX4 := fun C T N h => by cases h; rfl
theorem bp_37 : (Int8.ofInt 37).toInt32 = 37 := by decide
theorem ck_X10_56 : Cond.classLink RX10 56 (raC 7) ∈ lwg := lwg_at 272 (by decide +kernel) rfl
theorem oi_X11 : Cond.methodLink RX11 3 Lib.objectInit ∈ lwg ∧ Cond.instanceMethod Lib.objectInit ∈ lwg ∧ Cond.code Lib.objectInit ⟨#[0xb1]⟩ 1 none ∈ lwg := ⟨lwg_at 933 (by decide +kernel) rfl, lwg_at 72 (by decide +kernel) rfl, lwg_at 73 (by decide +kernel) rfl⟩
theorem coX11 : ∀ C T N, vwCl[11]? = some (C, T, N) → C = RX11 := fun C T N h => by cases h; rfl
theorem bp_24 : (Int8.ofInt 24).toInt32 = 24 := by decide
theorem sp_360 : (Int16.ofInt 360).toInt32 = 360 := by decide
theorem sp_5544 : (Int16.ofInt 5544).toInt32 = 5544 := by decide
theorem sp_6468 : (Int16.ofInt 6468).toInt32 = 6468 := by decide
theorem sp_160 : (Int16.ofInt 160).toInt32 = 160 := by decide
/-- a row of ints, all v -/
def fillI (I : MI) (a n : Nat) (v : Int32) : MI := fun b j => if b = a ∧ j < n then v else I b j
theorem fill_loop (N0 a n : Nat) (v : Int32) (hn : n < 2 ^ 31) : ∀ (k : Nat) (N : Nat) (I : MI), k ≤ n → n - k < N → loopN (fun s => f_J7_fill_53178_b5 N0 a n v (Int32.ofNat n) s.1 s.2) N (nI k, I) = some (fun b j => if b = a ∧ k ≤ j ∧ j < n then v else I b j) := by
  intro k N
  induction N generalizing k with
  | zero => intro I h1 h2; omega
  | succ N ih =>
    intro I h1 h2
    unfold loopN
    by_cases hk : k < n
    · have e1 : f_J7_fill_53178_b5 N0 a n v (Int32.ofNat n) (nI k) I = some (.inl (nI (k + 1), upI I a k v)) := by
        unfold f_J7_fill_53178_b5
        rw [if_pos (show nI k < Int32.ofNat n from nI_lt hk hn), if_pos (by simp [inb, nI_pos (show k < 2 ^ 31 by omega), nI_clamp (show k < 2 ^ 31 by omega), hk])]
        simp only [letv, nI_clamp (show k < 2 ^ 31 by omega), nI_1]
      simp only [e1]
      rw [ih (k + 1) (upI I a k v) (by omega) (by omega)]
      congr 1
      funext b j
      unfold upI
      by_cases h3 : b = a
      · by_cases h4 : j = k
        · subst h4; simp [h3, hk]
        · have : (k + 1 ≤ j ∧ j < n) ↔ (k ≤ j ∧ j < n) := by omega
          simp [h3, h4, this]
      · simp [h3]
    · have hkn : k = n := by omega
      subst hkn
      have e1 : f_J7_fill_53178_b5 N0 a k v (Int32.ofNat k) (nI k) I = some (.inr I) := by
        unfold f_J7_fill_53178_b5
        rw [if_neg (show ¬ nI k < Int32.ofNat k from nI_nlt (Nat.le_refl k) hn)]
      simp only [e1]
      congr 1
      funext b j
      rw [if_neg (by omega)]
theorem fill_I {N a n : Nat} {v : Int32} {I : MI} (hN : n < N) (hn : n < 2 ^ 31) : f_J7_fill_53178 N a n v I = some (fillI I a n v) := by
  unfold f_J7_fill_53178 f_J7_fill_53178_l5
  have h := fill_loop N a n v hn 0 N I (Nat.zero_le n) (by omega)
  rw [nI_0] at h
  rw [h]
  show some _ = some _
  congr 1
  funext b j
  simp [fillI]
def cX0 : MX := ((fun _ => (0, 0)), (fun _ _ => none), 0)
def cI0 : MI := fun _ _ => 0
def cL0 : ML := fun _ _ => 0
def cX1 : MX := (nwK cX0.1 0 (1, 10), nwF cX0.2.1 0, 1)
def cI1 : MI := nwI cI0 0
def cX2 : MX := (nwK cX1.1 1 (1, 5), nwF cX1.2.1 1, 2)
def cI2 : MI := nwI cI1 1
def cX3 : MX := (nwK cX2.1 2 (4, 6), nwF cX2.2.1 2, 3)
def cX4 : MX := (cX3.1, upF cX3.2.1 1 0 (some 2), cX3.2.2)
def cX5 : MX := (nwK cX4.1 3 (1, 6), nwF cX4.2.1 3, 4)
def cI3 : MI := nwI cI2 3
def cX6 : MX := (nwK cX5.1 4 (3, 169), cX5.2.1, 5)
def cL1 : ML := nwL cL0 4
def cX7 : MX := (cX6.1, upF cX6.2.1 3 0 (some 4), cX6.2.2)
def cX8 : MX := (nwK cX7.1 5 (3, 169), cX7.2.1, 6)
def cL2 : ML := nwL cL1 5
def cX9 : MX := (cX8.1, upF cX8.2.1 3 1 (some 5), cX8.2.2)
def rmcX6_init : RM := ((1, 20, 2, 338), true, none)
set_option maxRecDepth 100000 in
set_option maxHeartbeats 4000000 in
theorem kc3_X6_init (G : GX) : Con G mX6_init yX6_init rmcX6_init (fun B => [.ref (B + 3)]) cX5 cI3 cL0 none cX9 cI3 cL2 :=
  Con.of (by decide) rfl (fun _ => rfl) (fun B => Nat.le_of_ble_eq_true rfl) (fun G => by
    refine ex_aload_n 0 (pc' := 1) dX6_init_0 rfl rfl rfl ?_
    refine ex_objInit (pc' := 4) dX6_init_1 oi_X6 ⟨Nat.le_of_ble_eq_true rfl, Nat.le_of_ble_eq_true rfl⟩ rfl ?_
    refine ex_aload_n 0 (pc' := 5) dX6_init_4 rfl rfl rfl ?_
    refine ex_sipush (v := 169) (pc' := 8) dX6_init_5 sp_169 rfl ?_
    refine ex_newL (N := 169) (pc' := 10) dX6_init_8 acL (by decide) (by decide) (Nat.le_of_ble_eq_true rfl) ⟨Nat.le_of_ble_eq_true rfl, Nat.le_of_ble_eq_true rfl⟩ rfl ?_
    show Ex G mX6_init rmcX6_init (RetQ G none cX9 cI3 cL2 (2, 338)) (1, 169) cX6 cI3 cL1 10 [(0, .ref (gB G + 3))] [.ref (gB G + 4), .ref (gB G + 3)]
    refine ex_putFR (pc' := 13) dX6_init_10 fl_X6_11 rfl coX6 rfl rfl rfl rfl ?_
    show Ex G mX6_init rmcX6_init (RetQ G none cX9 cI3 cL2 (2, 338)) (1, 169) cX7 cI3 cL1 13 [(0, .ref (gB G + 3))] []
    refine ex_aload_n 0 (pc' := 14) dX6_init_13 rfl rfl rfl ?_
    refine ex_sipush (v := 169) (pc' := 17) dX6_init_14 sp_169 rfl ?_
    refine ex_newL (N := 169) (pc' := 19) dX6_init_17 acL (by decide) (by decide) (Nat.le_of_ble_eq_true rfl) ⟨Nat.le_of_ble_eq_true rfl, Nat.le_of_ble_eq_true rfl⟩ rfl ?_
    show Ex G mX6_init rmcX6_init (RetQ G none cX9 cI3 cL2 (2, 338)) (2, 338) cX8 cI3 cL2 19 [(0, .ref (gB G + 3))] [.ref (gB G + 5), .ref (gB G + 3)]
    refine ex_putFR (pc' := 22) dX6_init_19 fl_X6_15 rfl coX6 rfl rfl rfl rfl ?_
    show Ex G mX6_init rmcX6_init (RetQ G none cX9 cI3 cL2 (2, 338)) (2, 338) cX9 cI3 cL2 22 [(0, .ref (gB G + 3))] []
    exact ex_vret dX6_init_22 rfl rfl)
def cX10 : MX := (cX9.1, upF cX9.2.1 1 1 (some 3), cX9.2.2)
def cX11 : MX := (nwK cX10.1 6 (5, 6), nwF cX10.2.1 6, 7)
def cX12 : MX := (cX11.1, upF cX11.2.1 1 2 (some 6), cX11.2.2)
def cX13 : MX := (nwK cX12.1 7 (2, 36), cX12.2.1, 8)
def cI4 : MI := nwI cI3 7
def cX14 : MX := (cX13.1, upF cX13.2.1 1 3 (some 7), cX13.2.2)
def cX15 : MX := (nwK cX14.1 8 (2, 4), cX14.2.1, 9)
def cI5 : MI := nwI cI4 8
def cX16 : MX := (cX15.1, upF cX15.2.1 1 4 (some 8), cX15.2.2)
def cX17 : MX := (nwK cX16.1 9 (2, 4), cX16.2.1, 10)
def cI6 : MI := nwI cI5 9
def cX18 : MX := (cX17.1, upF cX17.2.1 1 5 (some 9), cX17.2.2)
def cX19 : MX := (nwK cX18.1 10 (1, 9), nwF cX18.2.1 10, 11)
def cI7 : MI := nwI cI6 10
def cX20 : MX := (nwK cX19.1 11 (2, 12), cX19.2.1, 12)
def cI8 : MI := nwI cI7 11
def cX21 : MX := (cX20.1, upF cX20.2.1 10 0 (some 11), cX20.2.2)
def rmcX9_init : RM := ((1, 20, 1, 12), true, none)
set_option maxRecDepth 100000 in
set_option maxHeartbeats 4000000 in
theorem kc4_X9_init (G : GX) : Con G mX9_init yX9_init rmcX9_init (fun B => [.ref (B + 10)]) cX19 cI7 cL2 none cX21 cI8 cL2 :=
  Con.of (by decide) rfl (fun _ => rfl) (fun B => Nat.le_of_ble_eq_true rfl) (fun G => by
    refine ex_aload_n 0 (pc' := 1) dX9_init_0 rfl rfl rfl ?_
    refine ex_objInit (pc' := 4) dX9_init_1 oi_X9 ⟨Nat.le_of_ble_eq_true rfl, Nat.le_of_ble_eq_true rfl⟩ rfl ?_
    refine ex_aload_n 0 (pc' := 5) dX9_init_4 rfl rfl rfl ?_
    refine ex_bipush (v := 12) (pc' := 7) dX9_init_5 bp_12 rfl ?_
    refine ex_newI (N := 12) (pc' := 9) dX9_init_7 acI (by decide) (by decide) (Nat.le_of_ble_eq_true rfl) ⟨Nat.le_of_ble_eq_true rfl, Nat.le_of_ble_eq_true rfl⟩ rfl ?_
    show Ex G mX9_init rmcX9_init (RetQ G none cX21 cI8 cL2 (1, 12)) (1, 12) cX20 cI8 cL2 9 [(0, .ref (gB G + 10))] [.ref (gB G + 11), .ref (gB G + 10)]
    refine ex_putFR (pc' := 12) dX9_init_9 fl_X9_9 rfl coX9 rfl rfl rfl rfl ?_
    show Ex G mX9_init rmcX9_init (RetQ G none cX21 cI8 cL2 (1, 12)) (1, 12) cX21 cI8 cL2 12 [(0, .ref (gB G + 10))] []
    exact ex_vret dX9_init_12 rfl rfl)
def cX22 : MX := (cX21.1, upF cX21.2.1 2 0 (some 10), cX21.2.2)
def cX23 : MX := (nwK cX22.1 12 (1, 0), nwF cX22.2.1 12, 13)
def cI9 : MI := nwI cI8 12
def cI10 : MI := upI cI9 12 0 3
def cX24 : MX := (nwK cX23.1 13 (2, 6), cX23.2.1, 14)
def cI11 : MI := nwI cI10 13
def cX25 : MX := (cX24.1, upF cX24.2.1 12 1 (some 13), cX24.2.2)
def rmcX0_init : RM := ((1, 20, 1, 6), true, none)
set_option maxRecDepth 100000 in
set_option maxHeartbeats 4000000 in
theorem kc5_X0_init (G : GX) : Con G mX0_init yX0_init rmcX0_init (fun B => [.ref (B + 12)]) cX23 cI9 cL2 none cX25 cI11 cL2 :=
  Con.of (by decide) rfl (fun _ => rfl) (fun B => Nat.le_of_ble_eq_true rfl) (fun G => by
    refine ex_aload_n 0 (pc' := 1) dX0_init_0 rfl rfl rfl ?_
    refine ex_objInit (pc' := 4) dX0_init_1 oi_X0 ⟨Nat.le_of_ble_eq_true rfl, Nat.le_of_ble_eq_true rfl⟩ rfl ?_
    refine ex_aload_n 0 (pc' := 5) dX0_init_4 rfl rfl rfl ?_
    refine ex_iconst (v := 3) (pc' := 6) dX0_init_5 ic_3 rfl ?_
    refine ex_putI (pc' := 9) dX0_init_6 fl_X0_11 rfl rfl rfl ?_
    show Ex G mX0_init rmcX0_init (RetQ G none cX25 cI11 cL2 (1, 6)) (0, 0) cX23 cI10 cL2 9 [(0, .ref (gB G + 12))] []
    refine ex_aload_n 0 (pc' := 10) dX0_init_9 rfl rfl rfl ?_
    refine ex_bipush (v := 6) (pc' := 12) dX0_init_10 bp_6 rfl ?_
    refine ex_newI (N := 6) (pc' := 14) dX0_init_12 acI (by decide) (by decide) (Nat.le_of_ble_eq_true rfl) ⟨Nat.le_of_ble_eq_true rfl, Nat.le_of_ble_eq_true rfl⟩ rfl ?_
    show Ex G mX0_init rmcX0_init (RetQ G none cX25 cI11 cL2 (1, 6)) (1, 6) cX24 cI11 cL2 14 [(0, .ref (gB G + 12))] [.ref (gB G + 13), .ref (gB G + 12)]
    refine ex_putFR (pc' := 17) dX0_init_14 fl_X0_15 rfl coX0 rfl rfl rfl rfl ?_
    show Ex G mX0_init rmcX0_init (RetQ G none cX25 cI11 cL2 (1, 6)) (1, 6) cX25 cI11 cL2 17 [(0, .ref (gB G + 12))] []
    exact ex_vret dX0_init_17 rfl rfl)
def cX26 : MX := (cX25.1, upF cX25.2.1 6 0 (some 12), cX25.2.2)
def cX27 : MX := (nwK cX26.1 14 (1, 9), nwF cX26.2.1 14, 15)
def cI12 : MI := nwI cI11 14
def cX28 : MX := (nwK cX27.1 15 (2, 12), cX27.2.1, 16)
def cI13 : MI := nwI cI12 15
def cX29 : MX := (cX28.1, upF cX28.2.1 14 0 (some 15), cX28.2.2)
set_option maxRecDepth 100000 in
set_option maxHeartbeats 4000000 in
theorem kc6_X9_init (G : GX) : Con G mX9_init yX9_init rmcX9_init (fun B => [.ref (B + 14)]) cX27 cI12 cL2 none cX29 cI13 cL2 :=
  Con.of (by decide) rfl (fun _ => rfl) (fun B => Nat.le_of_ble_eq_true rfl) (fun G => by
    refine ex_aload_n 0 (pc' := 1) dX9_init_0 rfl rfl rfl ?_
    refine ex_objInit (pc' := 4) dX9_init_1 oi_X9 ⟨Nat.le_of_ble_eq_true rfl, Nat.le_of_ble_eq_true rfl⟩ rfl ?_
    refine ex_aload_n 0 (pc' := 5) dX9_init_4 rfl rfl rfl ?_
    refine ex_bipush (v := 12) (pc' := 7) dX9_init_5 bp_12 rfl ?_
    refine ex_newI (N := 12) (pc' := 9) dX9_init_7 acI (by decide) (by decide) (Nat.le_of_ble_eq_true rfl) ⟨Nat.le_of_ble_eq_true rfl, Nat.le_of_ble_eq_true rfl⟩ rfl ?_
    show Ex G mX9_init rmcX9_init (RetQ G none cX29 cI13 cL2 (1, 12)) (1, 12) cX28 cI13 cL2 9 [(0, .ref (gB G + 14))] [.ref (gB G + 15), .ref (gB G + 14)]
    refine ex_putFR (pc' := 12) dX9_init_9 fl_X9_9 rfl coX9 rfl rfl rfl rfl ?_
    show Ex G mX9_init rmcX9_init (RetQ G none cX29 cI13 cL2 (1, 12)) (1, 12) cX29 cI13 cL2 12 [(0, .ref (gB G + 14))] []
    exact ex_vret dX9_init_12 rfl rfl)
def cX30 : MX := (cX29.1, upF cX29.2.1 2 1 (some 14), cX29.2.2)
def cX31 : MX := (nwK cX30.1 16 (1, 0), nwF cX30.2.1 16, 17)
def cI14 : MI := nwI cI13 16
def cI15 : MI := upI cI14 16 0 3
def cX32 : MX := (nwK cX31.1 17 (2, 6), cX31.2.1, 18)
def cI16 : MI := nwI cI15 17
def cX33 : MX := (cX32.1, upF cX32.2.1 16 1 (some 17), cX32.2.2)
set_option maxRecDepth 100000 in
set_option maxHeartbeats 4000000 in
theorem kc7_X0_init (G : GX) : Con G mX0_init yX0_init rmcX0_init (fun B => [.ref (B + 16)]) cX31 cI14 cL2 none cX33 cI16 cL2 :=
  Con.of (by decide) rfl (fun _ => rfl) (fun B => Nat.le_of_ble_eq_true rfl) (fun G => by
    refine ex_aload_n 0 (pc' := 1) dX0_init_0 rfl rfl rfl ?_
    refine ex_objInit (pc' := 4) dX0_init_1 oi_X0 ⟨Nat.le_of_ble_eq_true rfl, Nat.le_of_ble_eq_true rfl⟩ rfl ?_
    refine ex_aload_n 0 (pc' := 5) dX0_init_4 rfl rfl rfl ?_
    refine ex_iconst (v := 3) (pc' := 6) dX0_init_5 ic_3 rfl ?_
    refine ex_putI (pc' := 9) dX0_init_6 fl_X0_11 rfl rfl rfl ?_
    show Ex G mX0_init rmcX0_init (RetQ G none cX33 cI16 cL2 (1, 6)) (0, 0) cX31 cI15 cL2 9 [(0, .ref (gB G + 16))] []
    refine ex_aload_n 0 (pc' := 10) dX0_init_9 rfl rfl rfl ?_
    refine ex_bipush (v := 6) (pc' := 12) dX0_init_10 bp_6 rfl ?_
    refine ex_newI (N := 6) (pc' := 14) dX0_init_12 acI (by decide) (by decide) (Nat.le_of_ble_eq_true rfl) ⟨Nat.le_of_ble_eq_true rfl, Nat.le_of_ble_eq_true rfl⟩ rfl ?_
    show Ex G mX0_init rmcX0_init (RetQ G none cX33 cI16 cL2 (1, 6)) (1, 6) cX32 cI16 cL2 14 [(0, .ref (gB G + 16))] [.ref (gB G + 17), .ref (gB G + 16)]
    refine ex_putFR (pc' := 17) dX0_init_14 fl_X0_15 rfl coX0 rfl rfl rfl rfl ?_
    show Ex G mX0_init rmcX0_init (RetQ G none cX33 cI16 cL2 (1, 6)) (1, 6) cX33 cI16 cL2 17 [(0, .ref (gB G + 16))] []
    exact ex_vret dX0_init_17 rfl rfl)
def cX34 : MX := (cX33.1, upF cX33.2.1 6 1 (some 16), cX33.2.2)
def cX35 : MX := (nwK cX34.1 18 (1, 9), nwF cX34.2.1 18, 19)
def cI17 : MI := nwI cI16 18
def cX36 : MX := (nwK cX35.1 19 (2, 12), cX35.2.1, 20)
def cI18 : MI := nwI cI17 19
def cX37 : MX := (cX36.1, upF cX36.2.1 18 0 (some 19), cX36.2.2)
set_option maxRecDepth 100000 in
set_option maxHeartbeats 4000000 in
theorem kc8_X9_init (G : GX) : Con G mX9_init yX9_init rmcX9_init (fun B => [.ref (B + 18)]) cX35 cI17 cL2 none cX37 cI18 cL2 :=
  Con.of (by decide) rfl (fun _ => rfl) (fun B => Nat.le_of_ble_eq_true rfl) (fun G => by
    refine ex_aload_n 0 (pc' := 1) dX9_init_0 rfl rfl rfl ?_
    refine ex_objInit (pc' := 4) dX9_init_1 oi_X9 ⟨Nat.le_of_ble_eq_true rfl, Nat.le_of_ble_eq_true rfl⟩ rfl ?_
    refine ex_aload_n 0 (pc' := 5) dX9_init_4 rfl rfl rfl ?_
    refine ex_bipush (v := 12) (pc' := 7) dX9_init_5 bp_12 rfl ?_
    refine ex_newI (N := 12) (pc' := 9) dX9_init_7 acI (by decide) (by decide) (Nat.le_of_ble_eq_true rfl) ⟨Nat.le_of_ble_eq_true rfl, Nat.le_of_ble_eq_true rfl⟩ rfl ?_
    show Ex G mX9_init rmcX9_init (RetQ G none cX37 cI18 cL2 (1, 12)) (1, 12) cX36 cI18 cL2 9 [(0, .ref (gB G + 18))] [.ref (gB G + 19), .ref (gB G + 18)]
    refine ex_putFR (pc' := 12) dX9_init_9 fl_X9_9 rfl coX9 rfl rfl rfl rfl ?_
    show Ex G mX9_init rmcX9_init (RetQ G none cX37 cI18 cL2 (1, 12)) (1, 12) cX37 cI18 cL2 12 [(0, .ref (gB G + 18))] []
    exact ex_vret dX9_init_12 rfl rfl)
def cX38 : MX := (cX37.1, upF cX37.2.1 2 2 (some 18), cX37.2.2)
def cX39 : MX := (nwK cX38.1 20 (1, 0), nwF cX38.2.1 20, 21)
def cI19 : MI := nwI cI18 20
def cI20 : MI := upI cI19 20 0 3
def cX40 : MX := (nwK cX39.1 21 (2, 6), cX39.2.1, 22)
def cI21 : MI := nwI cI20 21
def cX41 : MX := (cX40.1, upF cX40.2.1 20 1 (some 21), cX40.2.2)
set_option maxRecDepth 100000 in
set_option maxHeartbeats 4000000 in
theorem kc9_X0_init (G : GX) : Con G mX0_init yX0_init rmcX0_init (fun B => [.ref (B + 20)]) cX39 cI19 cL2 none cX41 cI21 cL2 :=
  Con.of (by decide) rfl (fun _ => rfl) (fun B => Nat.le_of_ble_eq_true rfl) (fun G => by
    refine ex_aload_n 0 (pc' := 1) dX0_init_0 rfl rfl rfl ?_
    refine ex_objInit (pc' := 4) dX0_init_1 oi_X0 ⟨Nat.le_of_ble_eq_true rfl, Nat.le_of_ble_eq_true rfl⟩ rfl ?_
    refine ex_aload_n 0 (pc' := 5) dX0_init_4 rfl rfl rfl ?_
    refine ex_iconst (v := 3) (pc' := 6) dX0_init_5 ic_3 rfl ?_
    refine ex_putI (pc' := 9) dX0_init_6 fl_X0_11 rfl rfl rfl ?_
    show Ex G mX0_init rmcX0_init (RetQ G none cX41 cI21 cL2 (1, 6)) (0, 0) cX39 cI20 cL2 9 [(0, .ref (gB G + 20))] []
    refine ex_aload_n 0 (pc' := 10) dX0_init_9 rfl rfl rfl ?_
    refine ex_bipush (v := 6) (pc' := 12) dX0_init_10 bp_6 rfl ?_
    refine ex_newI (N := 6) (pc' := 14) dX0_init_12 acI (by decide) (by decide) (Nat.le_of_ble_eq_true rfl) ⟨Nat.le_of_ble_eq_true rfl, Nat.le_of_ble_eq_true rfl⟩ rfl ?_
    show Ex G mX0_init rmcX0_init (RetQ G none cX41 cI21 cL2 (1, 6)) (1, 6) cX40 cI21 cL2 14 [(0, .ref (gB G + 20))] [.ref (gB G + 21), .ref (gB G + 20)]
    refine ex_putFR (pc' := 17) dX0_init_14 fl_X0_15 rfl coX0 rfl rfl rfl rfl ?_
    show Ex G mX0_init rmcX0_init (RetQ G none cX41 cI21 cL2 (1, 6)) (1, 6) cX41 cI21 cL2 17 [(0, .ref (gB G + 20))] []
    exact ex_vret dX0_init_17 rfl rfl)
def cX42 : MX := (cX41.1, upF cX41.2.1 6 2 (some 20), cX41.2.2)
def cX43 : MX := (nwK cX42.1 22 (1, 9), nwF cX42.2.1 22, 23)
def cI22 : MI := nwI cI21 22
def cX44 : MX := (nwK cX43.1 23 (2, 12), cX43.2.1, 24)
def cI23 : MI := nwI cI22 23
def cX45 : MX := (cX44.1, upF cX44.2.1 22 0 (some 23), cX44.2.2)
set_option maxRecDepth 100000 in
set_option maxHeartbeats 4000000 in
theorem kc10_X9_init (G : GX) : Con G mX9_init yX9_init rmcX9_init (fun B => [.ref (B + 22)]) cX43 cI22 cL2 none cX45 cI23 cL2 :=
  Con.of (by decide) rfl (fun _ => rfl) (fun B => Nat.le_of_ble_eq_true rfl) (fun G => by
    refine ex_aload_n 0 (pc' := 1) dX9_init_0 rfl rfl rfl ?_
    refine ex_objInit (pc' := 4) dX9_init_1 oi_X9 ⟨Nat.le_of_ble_eq_true rfl, Nat.le_of_ble_eq_true rfl⟩ rfl ?_
    refine ex_aload_n 0 (pc' := 5) dX9_init_4 rfl rfl rfl ?_
    refine ex_bipush (v := 12) (pc' := 7) dX9_init_5 bp_12 rfl ?_
    refine ex_newI (N := 12) (pc' := 9) dX9_init_7 acI (by decide) (by decide) (Nat.le_of_ble_eq_true rfl) ⟨Nat.le_of_ble_eq_true rfl, Nat.le_of_ble_eq_true rfl⟩ rfl ?_
    show Ex G mX9_init rmcX9_init (RetQ G none cX45 cI23 cL2 (1, 12)) (1, 12) cX44 cI23 cL2 9 [(0, .ref (gB G + 22))] [.ref (gB G + 23), .ref (gB G + 22)]
    refine ex_putFR (pc' := 12) dX9_init_9 fl_X9_9 rfl coX9 rfl rfl rfl rfl ?_
    show Ex G mX9_init rmcX9_init (RetQ G none cX45 cI23 cL2 (1, 12)) (1, 12) cX45 cI23 cL2 12 [(0, .ref (gB G + 22))] []
    exact ex_vret dX9_init_12 rfl rfl)
def cX46 : MX := (cX45.1, upF cX45.2.1 2 3 (some 22), cX45.2.2)
def cX47 : MX := (nwK cX46.1 24 (1, 0), nwF cX46.2.1 24, 25)
def cI24 : MI := nwI cI23 24
def cI25 : MI := upI cI24 24 0 3
def cX48 : MX := (nwK cX47.1 25 (2, 6), cX47.2.1, 26)
def cI26 : MI := nwI cI25 25
def cX49 : MX := (cX48.1, upF cX48.2.1 24 1 (some 25), cX48.2.2)
set_option maxRecDepth 100000 in
set_option maxHeartbeats 4000000 in
theorem kc11_X0_init (G : GX) : Con G mX0_init yX0_init rmcX0_init (fun B => [.ref (B + 24)]) cX47 cI24 cL2 none cX49 cI26 cL2 :=
  Con.of (by decide) rfl (fun _ => rfl) (fun B => Nat.le_of_ble_eq_true rfl) (fun G => by
    refine ex_aload_n 0 (pc' := 1) dX0_init_0 rfl rfl rfl ?_
    refine ex_objInit (pc' := 4) dX0_init_1 oi_X0 ⟨Nat.le_of_ble_eq_true rfl, Nat.le_of_ble_eq_true rfl⟩ rfl ?_
    refine ex_aload_n 0 (pc' := 5) dX0_init_4 rfl rfl rfl ?_
    refine ex_iconst (v := 3) (pc' := 6) dX0_init_5 ic_3 rfl ?_
    refine ex_putI (pc' := 9) dX0_init_6 fl_X0_11 rfl rfl rfl ?_
    show Ex G mX0_init rmcX0_init (RetQ G none cX49 cI26 cL2 (1, 6)) (0, 0) cX47 cI25 cL2 9 [(0, .ref (gB G + 24))] []
    refine ex_aload_n 0 (pc' := 10) dX0_init_9 rfl rfl rfl ?_
    refine ex_bipush (v := 6) (pc' := 12) dX0_init_10 bp_6 rfl ?_
    refine ex_newI (N := 6) (pc' := 14) dX0_init_12 acI (by decide) (by decide) (Nat.le_of_ble_eq_true rfl) ⟨Nat.le_of_ble_eq_true rfl, Nat.le_of_ble_eq_true rfl⟩ rfl ?_
    show Ex G mX0_init rmcX0_init (RetQ G none cX49 cI26 cL2 (1, 6)) (1, 6) cX48 cI26 cL2 14 [(0, .ref (gB G + 24))] [.ref (gB G + 25), .ref (gB G + 24)]
    refine ex_putFR (pc' := 17) dX0_init_14 fl_X0_15 rfl coX0 rfl rfl rfl rfl ?_
    show Ex G mX0_init rmcX0_init (RetQ G none cX49 cI26 cL2 (1, 6)) (1, 6) cX49 cI26 cL2 17 [(0, .ref (gB G + 24))] []
    exact ex_vret dX0_init_17 rfl rfl)
def cX50 : MX := (cX49.1, upF cX49.2.1 6 3 (some 24), cX49.2.2)
def cX51 : MX := (nwK cX50.1 26 (1, 9), nwF cX50.2.1 26, 27)
def cI27 : MI := nwI cI26 26
def cX52 : MX := (nwK cX51.1 27 (2, 12), cX51.2.1, 28)
def cI28 : MI := nwI cI27 27
def cX53 : MX := (cX52.1, upF cX52.2.1 26 0 (some 27), cX52.2.2)
set_option maxRecDepth 100000 in
set_option maxHeartbeats 4000000 in
theorem kc12_X9_init (G : GX) : Con G mX9_init yX9_init rmcX9_init (fun B => [.ref (B + 26)]) cX51 cI27 cL2 none cX53 cI28 cL2 :=
  Con.of (by decide) rfl (fun _ => rfl) (fun B => Nat.le_of_ble_eq_true rfl) (fun G => by
    refine ex_aload_n 0 (pc' := 1) dX9_init_0 rfl rfl rfl ?_
    refine ex_objInit (pc' := 4) dX9_init_1 oi_X9 ⟨Nat.le_of_ble_eq_true rfl, Nat.le_of_ble_eq_true rfl⟩ rfl ?_
    refine ex_aload_n 0 (pc' := 5) dX9_init_4 rfl rfl rfl ?_
    refine ex_bipush (v := 12) (pc' := 7) dX9_init_5 bp_12 rfl ?_
    refine ex_newI (N := 12) (pc' := 9) dX9_init_7 acI (by decide) (by decide) (Nat.le_of_ble_eq_true rfl) ⟨Nat.le_of_ble_eq_true rfl, Nat.le_of_ble_eq_true rfl⟩ rfl ?_
    show Ex G mX9_init rmcX9_init (RetQ G none cX53 cI28 cL2 (1, 12)) (1, 12) cX52 cI28 cL2 9 [(0, .ref (gB G + 26))] [.ref (gB G + 27), .ref (gB G + 26)]
    refine ex_putFR (pc' := 12) dX9_init_9 fl_X9_9 rfl coX9 rfl rfl rfl rfl ?_
    show Ex G mX9_init rmcX9_init (RetQ G none cX53 cI28 cL2 (1, 12)) (1, 12) cX53 cI28 cL2 12 [(0, .ref (gB G + 26))] []
    exact ex_vret dX9_init_12 rfl rfl)
def cX54 : MX := (cX53.1, upF cX53.2.1 2 4 (some 26), cX53.2.2)
def cX55 : MX := (nwK cX54.1 28 (1, 0), nwF cX54.2.1 28, 29)
def cI29 : MI := nwI cI28 28
def cI30 : MI := upI cI29 28 0 3
def cX56 : MX := (nwK cX55.1 29 (2, 6), cX55.2.1, 30)
def cI31 : MI := nwI cI30 29
def cX57 : MX := (cX56.1, upF cX56.2.1 28 1 (some 29), cX56.2.2)
set_option maxRecDepth 100000 in
set_option maxHeartbeats 4000000 in
theorem kc13_X0_init (G : GX) : Con G mX0_init yX0_init rmcX0_init (fun B => [.ref (B + 28)]) cX55 cI29 cL2 none cX57 cI31 cL2 :=
  Con.of (by decide) rfl (fun _ => rfl) (fun B => Nat.le_of_ble_eq_true rfl) (fun G => by
    refine ex_aload_n 0 (pc' := 1) dX0_init_0 rfl rfl rfl ?_
    refine ex_objInit (pc' := 4) dX0_init_1 oi_X0 ⟨Nat.le_of_ble_eq_true rfl, Nat.le_of_ble_eq_true rfl⟩ rfl ?_
    refine ex_aload_n 0 (pc' := 5) dX0_init_4 rfl rfl rfl ?_
    refine ex_iconst (v := 3) (pc' := 6) dX0_init_5 ic_3 rfl ?_
    refine ex_putI (pc' := 9) dX0_init_6 fl_X0_11 rfl rfl rfl ?_
    show Ex G mX0_init rmcX0_init (RetQ G none cX57 cI31 cL2 (1, 6)) (0, 0) cX55 cI30 cL2 9 [(0, .ref (gB G + 28))] []
    refine ex_aload_n 0 (pc' := 10) dX0_init_9 rfl rfl rfl ?_
    refine ex_bipush (v := 6) (pc' := 12) dX0_init_10 bp_6 rfl ?_
    refine ex_newI (N := 6) (pc' := 14) dX0_init_12 acI (by decide) (by decide) (Nat.le_of_ble_eq_true rfl) ⟨Nat.le_of_ble_eq_true rfl, Nat.le_of_ble_eq_true rfl⟩ rfl ?_
    show Ex G mX0_init rmcX0_init (RetQ G none cX57 cI31 cL2 (1, 6)) (1, 6) cX56 cI31 cL2 14 [(0, .ref (gB G + 28))] [.ref (gB G + 29), .ref (gB G + 28)]
    refine ex_putFR (pc' := 17) dX0_init_14 fl_X0_15 rfl coX0 rfl rfl rfl rfl ?_
    show Ex G mX0_init rmcX0_init (RetQ G none cX57 cI31 cL2 (1, 6)) (1, 6) cX57 cI31 cL2 17 [(0, .ref (gB G + 28))] []
    exact ex_vret dX0_init_17 rfl rfl)
def cX58 : MX := (cX57.1, upF cX57.2.1 6 4 (some 28), cX57.2.2)
def cX59 : MX := (nwK cX58.1 30 (1, 9), nwF cX58.2.1 30, 31)
def cI32 : MI := nwI cI31 30
def cX60 : MX := (nwK cX59.1 31 (2, 12), cX59.2.1, 32)
def cI33 : MI := nwI cI32 31
def cX61 : MX := (cX60.1, upF cX60.2.1 30 0 (some 31), cX60.2.2)
set_option maxRecDepth 100000 in
set_option maxHeartbeats 4000000 in
theorem kc14_X9_init (G : GX) : Con G mX9_init yX9_init rmcX9_init (fun B => [.ref (B + 30)]) cX59 cI32 cL2 none cX61 cI33 cL2 :=
  Con.of (by decide) rfl (fun _ => rfl) (fun B => Nat.le_of_ble_eq_true rfl) (fun G => by
    refine ex_aload_n 0 (pc' := 1) dX9_init_0 rfl rfl rfl ?_
    refine ex_objInit (pc' := 4) dX9_init_1 oi_X9 ⟨Nat.le_of_ble_eq_true rfl, Nat.le_of_ble_eq_true rfl⟩ rfl ?_
    refine ex_aload_n 0 (pc' := 5) dX9_init_4 rfl rfl rfl ?_
    refine ex_bipush (v := 12) (pc' := 7) dX9_init_5 bp_12 rfl ?_
    refine ex_newI (N := 12) (pc' := 9) dX9_init_7 acI (by decide) (by decide) (Nat.le_of_ble_eq_true rfl) ⟨Nat.le_of_ble_eq_true rfl, Nat.le_of_ble_eq_true rfl⟩ rfl ?_
    show Ex G mX9_init rmcX9_init (RetQ G none cX61 cI33 cL2 (1, 12)) (1, 12) cX60 cI33 cL2 9 [(0, .ref (gB G + 30))] [.ref (gB G + 31), .ref (gB G + 30)]
    refine ex_putFR (pc' := 12) dX9_init_9 fl_X9_9 rfl coX9 rfl rfl rfl rfl ?_
    show Ex G mX9_init rmcX9_init (RetQ G none cX61 cI33 cL2 (1, 12)) (1, 12) cX61 cI33 cL2 12 [(0, .ref (gB G + 30))] []
    exact ex_vret dX9_init_12 rfl rfl)
def cX62 : MX := (cX61.1, upF cX61.2.1 2 5 (some 30), cX61.2.2)
def cX63 : MX := (nwK cX62.1 32 (1, 0), nwF cX62.2.1 32, 33)
def cI34 : MI := nwI cI33 32
def cI35 : MI := upI cI34 32 0 3
def cX64 : MX := (nwK cX63.1 33 (2, 6), cX63.2.1, 34)
def cI36 : MI := nwI cI35 33
def cX65 : MX := (cX64.1, upF cX64.2.1 32 1 (some 33), cX64.2.2)
set_option maxRecDepth 100000 in
set_option maxHeartbeats 4000000 in
theorem kc15_X0_init (G : GX) : Con G mX0_init yX0_init rmcX0_init (fun B => [.ref (B + 32)]) cX63 cI34 cL2 none cX65 cI36 cL2 :=
  Con.of (by decide) rfl (fun _ => rfl) (fun B => Nat.le_of_ble_eq_true rfl) (fun G => by
    refine ex_aload_n 0 (pc' := 1) dX0_init_0 rfl rfl rfl ?_
    refine ex_objInit (pc' := 4) dX0_init_1 oi_X0 ⟨Nat.le_of_ble_eq_true rfl, Nat.le_of_ble_eq_true rfl⟩ rfl ?_
    refine ex_aload_n 0 (pc' := 5) dX0_init_4 rfl rfl rfl ?_
    refine ex_iconst (v := 3) (pc' := 6) dX0_init_5 ic_3 rfl ?_
    refine ex_putI (pc' := 9) dX0_init_6 fl_X0_11 rfl rfl rfl ?_
    show Ex G mX0_init rmcX0_init (RetQ G none cX65 cI36 cL2 (1, 6)) (0, 0) cX63 cI35 cL2 9 [(0, .ref (gB G + 32))] []
    refine ex_aload_n 0 (pc' := 10) dX0_init_9 rfl rfl rfl ?_
    refine ex_bipush (v := 6) (pc' := 12) dX0_init_10 bp_6 rfl ?_
    refine ex_newI (N := 6) (pc' := 14) dX0_init_12 acI (by decide) (by decide) (Nat.le_of_ble_eq_true rfl) ⟨Nat.le_of_ble_eq_true rfl, Nat.le_of_ble_eq_true rfl⟩ rfl ?_
    show Ex G mX0_init rmcX0_init (RetQ G none cX65 cI36 cL2 (1, 6)) (1, 6) cX64 cI36 cL2 14 [(0, .ref (gB G + 32))] [.ref (gB G + 33), .ref (gB G + 32)]
    refine ex_putFR (pc' := 17) dX0_init_14 fl_X0_15 rfl coX0 rfl rfl rfl rfl ?_
    show Ex G mX0_init rmcX0_init (RetQ G none cX65 cI36 cL2 (1, 6)) (1, 6) cX65 cI36 cL2 17 [(0, .ref (gB G + 32))] []
    exact ex_vret dX0_init_17 rfl rfl)
def cX66 : MX := (cX65.1, upF cX65.2.1 6 5 (some 32), cX65.2.2)
def cI37 : MI := fillI cI36 7 36 1
def rmcX5_init : RM := ((2, 40, 32, 528), true, none)
set_option maxRecDepth 100000 in
set_option maxHeartbeats 4000000 in
theorem kc2_X5_init (G : GX) : Con G mX5_init yX5_init rmcX5_init (fun B => [.ref (B + 1)]) cX2 cI2 cL0 none cX66 cI37 cL2 :=
  Con.of (by decide) rfl (fun _ => rfl) (fun B => Nat.le_of_ble_eq_true rfl) (fun G => by
    refine ex_aload_n 0 (pc' := 1) dX5_init_0 rfl rfl rfl ?_
    refine ex_objInit (pc' := 4) dX5_init_1 oi_X5 ⟨Nat.le_of_ble_eq_true rfl, Nat.le_of_ble_eq_true rfl⟩ rfl ?_
    refine ex_aload_n 0 (pc' := 5) dX5_init_4 rfl rfl rfl ?_
    refine ex_bipush (v := 6) (pc' := 7) dX5_init_5 bp_6 rfl ?_
    refine ex_newq (t := 4) (N := 6) (pc' := 10) dX5_init_7 (by decide) (by decide) ck_X5_9 (by decide) (by decide) (Nat.le_of_ble_eq_true rfl) ⟨Nat.le_of_ble_eq_true rfl, Nat.le_of_ble_eq_true rfl⟩ rfl ?_
    show Ex G mX5_init rmcX5_init (RetQ G none cX66 cI37 cL2 (32, 528)) (1, 6) cX3 cI2 cL0 10 [(0, .ref (gB G + 1))] [.ref (gB G + 2), .ref (gB G + 1)]
    refine ex_putFR (pc' := 13) dX5_init_10 fl_X5_11 rfl coX5 rfl rfl rfl rfl ?_
    show Ex G mX5_init rmcX5_init (RetQ G none cX66 cI37 cL2 (32, 528)) (1, 6) cX4 cI2 cL0 13 [(0, .ref (gB G + 1))] []
    refine ex_aload_n 0 (pc' := 14) dX5_init_13 rfl rfl rfl ?_
    refine ex_new (pc' := 17) dX5_init_14 cn_X5_17 ⟨Nat.le_of_ble_eq_true rfl, Nat.le_of_ble_eq_true rfl⟩ rfl ?_
    show Ex G mX5_init rmcX5_init (RetQ G none cX66 cI37 cL2 (32, 528)) (2, 8) cX5 cI3 cL0 17 [(0, .ref (gB G + 1))] [.ref (gB G + 3), .ref (gB G + 1)]
    refine ex_dup (pc' := 18) dX5_init_17 rfl rfl ?_
    refine ex_callIN (rm' := rmcX6_init) (st := [.ref (gB G + 3), .ref (gB G + 1)]) (pc' := 21) [] dX5_init_18 cl_X5_19 rfl (kc3_X6_init G) rfl rfl rfl (ROOM_of rfl) (Nat.le_of_ble_eq_true rfl) rfl ?_
    show Ex G mX5_init rmcX5_init (RetQ G none cX66 cI37 cL2 (32, 528)) (4, 346) cX9 cI3 cL2 21 [(0, .ref (gB G + 1))] [.ref (gB G + 3), .ref (gB G + 1)]
    refine ex_putFR (pc' := 24) dX5_init_21 fl_X5_20 rfl coX5 rfl rfl rfl rfl ?_
    show Ex G mX5_init rmcX5_init (RetQ G none cX66 cI37 cL2 (32, 528)) (4, 346) cX10 cI3 cL2 24 [(0, .ref (gB G + 1))] []
    refine ex_aload_n 0 (pc' := 25) dX5_init_24 rfl rfl rfl ?_
    refine ex_bipush (v := 6) (pc' := 27) dX5_init_25 bp_6 rfl ?_
    refine ex_newq (t := 5) (N := 6) (pc' := 30) dX5_init_27 (by decide) (by decide) ck_X5_24 (by decide) (by decide) (Nat.le_of_ble_eq_true rfl) ⟨Nat.le_of_ble_eq_true rfl, Nat.le_of_ble_eq_true rfl⟩ rfl ?_
    show Ex G mX5_init rmcX5_init (RetQ G none cX66 cI37 cL2 (32, 528)) (5, 352) cX11 cI3 cL2 30 [(0, .ref (gB G + 1))] [.ref (gB G + 6), .ref (gB G + 1)]
    refine ex_putFR (pc' := 33) dX5_init_30 fl_X5_26 rfl coX5 rfl rfl rfl rfl ?_
    show Ex G mX5_init rmcX5_init (RetQ G none cX66 cI37 cL2 (32, 528)) (5, 352) cX12 cI3 cL2 33 [(0, .ref (gB G + 1))] []
    refine ex_aload_n 0 (pc' := 34) dX5_init_33 rfl rfl rfl ?_
    refine ex_bipush (v := 36) (pc' := 36) dX5_init_34 bp_36 rfl ?_
    refine ex_newI (N := 36) (pc' := 38) dX5_init_36 acI (by decide) (by decide) (Nat.le_of_ble_eq_true rfl) ⟨Nat.le_of_ble_eq_true rfl, Nat.le_of_ble_eq_true rfl⟩ rfl ?_
    show Ex G mX5_init rmcX5_init (RetQ G none cX66 cI37 cL2 (32, 528)) (6, 388) cX13 cI4 cL2 38 [(0, .ref (gB G + 1))] [.ref (gB G + 7), .ref (gB G + 1)]
    refine ex_putFR (pc' := 41) dX5_init_38 fl_X5_30 rfl coX5 rfl rfl rfl rfl ?_
    show Ex G mX5_init rmcX5_init (RetQ G none cX66 cI37 cL2 (32, 528)) (6, 388) cX14 cI4 cL2 41 [(0, .ref (gB G + 1))] []
    refine ex_aload_n 0 (pc' := 42) dX5_init_41 rfl rfl rfl ?_
    refine ex_iconst (v := 4) (pc' := 43) dX5_init_42 ic_4 rfl ?_
    refine ex_newI (N := 4) (pc' := 45) dX5_init_43 acI (by decide) (by decide) (Nat.le_of_ble_eq_true rfl) ⟨Nat.le_of_ble_eq_true rfl, Nat.le_of_ble_eq_true rfl⟩ rfl ?_
    show Ex G mX5_init rmcX5_init (RetQ G none cX66 cI37 cL2 (32, 528)) (7, 392) cX15 cI5 cL2 45 [(0, .ref (gB G + 1))] [.ref (gB G + 8), .ref (gB G + 1)]
    refine ex_putFR (pc' := 48) dX5_init_45 fl_X5_34 rfl coX5 rfl rfl rfl rfl ?_
    show Ex G mX5_init rmcX5_init (RetQ G none cX66 cI37 cL2 (32, 528)) (7, 392) cX16 cI5 cL2 48 [(0, .ref (gB G + 1))] []
    refine ex_aload_n 0 (pc' := 49) dX5_init_48 rfl rfl rfl ?_
    refine ex_iconst (v := 4) (pc' := 50) dX5_init_49 ic_4 rfl ?_
    refine ex_newI (N := 4) (pc' := 52) dX5_init_50 acI (by decide) (by decide) (Nat.le_of_ble_eq_true rfl) ⟨Nat.le_of_ble_eq_true rfl, Nat.le_of_ble_eq_true rfl⟩ rfl ?_
    show Ex G mX5_init rmcX5_init (RetQ G none cX66 cI37 cL2 (32, 528)) (8, 396) cX17 cI6 cL2 52 [(0, .ref (gB G + 1))] [.ref (gB G + 9), .ref (gB G + 1)]
    refine ex_putFR (pc' := 55) dX5_init_52 fl_X5_37 rfl coX5 rfl rfl rfl rfl ?_
    show Ex G mX5_init rmcX5_init (RetQ G none cX66 cI37 cL2 (32, 528)) (8, 396) cX18 cI6 cL2 55 [(0, .ref (gB G + 1))] []
    refine ex_iconst (v := 0) (pc' := 56) dX5_init_55 ic_0 rfl ?_
    refine ex_istore_n (lv' := [(1, .int 0), (0, .ref (gB G + 1))]) (pc' := 57) dX5_init_56 rfl (Nat.le_of_ble_eq_true rfl) rfl rfl ?_
    refine ex_iload_n 0 (pc' := 58) dX5_init_57 rfl rfl rfl ?_
    refine ex_bipush (v := 6) (pc' := 60) dX5_init_58 bp_6 rfl ?_
    refine ex_icmpge (tgt := 95) (pc' := 63) dX5_init_60 (by decide) rfl (fun hc => ?_) (fun hc => absurd (by decide) hc)
    refine ex_aload_n 1 (pc' := 64) dX5_init_63 rfl rfl rfl ?_
    refine ex_getR (a' := 2) (pc' := 67) dX5_init_64 fl_X5_11 rfl rfl rfl rfl ?_
    refine ex_iload_n 0 (pc' := 68) dX5_init_67 rfl rfl rfl ?_
    refine ex_new (pc' := 71) dX5_init_68 cn_X5_9 ⟨Nat.le_of_ble_eq_true rfl, Nat.le_of_ble_eq_true rfl⟩ rfl ?_
    show Ex G mX5_init rmcX5_init (RetQ G none cX66 cI37 cL2 (32, 528)) (9, 398) cX19 cI7 cL2 71 [(1, .int 0), (0, .ref (gB G + 1))] [.ref (gB G + 10), .int 0, .ref (gB G + 2)]
    refine ex_dup (pc' := 72) dX5_init_71 rfl rfl ?_
    refine ex_callIN (rm' := rmcX9_init) (st := [.ref (gB G + 10), .int 0, .ref (gB G + 2)]) (pc' := 75) [] dX5_init_72 cl_X5_40 rfl (kc4_X9_init G) rfl rfl rfl (ROOM_of rfl) (Nat.le_of_ble_eq_true rfl) rfl ?_
    show Ex G mX5_init rmcX5_init (RetQ G none cX66 cI37 cL2 (32, 528)) (10, 410) cX21 cI8 cL2 75 [(1, .int 0), (0, .ref (gB G + 1))] [.ref (gB G + 10), .int 0, .ref (gB G + 2)]
    refine ex_aast (t := 4) (n := 6) (pc' := 76) dX5_init_75 rfl (by decide) (by decide) rfl (inb_in rfl) rfl ?_
    show Ex G mX5_init rmcX5_init (RetQ G none cX66 cI37 cL2 (32, 528)) (10, 410) cX22 cI8 cL2 76 [(1, .int 0), (0, .ref (gB G + 1))] []
    refine ex_aload_n 1 (pc' := 77) dX5_init_76 rfl rfl rfl ?_
    refine ex_getR (a' := 6) (pc' := 80) dX5_init_77 fl_X5_26 rfl rfl rfl rfl ?_
    refine ex_iload_n 0 (pc' := 81) dX5_init_80 rfl rfl rfl ?_
    refine ex_new (pc' := 84) dX5_init_81 cn_X5_24 ⟨Nat.le_of_ble_eq_true rfl, Nat.le_of_ble_eq_true rfl⟩ rfl ?_
    show Ex G mX5_init rmcX5_init (RetQ G none cX66 cI37 cL2 (32, 528)) (11, 412) cX23 cI9 cL2 84 [(1, .int 0), (0, .ref (gB G + 1))] [.ref (gB G + 12), .int 0, .ref (gB G + 6)]
    refine ex_dup (pc' := 85) dX5_init_84 rfl rfl ?_
    refine ex_callIN (rm' := rmcX0_init) (st := [.ref (gB G + 12), .int 0, .ref (gB G + 6)]) (pc' := 88) [] dX5_init_85 cl_X5_41 rfl (kc5_X0_init G) rfl rfl rfl (ROOM_of rfl) (Nat.le_of_ble_eq_true rfl) rfl ?_
    show Ex G mX5_init rmcX5_init (RetQ G none cX66 cI37 cL2 (32, 528)) (12, 418) cX25 cI11 cL2 88 [(1, .int 0), (0, .ref (gB G + 1))] [.ref (gB G + 12), .int 0, .ref (gB G + 6)]
    refine ex_aast (t := 5) (n := 6) (pc' := 89) dX5_init_88 rfl (by decide) (by decide) rfl (inb_in rfl) rfl ?_
    show Ex G mX5_init rmcX5_init (RetQ G none cX66 cI37 cL2 (32, 528)) (12, 418) cX26 cI11 cL2 89 [(1, .int 0), (0, .ref (gB G + 1))] []
    refine ex_iinc (v := 1) (lv' := [(1, .int 1), (0, .ref (gB G + 1))]) 0 (pc' := 92) dX5_init_89 rfl (by decide) (Nat.le_of_ble_eq_true rfl) rfl rfl ?_
    refine ex_goto (tgt := 57) dX5_init_92 (by decide) ?_
    refine ex_iload_n 0 (pc' := 58) dX5_init_57 rfl rfl rfl ?_
    refine ex_bipush (v := 6) (pc' := 60) dX5_init_58 bp_6 rfl ?_
    refine ex_icmpge (tgt := 95) (pc' := 63) dX5_init_60 (by decide) rfl (fun hc => ?_) (fun hc => absurd (by decide) hc)
    refine ex_aload_n 1 (pc' := 64) dX5_init_63 rfl rfl rfl ?_
    refine ex_getR (a' := 2) (pc' := 67) dX5_init_64 fl_X5_11 rfl rfl rfl rfl ?_
    refine ex_iload_n 0 (pc' := 68) dX5_init_67 rfl rfl rfl ?_
    refine ex_new (pc' := 71) dX5_init_68 cn_X5_9 ⟨Nat.le_of_ble_eq_true rfl, Nat.le_of_ble_eq_true rfl⟩ rfl ?_
    show Ex G mX5_init rmcX5_init (RetQ G none cX66 cI37 cL2 (32, 528)) (13, 420) cX27 cI12 cL2 71 [(1, .int 1), (0, .ref (gB G + 1))] [.ref (gB G + 14), .int 1, .ref (gB G + 2)]
    refine ex_dup (pc' := 72) dX5_init_71 rfl rfl ?_
    refine ex_callIN (rm' := rmcX9_init) (st := [.ref (gB G + 14), .int 1, .ref (gB G + 2)]) (pc' := 75) [] dX5_init_72 cl_X5_40 rfl (kc6_X9_init G) rfl rfl rfl (ROOM_of rfl) (Nat.le_of_ble_eq_true rfl) rfl ?_
    show Ex G mX5_init rmcX5_init (RetQ G none cX66 cI37 cL2 (32, 528)) (14, 432) cX29 cI13 cL2 75 [(1, .int 1), (0, .ref (gB G + 1))] [.ref (gB G + 14), .int 1, .ref (gB G + 2)]
    refine ex_aast (t := 4) (n := 6) (pc' := 76) dX5_init_75 rfl (by decide) (by decide) rfl (inb_in rfl) rfl ?_
    show Ex G mX5_init rmcX5_init (RetQ G none cX66 cI37 cL2 (32, 528)) (14, 432) cX30 cI13 cL2 76 [(1, .int 1), (0, .ref (gB G + 1))] []
    refine ex_aload_n 1 (pc' := 77) dX5_init_76 rfl rfl rfl ?_
    refine ex_getR (a' := 6) (pc' := 80) dX5_init_77 fl_X5_26 rfl rfl rfl rfl ?_
    refine ex_iload_n 0 (pc' := 81) dX5_init_80 rfl rfl rfl ?_
    refine ex_new (pc' := 84) dX5_init_81 cn_X5_24 ⟨Nat.le_of_ble_eq_true rfl, Nat.le_of_ble_eq_true rfl⟩ rfl ?_
    show Ex G mX5_init rmcX5_init (RetQ G none cX66 cI37 cL2 (32, 528)) (15, 434) cX31 cI14 cL2 84 [(1, .int 1), (0, .ref (gB G + 1))] [.ref (gB G + 16), .int 1, .ref (gB G + 6)]
    refine ex_dup (pc' := 85) dX5_init_84 rfl rfl ?_
    refine ex_callIN (rm' := rmcX0_init) (st := [.ref (gB G + 16), .int 1, .ref (gB G + 6)]) (pc' := 88) [] dX5_init_85 cl_X5_41 rfl (kc7_X0_init G) rfl rfl rfl (ROOM_of rfl) (Nat.le_of_ble_eq_true rfl) rfl ?_
    show Ex G mX5_init rmcX5_init (RetQ G none cX66 cI37 cL2 (32, 528)) (16, 440) cX33 cI16 cL2 88 [(1, .int 1), (0, .ref (gB G + 1))] [.ref (gB G + 16), .int 1, .ref (gB G + 6)]
    refine ex_aast (t := 5) (n := 6) (pc' := 89) dX5_init_88 rfl (by decide) (by decide) rfl (inb_in rfl) rfl ?_
    show Ex G mX5_init rmcX5_init (RetQ G none cX66 cI37 cL2 (32, 528)) (16, 440) cX34 cI16 cL2 89 [(1, .int 1), (0, .ref (gB G + 1))] []
    refine ex_iinc (v := 2) (lv' := [(1, .int 2), (0, .ref (gB G + 1))]) 0 (pc' := 92) dX5_init_89 rfl (by decide) (Nat.le_of_ble_eq_true rfl) rfl rfl ?_
    refine ex_goto (tgt := 57) dX5_init_92 (by decide) ?_
    refine ex_iload_n 0 (pc' := 58) dX5_init_57 rfl rfl rfl ?_
    refine ex_bipush (v := 6) (pc' := 60) dX5_init_58 bp_6 rfl ?_
    refine ex_icmpge (tgt := 95) (pc' := 63) dX5_init_60 (by decide) rfl (fun hc => ?_) (fun hc => absurd (by decide) hc)
    refine ex_aload_n 1 (pc' := 64) dX5_init_63 rfl rfl rfl ?_
    refine ex_getR (a' := 2) (pc' := 67) dX5_init_64 fl_X5_11 rfl rfl rfl rfl ?_
    refine ex_iload_n 0 (pc' := 68) dX5_init_67 rfl rfl rfl ?_
    refine ex_new (pc' := 71) dX5_init_68 cn_X5_9 ⟨Nat.le_of_ble_eq_true rfl, Nat.le_of_ble_eq_true rfl⟩ rfl ?_
    show Ex G mX5_init rmcX5_init (RetQ G none cX66 cI37 cL2 (32, 528)) (17, 442) cX35 cI17 cL2 71 [(1, .int 2), (0, .ref (gB G + 1))] [.ref (gB G + 18), .int 2, .ref (gB G + 2)]
    refine ex_dup (pc' := 72) dX5_init_71 rfl rfl ?_
    refine ex_callIN (rm' := rmcX9_init) (st := [.ref (gB G + 18), .int 2, .ref (gB G + 2)]) (pc' := 75) [] dX5_init_72 cl_X5_40 rfl (kc8_X9_init G) rfl rfl rfl (ROOM_of rfl) (Nat.le_of_ble_eq_true rfl) rfl ?_
    show Ex G mX5_init rmcX5_init (RetQ G none cX66 cI37 cL2 (32, 528)) (18, 454) cX37 cI18 cL2 75 [(1, .int 2), (0, .ref (gB G + 1))] [.ref (gB G + 18), .int 2, .ref (gB G + 2)]
    refine ex_aast (t := 4) (n := 6) (pc' := 76) dX5_init_75 rfl (by decide) (by decide) rfl (inb_in rfl) rfl ?_
    show Ex G mX5_init rmcX5_init (RetQ G none cX66 cI37 cL2 (32, 528)) (18, 454) cX38 cI18 cL2 76 [(1, .int 2), (0, .ref (gB G + 1))] []
    refine ex_aload_n 1 (pc' := 77) dX5_init_76 rfl rfl rfl ?_
    refine ex_getR (a' := 6) (pc' := 80) dX5_init_77 fl_X5_26 rfl rfl rfl rfl ?_
    refine ex_iload_n 0 (pc' := 81) dX5_init_80 rfl rfl rfl ?_
    refine ex_new (pc' := 84) dX5_init_81 cn_X5_24 ⟨Nat.le_of_ble_eq_true rfl, Nat.le_of_ble_eq_true rfl⟩ rfl ?_
    show Ex G mX5_init rmcX5_init (RetQ G none cX66 cI37 cL2 (32, 528)) (19, 456) cX39 cI19 cL2 84 [(1, .int 2), (0, .ref (gB G + 1))] [.ref (gB G + 20), .int 2, .ref (gB G + 6)]
    refine ex_dup (pc' := 85) dX5_init_84 rfl rfl ?_
    refine ex_callIN (rm' := rmcX0_init) (st := [.ref (gB G + 20), .int 2, .ref (gB G + 6)]) (pc' := 88) [] dX5_init_85 cl_X5_41 rfl (kc9_X0_init G) rfl rfl rfl (ROOM_of rfl) (Nat.le_of_ble_eq_true rfl) rfl ?_
    show Ex G mX5_init rmcX5_init (RetQ G none cX66 cI37 cL2 (32, 528)) (20, 462) cX41 cI21 cL2 88 [(1, .int 2), (0, .ref (gB G + 1))] [.ref (gB G + 20), .int 2, .ref (gB G + 6)]
    refine ex_aast (t := 5) (n := 6) (pc' := 89) dX5_init_88 rfl (by decide) (by decide) rfl (inb_in rfl) rfl ?_
    show Ex G mX5_init rmcX5_init (RetQ G none cX66 cI37 cL2 (32, 528)) (20, 462) cX42 cI21 cL2 89 [(1, .int 2), (0, .ref (gB G + 1))] []
    refine ex_iinc (v := 3) (lv' := [(1, .int 3), (0, .ref (gB G + 1))]) 0 (pc' := 92) dX5_init_89 rfl (by decide) (Nat.le_of_ble_eq_true rfl) rfl rfl ?_
    refine ex_goto (tgt := 57) dX5_init_92 (by decide) ?_
    refine ex_iload_n 0 (pc' := 58) dX5_init_57 rfl rfl rfl ?_
    refine ex_bipush (v := 6) (pc' := 60) dX5_init_58 bp_6 rfl ?_
    refine ex_icmpge (tgt := 95) (pc' := 63) dX5_init_60 (by decide) rfl (fun hc => ?_) (fun hc => absurd (by decide) hc)
    refine ex_aload_n 1 (pc' := 64) dX5_init_63 rfl rfl rfl ?_
    refine ex_getR (a' := 2) (pc' := 67) dX5_init_64 fl_X5_11 rfl rfl rfl rfl ?_
    refine ex_iload_n 0 (pc' := 68) dX5_init_67 rfl rfl rfl ?_
    refine ex_new (pc' := 71) dX5_init_68 cn_X5_9 ⟨Nat.le_of_ble_eq_true rfl, Nat.le_of_ble_eq_true rfl⟩ rfl ?_
    show Ex G mX5_init rmcX5_init (RetQ G none cX66 cI37 cL2 (32, 528)) (21, 464) cX43 cI22 cL2 71 [(1, .int 3), (0, .ref (gB G + 1))] [.ref (gB G + 22), .int 3, .ref (gB G + 2)]
    refine ex_dup (pc' := 72) dX5_init_71 rfl rfl ?_
    refine ex_callIN (rm' := rmcX9_init) (st := [.ref (gB G + 22), .int 3, .ref (gB G + 2)]) (pc' := 75) [] dX5_init_72 cl_X5_40 rfl (kc10_X9_init G) rfl rfl rfl (ROOM_of rfl) (Nat.le_of_ble_eq_true rfl) rfl ?_
    show Ex G mX5_init rmcX5_init (RetQ G none cX66 cI37 cL2 (32, 528)) (22, 476) cX45 cI23 cL2 75 [(1, .int 3), (0, .ref (gB G + 1))] [.ref (gB G + 22), .int 3, .ref (gB G + 2)]
    refine ex_aast (t := 4) (n := 6) (pc' := 76) dX5_init_75 rfl (by decide) (by decide) rfl (inb_in rfl) rfl ?_
    show Ex G mX5_init rmcX5_init (RetQ G none cX66 cI37 cL2 (32, 528)) (22, 476) cX46 cI23 cL2 76 [(1, .int 3), (0, .ref (gB G + 1))] []
    refine ex_aload_n 1 (pc' := 77) dX5_init_76 rfl rfl rfl ?_
    refine ex_getR (a' := 6) (pc' := 80) dX5_init_77 fl_X5_26 rfl rfl rfl rfl ?_
    refine ex_iload_n 0 (pc' := 81) dX5_init_80 rfl rfl rfl ?_
    refine ex_new (pc' := 84) dX5_init_81 cn_X5_24 ⟨Nat.le_of_ble_eq_true rfl, Nat.le_of_ble_eq_true rfl⟩ rfl ?_
    show Ex G mX5_init rmcX5_init (RetQ G none cX66 cI37 cL2 (32, 528)) (23, 478) cX47 cI24 cL2 84 [(1, .int 3), (0, .ref (gB G + 1))] [.ref (gB G + 24), .int 3, .ref (gB G + 6)]
    refine ex_dup (pc' := 85) dX5_init_84 rfl rfl ?_
    refine ex_callIN (rm' := rmcX0_init) (st := [.ref (gB G + 24), .int 3, .ref (gB G + 6)]) (pc' := 88) [] dX5_init_85 cl_X5_41 rfl (kc11_X0_init G) rfl rfl rfl (ROOM_of rfl) (Nat.le_of_ble_eq_true rfl) rfl ?_
    show Ex G mX5_init rmcX5_init (RetQ G none cX66 cI37 cL2 (32, 528)) (24, 484) cX49 cI26 cL2 88 [(1, .int 3), (0, .ref (gB G + 1))] [.ref (gB G + 24), .int 3, .ref (gB G + 6)]
    refine ex_aast (t := 5) (n := 6) (pc' := 89) dX5_init_88 rfl (by decide) (by decide) rfl (inb_in rfl) rfl ?_
    show Ex G mX5_init rmcX5_init (RetQ G none cX66 cI37 cL2 (32, 528)) (24, 484) cX50 cI26 cL2 89 [(1, .int 3), (0, .ref (gB G + 1))] []
    refine ex_iinc (v := 4) (lv' := [(1, .int 4), (0, .ref (gB G + 1))]) 0 (pc' := 92) dX5_init_89 rfl (by decide) (Nat.le_of_ble_eq_true rfl) rfl rfl ?_
    refine ex_goto (tgt := 57) dX5_init_92 (by decide) ?_
    refine ex_iload_n 0 (pc' := 58) dX5_init_57 rfl rfl rfl ?_
    refine ex_bipush (v := 6) (pc' := 60) dX5_init_58 bp_6 rfl ?_
    refine ex_icmpge (tgt := 95) (pc' := 63) dX5_init_60 (by decide) rfl (fun hc => ?_) (fun hc => absurd (by decide) hc)
    refine ex_aload_n 1 (pc' := 64) dX5_init_63 rfl rfl rfl ?_
    refine ex_getR (a' := 2) (pc' := 67) dX5_init_64 fl_X5_11 rfl rfl rfl rfl ?_
    refine ex_iload_n 0 (pc' := 68) dX5_init_67 rfl rfl rfl ?_
    refine ex_new (pc' := 71) dX5_init_68 cn_X5_9 ⟨Nat.le_of_ble_eq_true rfl, Nat.le_of_ble_eq_true rfl⟩ rfl ?_
    show Ex G mX5_init rmcX5_init (RetQ G none cX66 cI37 cL2 (32, 528)) (25, 486) cX51 cI27 cL2 71 [(1, .int 4), (0, .ref (gB G + 1))] [.ref (gB G + 26), .int 4, .ref (gB G + 2)]
    refine ex_dup (pc' := 72) dX5_init_71 rfl rfl ?_
    refine ex_callIN (rm' := rmcX9_init) (st := [.ref (gB G + 26), .int 4, .ref (gB G + 2)]) (pc' := 75) [] dX5_init_72 cl_X5_40 rfl (kc12_X9_init G) rfl rfl rfl (ROOM_of rfl) (Nat.le_of_ble_eq_true rfl) rfl ?_
    show Ex G mX5_init rmcX5_init (RetQ G none cX66 cI37 cL2 (32, 528)) (26, 498) cX53 cI28 cL2 75 [(1, .int 4), (0, .ref (gB G + 1))] [.ref (gB G + 26), .int 4, .ref (gB G + 2)]
    refine ex_aast (t := 4) (n := 6) (pc' := 76) dX5_init_75 rfl (by decide) (by decide) rfl (inb_in rfl) rfl ?_
    show Ex G mX5_init rmcX5_init (RetQ G none cX66 cI37 cL2 (32, 528)) (26, 498) cX54 cI28 cL2 76 [(1, .int 4), (0, .ref (gB G + 1))] []
    refine ex_aload_n 1 (pc' := 77) dX5_init_76 rfl rfl rfl ?_
    refine ex_getR (a' := 6) (pc' := 80) dX5_init_77 fl_X5_26 rfl rfl rfl rfl ?_
    refine ex_iload_n 0 (pc' := 81) dX5_init_80 rfl rfl rfl ?_
    refine ex_new (pc' := 84) dX5_init_81 cn_X5_24 ⟨Nat.le_of_ble_eq_true rfl, Nat.le_of_ble_eq_true rfl⟩ rfl ?_
    show Ex G mX5_init rmcX5_init (RetQ G none cX66 cI37 cL2 (32, 528)) (27, 500) cX55 cI29 cL2 84 [(1, .int 4), (0, .ref (gB G + 1))] [.ref (gB G + 28), .int 4, .ref (gB G + 6)]
    refine ex_dup (pc' := 85) dX5_init_84 rfl rfl ?_
    refine ex_callIN (rm' := rmcX0_init) (st := [.ref (gB G + 28), .int 4, .ref (gB G + 6)]) (pc' := 88) [] dX5_init_85 cl_X5_41 rfl (kc13_X0_init G) rfl rfl rfl (ROOM_of rfl) (Nat.le_of_ble_eq_true rfl) rfl ?_
    show Ex G mX5_init rmcX5_init (RetQ G none cX66 cI37 cL2 (32, 528)) (28, 506) cX57 cI31 cL2 88 [(1, .int 4), (0, .ref (gB G + 1))] [.ref (gB G + 28), .int 4, .ref (gB G + 6)]
    refine ex_aast (t := 5) (n := 6) (pc' := 89) dX5_init_88 rfl (by decide) (by decide) rfl (inb_in rfl) rfl ?_
    show Ex G mX5_init rmcX5_init (RetQ G none cX66 cI37 cL2 (32, 528)) (28, 506) cX58 cI31 cL2 89 [(1, .int 4), (0, .ref (gB G + 1))] []
    refine ex_iinc (v := 5) (lv' := [(1, .int 5), (0, .ref (gB G + 1))]) 0 (pc' := 92) dX5_init_89 rfl (by decide) (Nat.le_of_ble_eq_true rfl) rfl rfl ?_
    refine ex_goto (tgt := 57) dX5_init_92 (by decide) ?_
    refine ex_iload_n 0 (pc' := 58) dX5_init_57 rfl rfl rfl ?_
    refine ex_bipush (v := 6) (pc' := 60) dX5_init_58 bp_6 rfl ?_
    refine ex_icmpge (tgt := 95) (pc' := 63) dX5_init_60 (by decide) rfl (fun hc => ?_) (fun hc => absurd (by decide) hc)
    refine ex_aload_n 1 (pc' := 64) dX5_init_63 rfl rfl rfl ?_
    refine ex_getR (a' := 2) (pc' := 67) dX5_init_64 fl_X5_11 rfl rfl rfl rfl ?_
    refine ex_iload_n 0 (pc' := 68) dX5_init_67 rfl rfl rfl ?_
    refine ex_new (pc' := 71) dX5_init_68 cn_X5_9 ⟨Nat.le_of_ble_eq_true rfl, Nat.le_of_ble_eq_true rfl⟩ rfl ?_
    show Ex G mX5_init rmcX5_init (RetQ G none cX66 cI37 cL2 (32, 528)) (29, 508) cX59 cI32 cL2 71 [(1, .int 5), (0, .ref (gB G + 1))] [.ref (gB G + 30), .int 5, .ref (gB G + 2)]
    refine ex_dup (pc' := 72) dX5_init_71 rfl rfl ?_
    refine ex_callIN (rm' := rmcX9_init) (st := [.ref (gB G + 30), .int 5, .ref (gB G + 2)]) (pc' := 75) [] dX5_init_72 cl_X5_40 rfl (kc14_X9_init G) rfl rfl rfl (ROOM_of rfl) (Nat.le_of_ble_eq_true rfl) rfl ?_
    show Ex G mX5_init rmcX5_init (RetQ G none cX66 cI37 cL2 (32, 528)) (30, 520) cX61 cI33 cL2 75 [(1, .int 5), (0, .ref (gB G + 1))] [.ref (gB G + 30), .int 5, .ref (gB G + 2)]
    refine ex_aast (t := 4) (n := 6) (pc' := 76) dX5_init_75 rfl (by decide) (by decide) rfl (inb_in rfl) rfl ?_
    show Ex G mX5_init rmcX5_init (RetQ G none cX66 cI37 cL2 (32, 528)) (30, 520) cX62 cI33 cL2 76 [(1, .int 5), (0, .ref (gB G + 1))] []
    refine ex_aload_n 1 (pc' := 77) dX5_init_76 rfl rfl rfl ?_
    refine ex_getR (a' := 6) (pc' := 80) dX5_init_77 fl_X5_26 rfl rfl rfl rfl ?_
    refine ex_iload_n 0 (pc' := 81) dX5_init_80 rfl rfl rfl ?_
    refine ex_new (pc' := 84) dX5_init_81 cn_X5_24 ⟨Nat.le_of_ble_eq_true rfl, Nat.le_of_ble_eq_true rfl⟩ rfl ?_
    show Ex G mX5_init rmcX5_init (RetQ G none cX66 cI37 cL2 (32, 528)) (31, 522) cX63 cI34 cL2 84 [(1, .int 5), (0, .ref (gB G + 1))] [.ref (gB G + 32), .int 5, .ref (gB G + 6)]
    refine ex_dup (pc' := 85) dX5_init_84 rfl rfl ?_
    refine ex_callIN (rm' := rmcX0_init) (st := [.ref (gB G + 32), .int 5, .ref (gB G + 6)]) (pc' := 88) [] dX5_init_85 cl_X5_41 rfl (kc15_X0_init G) rfl rfl rfl (ROOM_of rfl) (Nat.le_of_ble_eq_true rfl) rfl ?_
    show Ex G mX5_init rmcX5_init (RetQ G none cX66 cI37 cL2 (32, 528)) (32, 528) cX65 cI36 cL2 88 [(1, .int 5), (0, .ref (gB G + 1))] [.ref (gB G + 32), .int 5, .ref (gB G + 6)]
    refine ex_aast (t := 5) (n := 6) (pc' := 89) dX5_init_88 rfl (by decide) (by decide) rfl (inb_in rfl) rfl ?_
    show Ex G mX5_init rmcX5_init (RetQ G none cX66 cI37 cL2 (32, 528)) (32, 528) cX66 cI36 cL2 89 [(1, .int 5), (0, .ref (gB G + 1))] []
    refine ex_iinc (v := 6) (lv' := [(1, .int 6), (0, .ref (gB G + 1))]) 0 (pc' := 92) dX5_init_89 rfl (by decide) (Nat.le_of_ble_eq_true rfl) rfl rfl ?_
    refine ex_goto (tgt := 57) dX5_init_92 (by decide) ?_
    refine ex_iload_n 0 (pc' := 58) dX5_init_57 rfl rfl rfl ?_
    refine ex_bipush (v := 6) (pc' := 60) dX5_init_58 bp_6 rfl ?_
    refine ex_icmpge (tgt := 95) (pc' := 63) dX5_init_60 (by decide) rfl (fun hc => absurd hc (by decide)) (fun hc => ?_)
    refine ex_aload_n 1 (pc' := 96) dX5_init_95 rfl rfl rfl ?_
    refine ex_getR (a' := 7) (pc' := 99) dX5_init_96 fl_X5_30 rfl rfl rfl rfl ?_
    refine ex_iconst (v := 1) (pc' := 100) dX5_init_99 ic_1 rfl ?_
    refine ex_callS_v (rm' := rmJ7_fill_53178) (st := []) (pc' := 103) [.ref (gB G + 7), .int 1] dX5_init_100 cl_X5_42 (k_J7_fill_53178 G (n0 := 36) rfl (fill_I (N := 37) (by decide) (by decide))) rfl rfl rfl (ROOM_of rfl) (Nat.le_of_ble_eq_true rfl) rfl rfl ?_
    show Ex G mX5_init rmcX5_init (RetQ G none cX66 cI37 cL2 (32, 528)) (32, 528) cX66 cI37 cL2 103 [(1, .int 6), (0, .ref (gB G + 1))] []
    exact ex_vret dX5_init_103 rfl rfl)
def cX67 : MX := (cX66.1, upF cX66.2.1 0 0 (some 1), cX66.2.2)
def cX68 : MX := (nwK cX67.1 34 (1, 5), nwF cX67.2.1 34, 35)
def cI38 : MI := nwI cI37 34
def cX69 : MX := (nwK cX68.1 35 (4, 6), nwF cX68.2.1 35, 36)
def cX70 : MX := (cX69.1, upF cX69.2.1 34 0 (some 35), cX69.2.2)
def cX71 : MX := (nwK cX70.1 36 (1, 6), nwF cX70.2.1 36, 37)
def cI39 : MI := nwI cI38 36
def cX72 : MX := (nwK cX71.1 37 (3, 169), cX71.2.1, 38)
def cL3 : ML := nwL cL2 37
def cX73 : MX := (cX72.1, upF cX72.2.1 36 0 (some 37), cX72.2.2)
def cX74 : MX := (nwK cX73.1 38 (3, 169), cX73.2.1, 39)
def cL4 : ML := nwL cL3 38
def cX75 : MX := (cX74.1, upF cX74.2.1 36 1 (some 38), cX74.2.2)
set_option maxRecDepth 100000 in
set_option maxHeartbeats 4000000 in
theorem kc17_X6_init (G : GX) : Con G mX6_init yX6_init rmcX6_init (fun B => [.ref (B + 36)]) cX71 cI39 cL2 none cX75 cI39 cL4 :=
  Con.of (by decide) rfl (fun _ => rfl) (fun B => Nat.le_of_ble_eq_true rfl) (fun G => by
    refine ex_aload_n 0 (pc' := 1) dX6_init_0 rfl rfl rfl ?_
    refine ex_objInit (pc' := 4) dX6_init_1 oi_X6 ⟨Nat.le_of_ble_eq_true rfl, Nat.le_of_ble_eq_true rfl⟩ rfl ?_
    refine ex_aload_n 0 (pc' := 5) dX6_init_4 rfl rfl rfl ?_
    refine ex_sipush (v := 169) (pc' := 8) dX6_init_5 sp_169 rfl ?_
    refine ex_newL (N := 169) (pc' := 10) dX6_init_8 acL (by decide) (by decide) (Nat.le_of_ble_eq_true rfl) ⟨Nat.le_of_ble_eq_true rfl, Nat.le_of_ble_eq_true rfl⟩ rfl ?_
    show Ex G mX6_init rmcX6_init (RetQ G none cX75 cI39 cL4 (2, 338)) (1, 169) cX72 cI39 cL3 10 [(0, .ref (gB G + 36))] [.ref (gB G + 37), .ref (gB G + 36)]
    refine ex_putFR (pc' := 13) dX6_init_10 fl_X6_11 rfl coX6 rfl rfl rfl rfl ?_
    show Ex G mX6_init rmcX6_init (RetQ G none cX75 cI39 cL4 (2, 338)) (1, 169) cX73 cI39 cL3 13 [(0, .ref (gB G + 36))] []
    refine ex_aload_n 0 (pc' := 14) dX6_init_13 rfl rfl rfl ?_
    refine ex_sipush (v := 169) (pc' := 17) dX6_init_14 sp_169 rfl ?_
    refine ex_newL (N := 169) (pc' := 19) dX6_init_17 acL (by decide) (by decide) (Nat.le_of_ble_eq_true rfl) ⟨Nat.le_of_ble_eq_true rfl, Nat.le_of_ble_eq_true rfl⟩ rfl ?_
    show Ex G mX6_init rmcX6_init (RetQ G none cX75 cI39 cL4 (2, 338)) (2, 338) cX74 cI39 cL4 19 [(0, .ref (gB G + 36))] [.ref (gB G + 38), .ref (gB G + 36)]
    refine ex_putFR (pc' := 22) dX6_init_19 fl_X6_15 rfl coX6 rfl rfl rfl rfl ?_
    show Ex G mX6_init rmcX6_init (RetQ G none cX75 cI39 cL4 (2, 338)) (2, 338) cX75 cI39 cL4 22 [(0, .ref (gB G + 36))] []
    exact ex_vret dX6_init_22 rfl rfl)
def cX76 : MX := (cX75.1, upF cX75.2.1 34 1 (some 36), cX75.2.2)
def cX77 : MX := (nwK cX76.1 39 (5, 6), nwF cX76.2.1 39, 40)
def cX78 : MX := (cX77.1, upF cX77.2.1 34 2 (some 39), cX77.2.2)
def cX79 : MX := (nwK cX78.1 40 (2, 36), cX78.2.1, 41)
def cI40 : MI := nwI cI39 40
def cX80 : MX := (cX79.1, upF cX79.2.1 34 3 (some 40), cX79.2.2)
def cX81 : MX := (nwK cX80.1 41 (2, 4), cX80.2.1, 42)
def cI41 : MI := nwI cI40 41
def cX82 : MX := (cX81.1, upF cX81.2.1 34 4 (some 41), cX81.2.2)
def cX83 : MX := (nwK cX82.1 42 (2, 4), cX82.2.1, 43)
def cI42 : MI := nwI cI41 42
def cX84 : MX := (cX83.1, upF cX83.2.1 34 5 (some 42), cX83.2.2)
def cX85 : MX := (nwK cX84.1 43 (1, 9), nwF cX84.2.1 43, 44)
def cI43 : MI := nwI cI42 43
def cX86 : MX := (nwK cX85.1 44 (2, 12), cX85.2.1, 45)
def cI44 : MI := nwI cI43 44
def cX87 : MX := (cX86.1, upF cX86.2.1 43 0 (some 44), cX86.2.2)
set_option maxRecDepth 100000 in
set_option maxHeartbeats 4000000 in
theorem kc18_X9_init (G : GX) : Con G mX9_init yX9_init rmcX9_init (fun B => [.ref (B + 43)]) cX85 cI43 cL4 none cX87 cI44 cL4 :=
  Con.of (by decide) rfl (fun _ => rfl) (fun B => Nat.le_of_ble_eq_true rfl) (fun G => by
    refine ex_aload_n 0 (pc' := 1) dX9_init_0 rfl rfl rfl ?_
    refine ex_objInit (pc' := 4) dX9_init_1 oi_X9 ⟨Nat.le_of_ble_eq_true rfl, Nat.le_of_ble_eq_true rfl⟩ rfl ?_
    refine ex_aload_n 0 (pc' := 5) dX9_init_4 rfl rfl rfl ?_
    refine ex_bipush (v := 12) (pc' := 7) dX9_init_5 bp_12 rfl ?_
    refine ex_newI (N := 12) (pc' := 9) dX9_init_7 acI (by decide) (by decide) (Nat.le_of_ble_eq_true rfl) ⟨Nat.le_of_ble_eq_true rfl, Nat.le_of_ble_eq_true rfl⟩ rfl ?_
    show Ex G mX9_init rmcX9_init (RetQ G none cX87 cI44 cL4 (1, 12)) (1, 12) cX86 cI44 cL4 9 [(0, .ref (gB G + 43))] [.ref (gB G + 44), .ref (gB G + 43)]
    refine ex_putFR (pc' := 12) dX9_init_9 fl_X9_9 rfl coX9 rfl rfl rfl rfl ?_
    show Ex G mX9_init rmcX9_init (RetQ G none cX87 cI44 cL4 (1, 12)) (1, 12) cX87 cI44 cL4 12 [(0, .ref (gB G + 43))] []
    exact ex_vret dX9_init_12 rfl rfl)
def cX88 : MX := (cX87.1, upF cX87.2.1 35 0 (some 43), cX87.2.2)
def cX89 : MX := (nwK cX88.1 45 (1, 0), nwF cX88.2.1 45, 46)
def cI45 : MI := nwI cI44 45
def cI46 : MI := upI cI45 45 0 3
def cX90 : MX := (nwK cX89.1 46 (2, 6), cX89.2.1, 47)
def cI47 : MI := nwI cI46 46
def cX91 : MX := (cX90.1, upF cX90.2.1 45 1 (some 46), cX90.2.2)
set_option maxRecDepth 100000 in
set_option maxHeartbeats 4000000 in
theorem kc19_X0_init (G : GX) : Con G mX0_init yX0_init rmcX0_init (fun B => [.ref (B + 45)]) cX89 cI45 cL4 none cX91 cI47 cL4 :=
  Con.of (by decide) rfl (fun _ => rfl) (fun B => Nat.le_of_ble_eq_true rfl) (fun G => by
    refine ex_aload_n 0 (pc' := 1) dX0_init_0 rfl rfl rfl ?_
    refine ex_objInit (pc' := 4) dX0_init_1 oi_X0 ⟨Nat.le_of_ble_eq_true rfl, Nat.le_of_ble_eq_true rfl⟩ rfl ?_
    refine ex_aload_n 0 (pc' := 5) dX0_init_4 rfl rfl rfl ?_
    refine ex_iconst (v := 3) (pc' := 6) dX0_init_5 ic_3 rfl ?_
    refine ex_putI (pc' := 9) dX0_init_6 fl_X0_11 rfl rfl rfl ?_
    show Ex G mX0_init rmcX0_init (RetQ G none cX91 cI47 cL4 (1, 6)) (0, 0) cX89 cI46 cL4 9 [(0, .ref (gB G + 45))] []
    refine ex_aload_n 0 (pc' := 10) dX0_init_9 rfl rfl rfl ?_
    refine ex_bipush (v := 6) (pc' := 12) dX0_init_10 bp_6 rfl ?_
    refine ex_newI (N := 6) (pc' := 14) dX0_init_12 acI (by decide) (by decide) (Nat.le_of_ble_eq_true rfl) ⟨Nat.le_of_ble_eq_true rfl, Nat.le_of_ble_eq_true rfl⟩ rfl ?_
    show Ex G mX0_init rmcX0_init (RetQ G none cX91 cI47 cL4 (1, 6)) (1, 6) cX90 cI47 cL4 14 [(0, .ref (gB G + 45))] [.ref (gB G + 46), .ref (gB G + 45)]
    refine ex_putFR (pc' := 17) dX0_init_14 fl_X0_15 rfl coX0 rfl rfl rfl rfl ?_
    show Ex G mX0_init rmcX0_init (RetQ G none cX91 cI47 cL4 (1, 6)) (1, 6) cX91 cI47 cL4 17 [(0, .ref (gB G + 45))] []
    exact ex_vret dX0_init_17 rfl rfl)
def cX92 : MX := (cX91.1, upF cX91.2.1 39 0 (some 45), cX91.2.2)
def cX93 : MX := (nwK cX92.1 47 (1, 9), nwF cX92.2.1 47, 48)
def cI48 : MI := nwI cI47 47
def cX94 : MX := (nwK cX93.1 48 (2, 12), cX93.2.1, 49)
def cI49 : MI := nwI cI48 48
def cX95 : MX := (cX94.1, upF cX94.2.1 47 0 (some 48), cX94.2.2)
set_option maxRecDepth 100000 in
set_option maxHeartbeats 4000000 in
theorem kc20_X9_init (G : GX) : Con G mX9_init yX9_init rmcX9_init (fun B => [.ref (B + 47)]) cX93 cI48 cL4 none cX95 cI49 cL4 :=
  Con.of (by decide) rfl (fun _ => rfl) (fun B => Nat.le_of_ble_eq_true rfl) (fun G => by
    refine ex_aload_n 0 (pc' := 1) dX9_init_0 rfl rfl rfl ?_
    refine ex_objInit (pc' := 4) dX9_init_1 oi_X9 ⟨Nat.le_of_ble_eq_true rfl, Nat.le_of_ble_eq_true rfl⟩ rfl ?_
    refine ex_aload_n 0 (pc' := 5) dX9_init_4 rfl rfl rfl ?_
    refine ex_bipush (v := 12) (pc' := 7) dX9_init_5 bp_12 rfl ?_
    refine ex_newI (N := 12) (pc' := 9) dX9_init_7 acI (by decide) (by decide) (Nat.le_of_ble_eq_true rfl) ⟨Nat.le_of_ble_eq_true rfl, Nat.le_of_ble_eq_true rfl⟩ rfl ?_
    show Ex G mX9_init rmcX9_init (RetQ G none cX95 cI49 cL4 (1, 12)) (1, 12) cX94 cI49 cL4 9 [(0, .ref (gB G + 47))] [.ref (gB G + 48), .ref (gB G + 47)]
    refine ex_putFR (pc' := 12) dX9_init_9 fl_X9_9 rfl coX9 rfl rfl rfl rfl ?_
    show Ex G mX9_init rmcX9_init (RetQ G none cX95 cI49 cL4 (1, 12)) (1, 12) cX95 cI49 cL4 12 [(0, .ref (gB G + 47))] []
    exact ex_vret dX9_init_12 rfl rfl)
def cX96 : MX := (cX95.1, upF cX95.2.1 35 1 (some 47), cX95.2.2)
def cX97 : MX := (nwK cX96.1 49 (1, 0), nwF cX96.2.1 49, 50)
def cI50 : MI := nwI cI49 49
def cI51 : MI := upI cI50 49 0 3
def cX98 : MX := (nwK cX97.1 50 (2, 6), cX97.2.1, 51)
def cI52 : MI := nwI cI51 50
def cX99 : MX := (cX98.1, upF cX98.2.1 49 1 (some 50), cX98.2.2)
set_option maxRecDepth 100000 in
set_option maxHeartbeats 4000000 in
theorem kc21_X0_init (G : GX) : Con G mX0_init yX0_init rmcX0_init (fun B => [.ref (B + 49)]) cX97 cI50 cL4 none cX99 cI52 cL4 :=
  Con.of (by decide) rfl (fun _ => rfl) (fun B => Nat.le_of_ble_eq_true rfl) (fun G => by
    refine ex_aload_n 0 (pc' := 1) dX0_init_0 rfl rfl rfl ?_
    refine ex_objInit (pc' := 4) dX0_init_1 oi_X0 ⟨Nat.le_of_ble_eq_true rfl, Nat.le_of_ble_eq_true rfl⟩ rfl ?_
    refine ex_aload_n 0 (pc' := 5) dX0_init_4 rfl rfl rfl ?_
    refine ex_iconst (v := 3) (pc' := 6) dX0_init_5 ic_3 rfl ?_
    refine ex_putI (pc' := 9) dX0_init_6 fl_X0_11 rfl rfl rfl ?_
    show Ex G mX0_init rmcX0_init (RetQ G none cX99 cI52 cL4 (1, 6)) (0, 0) cX97 cI51 cL4 9 [(0, .ref (gB G + 49))] []
    refine ex_aload_n 0 (pc' := 10) dX0_init_9 rfl rfl rfl ?_
    refine ex_bipush (v := 6) (pc' := 12) dX0_init_10 bp_6 rfl ?_
    refine ex_newI (N := 6) (pc' := 14) dX0_init_12 acI (by decide) (by decide) (Nat.le_of_ble_eq_true rfl) ⟨Nat.le_of_ble_eq_true rfl, Nat.le_of_ble_eq_true rfl⟩ rfl ?_
    show Ex G mX0_init rmcX0_init (RetQ G none cX99 cI52 cL4 (1, 6)) (1, 6) cX98 cI52 cL4 14 [(0, .ref (gB G + 49))] [.ref (gB G + 50), .ref (gB G + 49)]
    refine ex_putFR (pc' := 17) dX0_init_14 fl_X0_15 rfl coX0 rfl rfl rfl rfl ?_
    show Ex G mX0_init rmcX0_init (RetQ G none cX99 cI52 cL4 (1, 6)) (1, 6) cX99 cI52 cL4 17 [(0, .ref (gB G + 49))] []
    exact ex_vret dX0_init_17 rfl rfl)
def cX100 : MX := (cX99.1, upF cX99.2.1 39 1 (some 49), cX99.2.2)
def cX101 : MX := (nwK cX100.1 51 (1, 9), nwF cX100.2.1 51, 52)
def cI53 : MI := nwI cI52 51
def cX102 : MX := (nwK cX101.1 52 (2, 12), cX101.2.1, 53)
def cI54 : MI := nwI cI53 52
def cX103 : MX := (cX102.1, upF cX102.2.1 51 0 (some 52), cX102.2.2)
set_option maxRecDepth 100000 in
set_option maxHeartbeats 4000000 in
theorem kc22_X9_init (G : GX) : Con G mX9_init yX9_init rmcX9_init (fun B => [.ref (B + 51)]) cX101 cI53 cL4 none cX103 cI54 cL4 :=
  Con.of (by decide) rfl (fun _ => rfl) (fun B => Nat.le_of_ble_eq_true rfl) (fun G => by
    refine ex_aload_n 0 (pc' := 1) dX9_init_0 rfl rfl rfl ?_
    refine ex_objInit (pc' := 4) dX9_init_1 oi_X9 ⟨Nat.le_of_ble_eq_true rfl, Nat.le_of_ble_eq_true rfl⟩ rfl ?_
    refine ex_aload_n 0 (pc' := 5) dX9_init_4 rfl rfl rfl ?_
    refine ex_bipush (v := 12) (pc' := 7) dX9_init_5 bp_12 rfl ?_
    refine ex_newI (N := 12) (pc' := 9) dX9_init_7 acI (by decide) (by decide) (Nat.le_of_ble_eq_true rfl) ⟨Nat.le_of_ble_eq_true rfl, Nat.le_of_ble_eq_true rfl⟩ rfl ?_
    show Ex G mX9_init rmcX9_init (RetQ G none cX103 cI54 cL4 (1, 12)) (1, 12) cX102 cI54 cL4 9 [(0, .ref (gB G + 51))] [.ref (gB G + 52), .ref (gB G + 51)]
    refine ex_putFR (pc' := 12) dX9_init_9 fl_X9_9 rfl coX9 rfl rfl rfl rfl ?_
    show Ex G mX9_init rmcX9_init (RetQ G none cX103 cI54 cL4 (1, 12)) (1, 12) cX103 cI54 cL4 12 [(0, .ref (gB G + 51))] []
    exact ex_vret dX9_init_12 rfl rfl)
def cX104 : MX := (cX103.1, upF cX103.2.1 35 2 (some 51), cX103.2.2)
def cX105 : MX := (nwK cX104.1 53 (1, 0), nwF cX104.2.1 53, 54)
def cI55 : MI := nwI cI54 53
def cI56 : MI := upI cI55 53 0 3
def cX106 : MX := (nwK cX105.1 54 (2, 6), cX105.2.1, 55)
def cI57 : MI := nwI cI56 54
def cX107 : MX := (cX106.1, upF cX106.2.1 53 1 (some 54), cX106.2.2)
set_option maxRecDepth 100000 in
set_option maxHeartbeats 4000000 in
theorem kc23_X0_init (G : GX) : Con G mX0_init yX0_init rmcX0_init (fun B => [.ref (B + 53)]) cX105 cI55 cL4 none cX107 cI57 cL4 :=
  Con.of (by decide) rfl (fun _ => rfl) (fun B => Nat.le_of_ble_eq_true rfl) (fun G => by
    refine ex_aload_n 0 (pc' := 1) dX0_init_0 rfl rfl rfl ?_
    refine ex_objInit (pc' := 4) dX0_init_1 oi_X0 ⟨Nat.le_of_ble_eq_true rfl, Nat.le_of_ble_eq_true rfl⟩ rfl ?_
    refine ex_aload_n 0 (pc' := 5) dX0_init_4 rfl rfl rfl ?_
    refine ex_iconst (v := 3) (pc' := 6) dX0_init_5 ic_3 rfl ?_
    refine ex_putI (pc' := 9) dX0_init_6 fl_X0_11 rfl rfl rfl ?_
    show Ex G mX0_init rmcX0_init (RetQ G none cX107 cI57 cL4 (1, 6)) (0, 0) cX105 cI56 cL4 9 [(0, .ref (gB G + 53))] []
    refine ex_aload_n 0 (pc' := 10) dX0_init_9 rfl rfl rfl ?_
    refine ex_bipush (v := 6) (pc' := 12) dX0_init_10 bp_6 rfl ?_
    refine ex_newI (N := 6) (pc' := 14) dX0_init_12 acI (by decide) (by decide) (Nat.le_of_ble_eq_true rfl) ⟨Nat.le_of_ble_eq_true rfl, Nat.le_of_ble_eq_true rfl⟩ rfl ?_
    show Ex G mX0_init rmcX0_init (RetQ G none cX107 cI57 cL4 (1, 6)) (1, 6) cX106 cI57 cL4 14 [(0, .ref (gB G + 53))] [.ref (gB G + 54), .ref (gB G + 53)]
    refine ex_putFR (pc' := 17) dX0_init_14 fl_X0_15 rfl coX0 rfl rfl rfl rfl ?_
    show Ex G mX0_init rmcX0_init (RetQ G none cX107 cI57 cL4 (1, 6)) (1, 6) cX107 cI57 cL4 17 [(0, .ref (gB G + 53))] []
    exact ex_vret dX0_init_17 rfl rfl)
def cX108 : MX := (cX107.1, upF cX107.2.1 39 2 (some 53), cX107.2.2)
def cX109 : MX := (nwK cX108.1 55 (1, 9), nwF cX108.2.1 55, 56)
def cI58 : MI := nwI cI57 55
def cX110 : MX := (nwK cX109.1 56 (2, 12), cX109.2.1, 57)
def cI59 : MI := nwI cI58 56
def cX111 : MX := (cX110.1, upF cX110.2.1 55 0 (some 56), cX110.2.2)
set_option maxRecDepth 100000 in
set_option maxHeartbeats 4000000 in
theorem kc24_X9_init (G : GX) : Con G mX9_init yX9_init rmcX9_init (fun B => [.ref (B + 55)]) cX109 cI58 cL4 none cX111 cI59 cL4 :=
  Con.of (by decide) rfl (fun _ => rfl) (fun B => Nat.le_of_ble_eq_true rfl) (fun G => by
    refine ex_aload_n 0 (pc' := 1) dX9_init_0 rfl rfl rfl ?_
    refine ex_objInit (pc' := 4) dX9_init_1 oi_X9 ⟨Nat.le_of_ble_eq_true rfl, Nat.le_of_ble_eq_true rfl⟩ rfl ?_
    refine ex_aload_n 0 (pc' := 5) dX9_init_4 rfl rfl rfl ?_
    refine ex_bipush (v := 12) (pc' := 7) dX9_init_5 bp_12 rfl ?_
    refine ex_newI (N := 12) (pc' := 9) dX9_init_7 acI (by decide) (by decide) (Nat.le_of_ble_eq_true rfl) ⟨Nat.le_of_ble_eq_true rfl, Nat.le_of_ble_eq_true rfl⟩ rfl ?_
    show Ex G mX9_init rmcX9_init (RetQ G none cX111 cI59 cL4 (1, 12)) (1, 12) cX110 cI59 cL4 9 [(0, .ref (gB G + 55))] [.ref (gB G + 56), .ref (gB G + 55)]
    refine ex_putFR (pc' := 12) dX9_init_9 fl_X9_9 rfl coX9 rfl rfl rfl rfl ?_
    show Ex G mX9_init rmcX9_init (RetQ G none cX111 cI59 cL4 (1, 12)) (1, 12) cX111 cI59 cL4 12 [(0, .ref (gB G + 55))] []
    exact ex_vret dX9_init_12 rfl rfl)
def cX112 : MX := (cX111.1, upF cX111.2.1 35 3 (some 55), cX111.2.2)
def cX113 : MX := (nwK cX112.1 57 (1, 0), nwF cX112.2.1 57, 58)
def cI60 : MI := nwI cI59 57
def cI61 : MI := upI cI60 57 0 3
def cX114 : MX := (nwK cX113.1 58 (2, 6), cX113.2.1, 59)
def cI62 : MI := nwI cI61 58
def cX115 : MX := (cX114.1, upF cX114.2.1 57 1 (some 58), cX114.2.2)
set_option maxRecDepth 100000 in
set_option maxHeartbeats 4000000 in
theorem kc25_X0_init (G : GX) : Con G mX0_init yX0_init rmcX0_init (fun B => [.ref (B + 57)]) cX113 cI60 cL4 none cX115 cI62 cL4 :=
  Con.of (by decide) rfl (fun _ => rfl) (fun B => Nat.le_of_ble_eq_true rfl) (fun G => by
    refine ex_aload_n 0 (pc' := 1) dX0_init_0 rfl rfl rfl ?_
    refine ex_objInit (pc' := 4) dX0_init_1 oi_X0 ⟨Nat.le_of_ble_eq_true rfl, Nat.le_of_ble_eq_true rfl⟩ rfl ?_
    refine ex_aload_n 0 (pc' := 5) dX0_init_4 rfl rfl rfl ?_
    refine ex_iconst (v := 3) (pc' := 6) dX0_init_5 ic_3 rfl ?_
    refine ex_putI (pc' := 9) dX0_init_6 fl_X0_11 rfl rfl rfl ?_
    show Ex G mX0_init rmcX0_init (RetQ G none cX115 cI62 cL4 (1, 6)) (0, 0) cX113 cI61 cL4 9 [(0, .ref (gB G + 57))] []
    refine ex_aload_n 0 (pc' := 10) dX0_init_9 rfl rfl rfl ?_
    refine ex_bipush (v := 6) (pc' := 12) dX0_init_10 bp_6 rfl ?_
    refine ex_newI (N := 6) (pc' := 14) dX0_init_12 acI (by decide) (by decide) (Nat.le_of_ble_eq_true rfl) ⟨Nat.le_of_ble_eq_true rfl, Nat.le_of_ble_eq_true rfl⟩ rfl ?_
    show Ex G mX0_init rmcX0_init (RetQ G none cX115 cI62 cL4 (1, 6)) (1, 6) cX114 cI62 cL4 14 [(0, .ref (gB G + 57))] [.ref (gB G + 58), .ref (gB G + 57)]
    refine ex_putFR (pc' := 17) dX0_init_14 fl_X0_15 rfl coX0 rfl rfl rfl rfl ?_
    show Ex G mX0_init rmcX0_init (RetQ G none cX115 cI62 cL4 (1, 6)) (1, 6) cX115 cI62 cL4 17 [(0, .ref (gB G + 57))] []
    exact ex_vret dX0_init_17 rfl rfl)
def cX116 : MX := (cX115.1, upF cX115.2.1 39 3 (some 57), cX115.2.2)
def cX117 : MX := (nwK cX116.1 59 (1, 9), nwF cX116.2.1 59, 60)
def cI63 : MI := nwI cI62 59
def cX118 : MX := (nwK cX117.1 60 (2, 12), cX117.2.1, 61)
def cI64 : MI := nwI cI63 60
def cX119 : MX := (cX118.1, upF cX118.2.1 59 0 (some 60), cX118.2.2)
set_option maxRecDepth 100000 in
set_option maxHeartbeats 4000000 in
theorem kc26_X9_init (G : GX) : Con G mX9_init yX9_init rmcX9_init (fun B => [.ref (B + 59)]) cX117 cI63 cL4 none cX119 cI64 cL4 :=
  Con.of (by decide) rfl (fun _ => rfl) (fun B => Nat.le_of_ble_eq_true rfl) (fun G => by
    refine ex_aload_n 0 (pc' := 1) dX9_init_0 rfl rfl rfl ?_
    refine ex_objInit (pc' := 4) dX9_init_1 oi_X9 ⟨Nat.le_of_ble_eq_true rfl, Nat.le_of_ble_eq_true rfl⟩ rfl ?_
    refine ex_aload_n 0 (pc' := 5) dX9_init_4 rfl rfl rfl ?_
    refine ex_bipush (v := 12) (pc' := 7) dX9_init_5 bp_12 rfl ?_
    refine ex_newI (N := 12) (pc' := 9) dX9_init_7 acI (by decide) (by decide) (Nat.le_of_ble_eq_true rfl) ⟨Nat.le_of_ble_eq_true rfl, Nat.le_of_ble_eq_true rfl⟩ rfl ?_
    show Ex G mX9_init rmcX9_init (RetQ G none cX119 cI64 cL4 (1, 12)) (1, 12) cX118 cI64 cL4 9 [(0, .ref (gB G + 59))] [.ref (gB G + 60), .ref (gB G + 59)]
    refine ex_putFR (pc' := 12) dX9_init_9 fl_X9_9 rfl coX9 rfl rfl rfl rfl ?_
    show Ex G mX9_init rmcX9_init (RetQ G none cX119 cI64 cL4 (1, 12)) (1, 12) cX119 cI64 cL4 12 [(0, .ref (gB G + 59))] []
    exact ex_vret dX9_init_12 rfl rfl)
def cX120 : MX := (cX119.1, upF cX119.2.1 35 4 (some 59), cX119.2.2)
def cX121 : MX := (nwK cX120.1 61 (1, 0), nwF cX120.2.1 61, 62)
def cI65 : MI := nwI cI64 61
def cI66 : MI := upI cI65 61 0 3
def cX122 : MX := (nwK cX121.1 62 (2, 6), cX121.2.1, 63)
def cI67 : MI := nwI cI66 62
def cX123 : MX := (cX122.1, upF cX122.2.1 61 1 (some 62), cX122.2.2)
set_option maxRecDepth 100000 in
set_option maxHeartbeats 4000000 in
theorem kc27_X0_init (G : GX) : Con G mX0_init yX0_init rmcX0_init (fun B => [.ref (B + 61)]) cX121 cI65 cL4 none cX123 cI67 cL4 :=
  Con.of (by decide) rfl (fun _ => rfl) (fun B => Nat.le_of_ble_eq_true rfl) (fun G => by
    refine ex_aload_n 0 (pc' := 1) dX0_init_0 rfl rfl rfl ?_
    refine ex_objInit (pc' := 4) dX0_init_1 oi_X0 ⟨Nat.le_of_ble_eq_true rfl, Nat.le_of_ble_eq_true rfl⟩ rfl ?_
    refine ex_aload_n 0 (pc' := 5) dX0_init_4 rfl rfl rfl ?_
    refine ex_iconst (v := 3) (pc' := 6) dX0_init_5 ic_3 rfl ?_
    refine ex_putI (pc' := 9) dX0_init_6 fl_X0_11 rfl rfl rfl ?_
    show Ex G mX0_init rmcX0_init (RetQ G none cX123 cI67 cL4 (1, 6)) (0, 0) cX121 cI66 cL4 9 [(0, .ref (gB G + 61))] []
    refine ex_aload_n 0 (pc' := 10) dX0_init_9 rfl rfl rfl ?_
    refine ex_bipush (v := 6) (pc' := 12) dX0_init_10 bp_6 rfl ?_
    refine ex_newI (N := 6) (pc' := 14) dX0_init_12 acI (by decide) (by decide) (Nat.le_of_ble_eq_true rfl) ⟨Nat.le_of_ble_eq_true rfl, Nat.le_of_ble_eq_true rfl⟩ rfl ?_
    show Ex G mX0_init rmcX0_init (RetQ G none cX123 cI67 cL4 (1, 6)) (1, 6) cX122 cI67 cL4 14 [(0, .ref (gB G + 61))] [.ref (gB G + 62), .ref (gB G + 61)]
    refine ex_putFR (pc' := 17) dX0_init_14 fl_X0_15 rfl coX0 rfl rfl rfl rfl ?_
    show Ex G mX0_init rmcX0_init (RetQ G none cX123 cI67 cL4 (1, 6)) (1, 6) cX123 cI67 cL4 17 [(0, .ref (gB G + 61))] []
    exact ex_vret dX0_init_17 rfl rfl)
def cX124 : MX := (cX123.1, upF cX123.2.1 39 4 (some 61), cX123.2.2)
def cX125 : MX := (nwK cX124.1 63 (1, 9), nwF cX124.2.1 63, 64)
def cI68 : MI := nwI cI67 63
def cX126 : MX := (nwK cX125.1 64 (2, 12), cX125.2.1, 65)
def cI69 : MI := nwI cI68 64
def cX127 : MX := (cX126.1, upF cX126.2.1 63 0 (some 64), cX126.2.2)
set_option maxRecDepth 100000 in
set_option maxHeartbeats 4000000 in
theorem kc28_X9_init (G : GX) : Con G mX9_init yX9_init rmcX9_init (fun B => [.ref (B + 63)]) cX125 cI68 cL4 none cX127 cI69 cL4 :=
  Con.of (by decide) rfl (fun _ => rfl) (fun B => Nat.le_of_ble_eq_true rfl) (fun G => by
    refine ex_aload_n 0 (pc' := 1) dX9_init_0 rfl rfl rfl ?_
    refine ex_objInit (pc' := 4) dX9_init_1 oi_X9 ⟨Nat.le_of_ble_eq_true rfl, Nat.le_of_ble_eq_true rfl⟩ rfl ?_
    refine ex_aload_n 0 (pc' := 5) dX9_init_4 rfl rfl rfl ?_
    refine ex_bipush (v := 12) (pc' := 7) dX9_init_5 bp_12 rfl ?_
    refine ex_newI (N := 12) (pc' := 9) dX9_init_7 acI (by decide) (by decide) (Nat.le_of_ble_eq_true rfl) ⟨Nat.le_of_ble_eq_true rfl, Nat.le_of_ble_eq_true rfl⟩ rfl ?_
    show Ex G mX9_init rmcX9_init (RetQ G none cX127 cI69 cL4 (1, 12)) (1, 12) cX126 cI69 cL4 9 [(0, .ref (gB G + 63))] [.ref (gB G + 64), .ref (gB G + 63)]
    refine ex_putFR (pc' := 12) dX9_init_9 fl_X9_9 rfl coX9 rfl rfl rfl rfl ?_
    show Ex G mX9_init rmcX9_init (RetQ G none cX127 cI69 cL4 (1, 12)) (1, 12) cX127 cI69 cL4 12 [(0, .ref (gB G + 63))] []
    exact ex_vret dX9_init_12 rfl rfl)
def cX128 : MX := (cX127.1, upF cX127.2.1 35 5 (some 63), cX127.2.2)
def cX129 : MX := (nwK cX128.1 65 (1, 0), nwF cX128.2.1 65, 66)
def cI70 : MI := nwI cI69 65
def cI71 : MI := upI cI70 65 0 3
def cX130 : MX := (nwK cX129.1 66 (2, 6), cX129.2.1, 67)
def cI72 : MI := nwI cI71 66
def cX131 : MX := (cX130.1, upF cX130.2.1 65 1 (some 66), cX130.2.2)
set_option maxRecDepth 100000 in
set_option maxHeartbeats 4000000 in
theorem kc29_X0_init (G : GX) : Con G mX0_init yX0_init rmcX0_init (fun B => [.ref (B + 65)]) cX129 cI70 cL4 none cX131 cI72 cL4 :=
  Con.of (by decide) rfl (fun _ => rfl) (fun B => Nat.le_of_ble_eq_true rfl) (fun G => by
    refine ex_aload_n 0 (pc' := 1) dX0_init_0 rfl rfl rfl ?_
    refine ex_objInit (pc' := 4) dX0_init_1 oi_X0 ⟨Nat.le_of_ble_eq_true rfl, Nat.le_of_ble_eq_true rfl⟩ rfl ?_
    refine ex_aload_n 0 (pc' := 5) dX0_init_4 rfl rfl rfl ?_
    refine ex_iconst (v := 3) (pc' := 6) dX0_init_5 ic_3 rfl ?_
    refine ex_putI (pc' := 9) dX0_init_6 fl_X0_11 rfl rfl rfl ?_
    show Ex G mX0_init rmcX0_init (RetQ G none cX131 cI72 cL4 (1, 6)) (0, 0) cX129 cI71 cL4 9 [(0, .ref (gB G + 65))] []
    refine ex_aload_n 0 (pc' := 10) dX0_init_9 rfl rfl rfl ?_
    refine ex_bipush (v := 6) (pc' := 12) dX0_init_10 bp_6 rfl ?_
    refine ex_newI (N := 6) (pc' := 14) dX0_init_12 acI (by decide) (by decide) (Nat.le_of_ble_eq_true rfl) ⟨Nat.le_of_ble_eq_true rfl, Nat.le_of_ble_eq_true rfl⟩ rfl ?_
    show Ex G mX0_init rmcX0_init (RetQ G none cX131 cI72 cL4 (1, 6)) (1, 6) cX130 cI72 cL4 14 [(0, .ref (gB G + 65))] [.ref (gB G + 66), .ref (gB G + 65)]
    refine ex_putFR (pc' := 17) dX0_init_14 fl_X0_15 rfl coX0 rfl rfl rfl rfl ?_
    show Ex G mX0_init rmcX0_init (RetQ G none cX131 cI72 cL4 (1, 6)) (1, 6) cX131 cI72 cL4 17 [(0, .ref (gB G + 65))] []
    exact ex_vret dX0_init_17 rfl rfl)
def cX132 : MX := (cX131.1, upF cX131.2.1 39 5 (some 65), cX131.2.2)
def cI73 : MI := fillI cI72 40 36 1
set_option maxRecDepth 100000 in
set_option maxHeartbeats 4000000 in
theorem kc16_X5_init (G : GX) : Con G mX5_init yX5_init rmcX5_init (fun B => [.ref (B + 34)]) cX68 cI38 cL2 none cX132 cI73 cL4 :=
  Con.of (by decide) rfl (fun _ => rfl) (fun B => Nat.le_of_ble_eq_true rfl) (fun G => by
    refine ex_aload_n 0 (pc' := 1) dX5_init_0 rfl rfl rfl ?_
    refine ex_objInit (pc' := 4) dX5_init_1 oi_X5 ⟨Nat.le_of_ble_eq_true rfl, Nat.le_of_ble_eq_true rfl⟩ rfl ?_
    refine ex_aload_n 0 (pc' := 5) dX5_init_4 rfl rfl rfl ?_
    refine ex_bipush (v := 6) (pc' := 7) dX5_init_5 bp_6 rfl ?_
    refine ex_newq (t := 4) (N := 6) (pc' := 10) dX5_init_7 (by decide) (by decide) ck_X5_9 (by decide) (by decide) (Nat.le_of_ble_eq_true rfl) ⟨Nat.le_of_ble_eq_true rfl, Nat.le_of_ble_eq_true rfl⟩ rfl ?_
    show Ex G mX5_init rmcX5_init (RetQ G none cX132 cI73 cL4 (32, 528)) (1, 6) cX69 cI38 cL2 10 [(0, .ref (gB G + 34))] [.ref (gB G + 35), .ref (gB G + 34)]
    refine ex_putFR (pc' := 13) dX5_init_10 fl_X5_11 rfl coX5 rfl rfl rfl rfl ?_
    show Ex G mX5_init rmcX5_init (RetQ G none cX132 cI73 cL4 (32, 528)) (1, 6) cX70 cI38 cL2 13 [(0, .ref (gB G + 34))] []
    refine ex_aload_n 0 (pc' := 14) dX5_init_13 rfl rfl rfl ?_
    refine ex_new (pc' := 17) dX5_init_14 cn_X5_17 ⟨Nat.le_of_ble_eq_true rfl, Nat.le_of_ble_eq_true rfl⟩ rfl ?_
    show Ex G mX5_init rmcX5_init (RetQ G none cX132 cI73 cL4 (32, 528)) (2, 8) cX71 cI39 cL2 17 [(0, .ref (gB G + 34))] [.ref (gB G + 36), .ref (gB G + 34)]
    refine ex_dup (pc' := 18) dX5_init_17 rfl rfl ?_
    refine ex_callIN (rm' := rmcX6_init) (st := [.ref (gB G + 36), .ref (gB G + 34)]) (pc' := 21) [] dX5_init_18 cl_X5_19 rfl (kc17_X6_init G) rfl rfl rfl (ROOM_of rfl) (Nat.le_of_ble_eq_true rfl) rfl ?_
    show Ex G mX5_init rmcX5_init (RetQ G none cX132 cI73 cL4 (32, 528)) (4, 346) cX75 cI39 cL4 21 [(0, .ref (gB G + 34))] [.ref (gB G + 36), .ref (gB G + 34)]
    refine ex_putFR (pc' := 24) dX5_init_21 fl_X5_20 rfl coX5 rfl rfl rfl rfl ?_
    show Ex G mX5_init rmcX5_init (RetQ G none cX132 cI73 cL4 (32, 528)) (4, 346) cX76 cI39 cL4 24 [(0, .ref (gB G + 34))] []
    refine ex_aload_n 0 (pc' := 25) dX5_init_24 rfl rfl rfl ?_
    refine ex_bipush (v := 6) (pc' := 27) dX5_init_25 bp_6 rfl ?_
    refine ex_newq (t := 5) (N := 6) (pc' := 30) dX5_init_27 (by decide) (by decide) ck_X5_24 (by decide) (by decide) (Nat.le_of_ble_eq_true rfl) ⟨Nat.le_of_ble_eq_true rfl, Nat.le_of_ble_eq_true rfl⟩ rfl ?_
    show Ex G mX5_init rmcX5_init (RetQ G none cX132 cI73 cL4 (32, 528)) (5, 352) cX77 cI39 cL4 30 [(0, .ref (gB G + 34))] [.ref (gB G + 39), .ref (gB G + 34)]
    refine ex_putFR (pc' := 33) dX5_init_30 fl_X5_26 rfl coX5 rfl rfl rfl rfl ?_
    show Ex G mX5_init rmcX5_init (RetQ G none cX132 cI73 cL4 (32, 528)) (5, 352) cX78 cI39 cL4 33 [(0, .ref (gB G + 34))] []
    refine ex_aload_n 0 (pc' := 34) dX5_init_33 rfl rfl rfl ?_
    refine ex_bipush (v := 36) (pc' := 36) dX5_init_34 bp_36 rfl ?_
    refine ex_newI (N := 36) (pc' := 38) dX5_init_36 acI (by decide) (by decide) (Nat.le_of_ble_eq_true rfl) ⟨Nat.le_of_ble_eq_true rfl, Nat.le_of_ble_eq_true rfl⟩ rfl ?_
    show Ex G mX5_init rmcX5_init (RetQ G none cX132 cI73 cL4 (32, 528)) (6, 388) cX79 cI40 cL4 38 [(0, .ref (gB G + 34))] [.ref (gB G + 40), .ref (gB G + 34)]
    refine ex_putFR (pc' := 41) dX5_init_38 fl_X5_30 rfl coX5 rfl rfl rfl rfl ?_
    show Ex G mX5_init rmcX5_init (RetQ G none cX132 cI73 cL4 (32, 528)) (6, 388) cX80 cI40 cL4 41 [(0, .ref (gB G + 34))] []
    refine ex_aload_n 0 (pc' := 42) dX5_init_41 rfl rfl rfl ?_
    refine ex_iconst (v := 4) (pc' := 43) dX5_init_42 ic_4 rfl ?_
    refine ex_newI (N := 4) (pc' := 45) dX5_init_43 acI (by decide) (by decide) (Nat.le_of_ble_eq_true rfl) ⟨Nat.le_of_ble_eq_true rfl, Nat.le_of_ble_eq_true rfl⟩ rfl ?_
    show Ex G mX5_init rmcX5_init (RetQ G none cX132 cI73 cL4 (32, 528)) (7, 392) cX81 cI41 cL4 45 [(0, .ref (gB G + 34))] [.ref (gB G + 41), .ref (gB G + 34)]
    refine ex_putFR (pc' := 48) dX5_init_45 fl_X5_34 rfl coX5 rfl rfl rfl rfl ?_
    show Ex G mX5_init rmcX5_init (RetQ G none cX132 cI73 cL4 (32, 528)) (7, 392) cX82 cI41 cL4 48 [(0, .ref (gB G + 34))] []
    refine ex_aload_n 0 (pc' := 49) dX5_init_48 rfl rfl rfl ?_
    refine ex_iconst (v := 4) (pc' := 50) dX5_init_49 ic_4 rfl ?_
    refine ex_newI (N := 4) (pc' := 52) dX5_init_50 acI (by decide) (by decide) (Nat.le_of_ble_eq_true rfl) ⟨Nat.le_of_ble_eq_true rfl, Nat.le_of_ble_eq_true rfl⟩ rfl ?_
    show Ex G mX5_init rmcX5_init (RetQ G none cX132 cI73 cL4 (32, 528)) (8, 396) cX83 cI42 cL4 52 [(0, .ref (gB G + 34))] [.ref (gB G + 42), .ref (gB G + 34)]
    refine ex_putFR (pc' := 55) dX5_init_52 fl_X5_37 rfl coX5 rfl rfl rfl rfl ?_
    show Ex G mX5_init rmcX5_init (RetQ G none cX132 cI73 cL4 (32, 528)) (8, 396) cX84 cI42 cL4 55 [(0, .ref (gB G + 34))] []
    refine ex_iconst (v := 0) (pc' := 56) dX5_init_55 ic_0 rfl ?_
    refine ex_istore_n (lv' := [(1, .int 0), (0, .ref (gB G + 34))]) (pc' := 57) dX5_init_56 rfl (Nat.le_of_ble_eq_true rfl) rfl rfl ?_
    refine ex_iload_n 0 (pc' := 58) dX5_init_57 rfl rfl rfl ?_
    refine ex_bipush (v := 6) (pc' := 60) dX5_init_58 bp_6 rfl ?_
    refine ex_icmpge (tgt := 95) (pc' := 63) dX5_init_60 (by decide) rfl (fun hc => ?_) (fun hc => absurd (by decide) hc)
    refine ex_aload_n 1 (pc' := 64) dX5_init_63 rfl rfl rfl ?_
    refine ex_getR (a' := 35) (pc' := 67) dX5_init_64 fl_X5_11 rfl rfl rfl rfl ?_
    refine ex_iload_n 0 (pc' := 68) dX5_init_67 rfl rfl rfl ?_
    refine ex_new (pc' := 71) dX5_init_68 cn_X5_9 ⟨Nat.le_of_ble_eq_true rfl, Nat.le_of_ble_eq_true rfl⟩ rfl ?_
    show Ex G mX5_init rmcX5_init (RetQ G none cX132 cI73 cL4 (32, 528)) (9, 398) cX85 cI43 cL4 71 [(1, .int 0), (0, .ref (gB G + 34))] [.ref (gB G + 43), .int 0, .ref (gB G + 35)]
    refine ex_dup (pc' := 72) dX5_init_71 rfl rfl ?_
    refine ex_callIN (rm' := rmcX9_init) (st := [.ref (gB G + 43), .int 0, .ref (gB G + 35)]) (pc' := 75) [] dX5_init_72 cl_X5_40 rfl (kc18_X9_init G) rfl rfl rfl (ROOM_of rfl) (Nat.le_of_ble_eq_true rfl) rfl ?_
    show Ex G mX5_init rmcX5_init (RetQ G none cX132 cI73 cL4 (32, 528)) (10, 410) cX87 cI44 cL4 75 [(1, .int 0), (0, .ref (gB G + 34))] [.ref (gB G + 43), .int 0, .ref (gB G + 35)]
    refine ex_aast (t := 4) (n := 6) (pc' := 76) dX5_init_75 rfl (by decide) (by decide) rfl (inb_in rfl) rfl ?_
    show Ex G mX5_init rmcX5_init (RetQ G none cX132 cI73 cL4 (32, 528)) (10, 410) cX88 cI44 cL4 76 [(1, .int 0), (0, .ref (gB G + 34))] []
    refine ex_aload_n 1 (pc' := 77) dX5_init_76 rfl rfl rfl ?_
    refine ex_getR (a' := 39) (pc' := 80) dX5_init_77 fl_X5_26 rfl rfl rfl rfl ?_
    refine ex_iload_n 0 (pc' := 81) dX5_init_80 rfl rfl rfl ?_
    refine ex_new (pc' := 84) dX5_init_81 cn_X5_24 ⟨Nat.le_of_ble_eq_true rfl, Nat.le_of_ble_eq_true rfl⟩ rfl ?_
    show Ex G mX5_init rmcX5_init (RetQ G none cX132 cI73 cL4 (32, 528)) (11, 412) cX89 cI45 cL4 84 [(1, .int 0), (0, .ref (gB G + 34))] [.ref (gB G + 45), .int 0, .ref (gB G + 39)]
    refine ex_dup (pc' := 85) dX5_init_84 rfl rfl ?_
    refine ex_callIN (rm' := rmcX0_init) (st := [.ref (gB G + 45), .int 0, .ref (gB G + 39)]) (pc' := 88) [] dX5_init_85 cl_X5_41 rfl (kc19_X0_init G) rfl rfl rfl (ROOM_of rfl) (Nat.le_of_ble_eq_true rfl) rfl ?_
    show Ex G mX5_init rmcX5_init (RetQ G none cX132 cI73 cL4 (32, 528)) (12, 418) cX91 cI47 cL4 88 [(1, .int 0), (0, .ref (gB G + 34))] [.ref (gB G + 45), .int 0, .ref (gB G + 39)]
    refine ex_aast (t := 5) (n := 6) (pc' := 89) dX5_init_88 rfl (by decide) (by decide) rfl (inb_in rfl) rfl ?_
    show Ex G mX5_init rmcX5_init (RetQ G none cX132 cI73 cL4 (32, 528)) (12, 418) cX92 cI47 cL4 89 [(1, .int 0), (0, .ref (gB G + 34))] []
    refine ex_iinc (v := 1) (lv' := [(1, .int 1), (0, .ref (gB G + 34))]) 0 (pc' := 92) dX5_init_89 rfl (by decide) (Nat.le_of_ble_eq_true rfl) rfl rfl ?_
    refine ex_goto (tgt := 57) dX5_init_92 (by decide) ?_
    refine ex_iload_n 0 (pc' := 58) dX5_init_57 rfl rfl rfl ?_
    refine ex_bipush (v := 6) (pc' := 60) dX5_init_58 bp_6 rfl ?_
    refine ex_icmpge (tgt := 95) (pc' := 63) dX5_init_60 (by decide) rfl (fun hc => ?_) (fun hc => absurd (by decide) hc)
    refine ex_aload_n 1 (pc' := 64) dX5_init_63 rfl rfl rfl ?_
    refine ex_getR (a' := 35) (pc' := 67) dX5_init_64 fl_X5_11 rfl rfl rfl rfl ?_
    refine ex_iload_n 0 (pc' := 68) dX5_init_67 rfl rfl rfl ?_
    refine ex_new (pc' := 71) dX5_init_68 cn_X5_9 ⟨Nat.le_of_ble_eq_true rfl, Nat.le_of_ble_eq_true rfl⟩ rfl ?_
    show Ex G mX5_init rmcX5_init (RetQ G none cX132 cI73 cL4 (32, 528)) (13, 420) cX93 cI48 cL4 71 [(1, .int 1), (0, .ref (gB G + 34))] [.ref (gB G + 47), .int 1, .ref (gB G + 35)]
    refine ex_dup (pc' := 72) dX5_init_71 rfl rfl ?_
    refine ex_callIN (rm' := rmcX9_init) (st := [.ref (gB G + 47), .int 1, .ref (gB G + 35)]) (pc' := 75) [] dX5_init_72 cl_X5_40 rfl (kc20_X9_init G) rfl rfl rfl (ROOM_of rfl) (Nat.le_of_ble_eq_true rfl) rfl ?_
    show Ex G mX5_init rmcX5_init (RetQ G none cX132 cI73 cL4 (32, 528)) (14, 432) cX95 cI49 cL4 75 [(1, .int 1), (0, .ref (gB G + 34))] [.ref (gB G + 47), .int 1, .ref (gB G + 35)]
    refine ex_aast (t := 4) (n := 6) (pc' := 76) dX5_init_75 rfl (by decide) (by decide) rfl (inb_in rfl) rfl ?_
    show Ex G mX5_init rmcX5_init (RetQ G none cX132 cI73 cL4 (32, 528)) (14, 432) cX96 cI49 cL4 76 [(1, .int 1), (0, .ref (gB G + 34))] []
    refine ex_aload_n 1 (pc' := 77) dX5_init_76 rfl rfl rfl ?_
    refine ex_getR (a' := 39) (pc' := 80) dX5_init_77 fl_X5_26 rfl rfl rfl rfl ?_
    refine ex_iload_n 0 (pc' := 81) dX5_init_80 rfl rfl rfl ?_
    refine ex_new (pc' := 84) dX5_init_81 cn_X5_24 ⟨Nat.le_of_ble_eq_true rfl, Nat.le_of_ble_eq_true rfl⟩ rfl ?_
    show Ex G mX5_init rmcX5_init (RetQ G none cX132 cI73 cL4 (32, 528)) (15, 434) cX97 cI50 cL4 84 [(1, .int 1), (0, .ref (gB G + 34))] [.ref (gB G + 49), .int 1, .ref (gB G + 39)]
    refine ex_dup (pc' := 85) dX5_init_84 rfl rfl ?_
    refine ex_callIN (rm' := rmcX0_init) (st := [.ref (gB G + 49), .int 1, .ref (gB G + 39)]) (pc' := 88) [] dX5_init_85 cl_X5_41 rfl (kc21_X0_init G) rfl rfl rfl (ROOM_of rfl) (Nat.le_of_ble_eq_true rfl) rfl ?_
    show Ex G mX5_init rmcX5_init (RetQ G none cX132 cI73 cL4 (32, 528)) (16, 440) cX99 cI52 cL4 88 [(1, .int 1), (0, .ref (gB G + 34))] [.ref (gB G + 49), .int 1, .ref (gB G + 39)]
    refine ex_aast (t := 5) (n := 6) (pc' := 89) dX5_init_88 rfl (by decide) (by decide) rfl (inb_in rfl) rfl ?_
    show Ex G mX5_init rmcX5_init (RetQ G none cX132 cI73 cL4 (32, 528)) (16, 440) cX100 cI52 cL4 89 [(1, .int 1), (0, .ref (gB G + 34))] []
    refine ex_iinc (v := 2) (lv' := [(1, .int 2), (0, .ref (gB G + 34))]) 0 (pc' := 92) dX5_init_89 rfl (by decide) (Nat.le_of_ble_eq_true rfl) rfl rfl ?_
    refine ex_goto (tgt := 57) dX5_init_92 (by decide) ?_
    refine ex_iload_n 0 (pc' := 58) dX5_init_57 rfl rfl rfl ?_
    refine ex_bipush (v := 6) (pc' := 60) dX5_init_58 bp_6 rfl ?_
    refine ex_icmpge (tgt := 95) (pc' := 63) dX5_init_60 (by decide) rfl (fun hc => ?_) (fun hc => absurd (by decide) hc)
    refine ex_aload_n 1 (pc' := 64) dX5_init_63 rfl rfl rfl ?_
    refine ex_getR (a' := 35) (pc' := 67) dX5_init_64 fl_X5_11 rfl rfl rfl rfl ?_
    refine ex_iload_n 0 (pc' := 68) dX5_init_67 rfl rfl rfl ?_
    refine ex_new (pc' := 71) dX5_init_68 cn_X5_9 ⟨Nat.le_of_ble_eq_true rfl, Nat.le_of_ble_eq_true rfl⟩ rfl ?_
    show Ex G mX5_init rmcX5_init (RetQ G none cX132 cI73 cL4 (32, 528)) (17, 442) cX101 cI53 cL4 71 [(1, .int 2), (0, .ref (gB G + 34))] [.ref (gB G + 51), .int 2, .ref (gB G + 35)]
    refine ex_dup (pc' := 72) dX5_init_71 rfl rfl ?_
    refine ex_callIN (rm' := rmcX9_init) (st := [.ref (gB G + 51), .int 2, .ref (gB G + 35)]) (pc' := 75) [] dX5_init_72 cl_X5_40 rfl (kc22_X9_init G) rfl rfl rfl (ROOM_of rfl) (Nat.le_of_ble_eq_true rfl) rfl ?_
    show Ex G mX5_init rmcX5_init (RetQ G none cX132 cI73 cL4 (32, 528)) (18, 454) cX103 cI54 cL4 75 [(1, .int 2), (0, .ref (gB G + 34))] [.ref (gB G + 51), .int 2, .ref (gB G + 35)]
    refine ex_aast (t := 4) (n := 6) (pc' := 76) dX5_init_75 rfl (by decide) (by decide) rfl (inb_in rfl) rfl ?_
    show Ex G mX5_init rmcX5_init (RetQ G none cX132 cI73 cL4 (32, 528)) (18, 454) cX104 cI54 cL4 76 [(1, .int 2), (0, .ref (gB G + 34))] []
    refine ex_aload_n 1 (pc' := 77) dX5_init_76 rfl rfl rfl ?_
    refine ex_getR (a' := 39) (pc' := 80) dX5_init_77 fl_X5_26 rfl rfl rfl rfl ?_
    refine ex_iload_n 0 (pc' := 81) dX5_init_80 rfl rfl rfl ?_
    refine ex_new (pc' := 84) dX5_init_81 cn_X5_24 ⟨Nat.le_of_ble_eq_true rfl, Nat.le_of_ble_eq_true rfl⟩ rfl ?_
    show Ex G mX5_init rmcX5_init (RetQ G none cX132 cI73 cL4 (32, 528)) (19, 456) cX105 cI55 cL4 84 [(1, .int 2), (0, .ref (gB G + 34))] [.ref (gB G + 53), .int 2, .ref (gB G + 39)]
    refine ex_dup (pc' := 85) dX5_init_84 rfl rfl ?_
    refine ex_callIN (rm' := rmcX0_init) (st := [.ref (gB G + 53), .int 2, .ref (gB G + 39)]) (pc' := 88) [] dX5_init_85 cl_X5_41 rfl (kc23_X0_init G) rfl rfl rfl (ROOM_of rfl) (Nat.le_of_ble_eq_true rfl) rfl ?_
    show Ex G mX5_init rmcX5_init (RetQ G none cX132 cI73 cL4 (32, 528)) (20, 462) cX107 cI57 cL4 88 [(1, .int 2), (0, .ref (gB G + 34))] [.ref (gB G + 53), .int 2, .ref (gB G + 39)]
    refine ex_aast (t := 5) (n := 6) (pc' := 89) dX5_init_88 rfl (by decide) (by decide) rfl (inb_in rfl) rfl ?_
    show Ex G mX5_init rmcX5_init (RetQ G none cX132 cI73 cL4 (32, 528)) (20, 462) cX108 cI57 cL4 89 [(1, .int 2), (0, .ref (gB G + 34))] []
    refine ex_iinc (v := 3) (lv' := [(1, .int 3), (0, .ref (gB G + 34))]) 0 (pc' := 92) dX5_init_89 rfl (by decide) (Nat.le_of_ble_eq_true rfl) rfl rfl ?_
    refine ex_goto (tgt := 57) dX5_init_92 (by decide) ?_
    refine ex_iload_n 0 (pc' := 58) dX5_init_57 rfl rfl rfl ?_
    refine ex_bipush (v := 6) (pc' := 60) dX5_init_58 bp_6 rfl ?_
    refine ex_icmpge (tgt := 95) (pc' := 63) dX5_init_60 (by decide) rfl (fun hc => ?_) (fun hc => absurd (by decide) hc)
    refine ex_aload_n 1 (pc' := 64) dX5_init_63 rfl rfl rfl ?_
    refine ex_getR (a' := 35) (pc' := 67) dX5_init_64 fl_X5_11 rfl rfl rfl rfl ?_
    refine ex_iload_n 0 (pc' := 68) dX5_init_67 rfl rfl rfl ?_
    refine ex_new (pc' := 71) dX5_init_68 cn_X5_9 ⟨Nat.le_of_ble_eq_true rfl, Nat.le_of_ble_eq_true rfl⟩ rfl ?_
    show Ex G mX5_init rmcX5_init (RetQ G none cX132 cI73 cL4 (32, 528)) (21, 464) cX109 cI58 cL4 71 [(1, .int 3), (0, .ref (gB G + 34))] [.ref (gB G + 55), .int 3, .ref (gB G + 35)]
    refine ex_dup (pc' := 72) dX5_init_71 rfl rfl ?_
    refine ex_callIN (rm' := rmcX9_init) (st := [.ref (gB G + 55), .int 3, .ref (gB G + 35)]) (pc' := 75) [] dX5_init_72 cl_X5_40 rfl (kc24_X9_init G) rfl rfl rfl (ROOM_of rfl) (Nat.le_of_ble_eq_true rfl) rfl ?_
    show Ex G mX5_init rmcX5_init (RetQ G none cX132 cI73 cL4 (32, 528)) (22, 476) cX111 cI59 cL4 75 [(1, .int 3), (0, .ref (gB G + 34))] [.ref (gB G + 55), .int 3, .ref (gB G + 35)]
    refine ex_aast (t := 4) (n := 6) (pc' := 76) dX5_init_75 rfl (by decide) (by decide) rfl (inb_in rfl) rfl ?_
    show Ex G mX5_init rmcX5_init (RetQ G none cX132 cI73 cL4 (32, 528)) (22, 476) cX112 cI59 cL4 76 [(1, .int 3), (0, .ref (gB G + 34))] []
    refine ex_aload_n 1 (pc' := 77) dX5_init_76 rfl rfl rfl ?_
    refine ex_getR (a' := 39) (pc' := 80) dX5_init_77 fl_X5_26 rfl rfl rfl rfl ?_
    refine ex_iload_n 0 (pc' := 81) dX5_init_80 rfl rfl rfl ?_
    refine ex_new (pc' := 84) dX5_init_81 cn_X5_24 ⟨Nat.le_of_ble_eq_true rfl, Nat.le_of_ble_eq_true rfl⟩ rfl ?_
    show Ex G mX5_init rmcX5_init (RetQ G none cX132 cI73 cL4 (32, 528)) (23, 478) cX113 cI60 cL4 84 [(1, .int 3), (0, .ref (gB G + 34))] [.ref (gB G + 57), .int 3, .ref (gB G + 39)]
    refine ex_dup (pc' := 85) dX5_init_84 rfl rfl ?_
    refine ex_callIN (rm' := rmcX0_init) (st := [.ref (gB G + 57), .int 3, .ref (gB G + 39)]) (pc' := 88) [] dX5_init_85 cl_X5_41 rfl (kc25_X0_init G) rfl rfl rfl (ROOM_of rfl) (Nat.le_of_ble_eq_true rfl) rfl ?_
    show Ex G mX5_init rmcX5_init (RetQ G none cX132 cI73 cL4 (32, 528)) (24, 484) cX115 cI62 cL4 88 [(1, .int 3), (0, .ref (gB G + 34))] [.ref (gB G + 57), .int 3, .ref (gB G + 39)]
    refine ex_aast (t := 5) (n := 6) (pc' := 89) dX5_init_88 rfl (by decide) (by decide) rfl (inb_in rfl) rfl ?_
    show Ex G mX5_init rmcX5_init (RetQ G none cX132 cI73 cL4 (32, 528)) (24, 484) cX116 cI62 cL4 89 [(1, .int 3), (0, .ref (gB G + 34))] []
    refine ex_iinc (v := 4) (lv' := [(1, .int 4), (0, .ref (gB G + 34))]) 0 (pc' := 92) dX5_init_89 rfl (by decide) (Nat.le_of_ble_eq_true rfl) rfl rfl ?_
    refine ex_goto (tgt := 57) dX5_init_92 (by decide) ?_
    refine ex_iload_n 0 (pc' := 58) dX5_init_57 rfl rfl rfl ?_
    refine ex_bipush (v := 6) (pc' := 60) dX5_init_58 bp_6 rfl ?_
    refine ex_icmpge (tgt := 95) (pc' := 63) dX5_init_60 (by decide) rfl (fun hc => ?_) (fun hc => absurd (by decide) hc)
    refine ex_aload_n 1 (pc' := 64) dX5_init_63 rfl rfl rfl ?_
    refine ex_getR (a' := 35) (pc' := 67) dX5_init_64 fl_X5_11 rfl rfl rfl rfl ?_
    refine ex_iload_n 0 (pc' := 68) dX5_init_67 rfl rfl rfl ?_
    refine ex_new (pc' := 71) dX5_init_68 cn_X5_9 ⟨Nat.le_of_ble_eq_true rfl, Nat.le_of_ble_eq_true rfl⟩ rfl ?_
    show Ex G mX5_init rmcX5_init (RetQ G none cX132 cI73 cL4 (32, 528)) (25, 486) cX117 cI63 cL4 71 [(1, .int 4), (0, .ref (gB G + 34))] [.ref (gB G + 59), .int 4, .ref (gB G + 35)]
    refine ex_dup (pc' := 72) dX5_init_71 rfl rfl ?_
    refine ex_callIN (rm' := rmcX9_init) (st := [.ref (gB G + 59), .int 4, .ref (gB G + 35)]) (pc' := 75) [] dX5_init_72 cl_X5_40 rfl (kc26_X9_init G) rfl rfl rfl (ROOM_of rfl) (Nat.le_of_ble_eq_true rfl) rfl ?_
    show Ex G mX5_init rmcX5_init (RetQ G none cX132 cI73 cL4 (32, 528)) (26, 498) cX119 cI64 cL4 75 [(1, .int 4), (0, .ref (gB G + 34))] [.ref (gB G + 59), .int 4, .ref (gB G + 35)]
    refine ex_aast (t := 4) (n := 6) (pc' := 76) dX5_init_75 rfl (by decide) (by decide) rfl (inb_in rfl) rfl ?_
    show Ex G mX5_init rmcX5_init (RetQ G none cX132 cI73 cL4 (32, 528)) (26, 498) cX120 cI64 cL4 76 [(1, .int 4), (0, .ref (gB G + 34))] []
    refine ex_aload_n 1 (pc' := 77) dX5_init_76 rfl rfl rfl ?_
    refine ex_getR (a' := 39) (pc' := 80) dX5_init_77 fl_X5_26 rfl rfl rfl rfl ?_
    refine ex_iload_n 0 (pc' := 81) dX5_init_80 rfl rfl rfl ?_
    refine ex_new (pc' := 84) dX5_init_81 cn_X5_24 ⟨Nat.le_of_ble_eq_true rfl, Nat.le_of_ble_eq_true rfl⟩ rfl ?_
    show Ex G mX5_init rmcX5_init (RetQ G none cX132 cI73 cL4 (32, 528)) (27, 500) cX121 cI65 cL4 84 [(1, .int 4), (0, .ref (gB G + 34))] [.ref (gB G + 61), .int 4, .ref (gB G + 39)]
    refine ex_dup (pc' := 85) dX5_init_84 rfl rfl ?_
    refine ex_callIN (rm' := rmcX0_init) (st := [.ref (gB G + 61), .int 4, .ref (gB G + 39)]) (pc' := 88) [] dX5_init_85 cl_X5_41 rfl (kc27_X0_init G) rfl rfl rfl (ROOM_of rfl) (Nat.le_of_ble_eq_true rfl) rfl ?_
    show Ex G mX5_init rmcX5_init (RetQ G none cX132 cI73 cL4 (32, 528)) (28, 506) cX123 cI67 cL4 88 [(1, .int 4), (0, .ref (gB G + 34))] [.ref (gB G + 61), .int 4, .ref (gB G + 39)]
    refine ex_aast (t := 5) (n := 6) (pc' := 89) dX5_init_88 rfl (by decide) (by decide) rfl (inb_in rfl) rfl ?_
    show Ex G mX5_init rmcX5_init (RetQ G none cX132 cI73 cL4 (32, 528)) (28, 506) cX124 cI67 cL4 89 [(1, .int 4), (0, .ref (gB G + 34))] []
    refine ex_iinc (v := 5) (lv' := [(1, .int 5), (0, .ref (gB G + 34))]) 0 (pc' := 92) dX5_init_89 rfl (by decide) (Nat.le_of_ble_eq_true rfl) rfl rfl ?_
    refine ex_goto (tgt := 57) dX5_init_92 (by decide) ?_
    refine ex_iload_n 0 (pc' := 58) dX5_init_57 rfl rfl rfl ?_
    refine ex_bipush (v := 6) (pc' := 60) dX5_init_58 bp_6 rfl ?_
    refine ex_icmpge (tgt := 95) (pc' := 63) dX5_init_60 (by decide) rfl (fun hc => ?_) (fun hc => absurd (by decide) hc)
    refine ex_aload_n 1 (pc' := 64) dX5_init_63 rfl rfl rfl ?_
    refine ex_getR (a' := 35) (pc' := 67) dX5_init_64 fl_X5_11 rfl rfl rfl rfl ?_
    refine ex_iload_n 0 (pc' := 68) dX5_init_67 rfl rfl rfl ?_
    refine ex_new (pc' := 71) dX5_init_68 cn_X5_9 ⟨Nat.le_of_ble_eq_true rfl, Nat.le_of_ble_eq_true rfl⟩ rfl ?_
    show Ex G mX5_init rmcX5_init (RetQ G none cX132 cI73 cL4 (32, 528)) (29, 508) cX125 cI68 cL4 71 [(1, .int 5), (0, .ref (gB G + 34))] [.ref (gB G + 63), .int 5, .ref (gB G + 35)]
    refine ex_dup (pc' := 72) dX5_init_71 rfl rfl ?_
    refine ex_callIN (rm' := rmcX9_init) (st := [.ref (gB G + 63), .int 5, .ref (gB G + 35)]) (pc' := 75) [] dX5_init_72 cl_X5_40 rfl (kc28_X9_init G) rfl rfl rfl (ROOM_of rfl) (Nat.le_of_ble_eq_true rfl) rfl ?_
    show Ex G mX5_init rmcX5_init (RetQ G none cX132 cI73 cL4 (32, 528)) (30, 520) cX127 cI69 cL4 75 [(1, .int 5), (0, .ref (gB G + 34))] [.ref (gB G + 63), .int 5, .ref (gB G + 35)]
    refine ex_aast (t := 4) (n := 6) (pc' := 76) dX5_init_75 rfl (by decide) (by decide) rfl (inb_in rfl) rfl ?_
    show Ex G mX5_init rmcX5_init (RetQ G none cX132 cI73 cL4 (32, 528)) (30, 520) cX128 cI69 cL4 76 [(1, .int 5), (0, .ref (gB G + 34))] []
    refine ex_aload_n 1 (pc' := 77) dX5_init_76 rfl rfl rfl ?_
    refine ex_getR (a' := 39) (pc' := 80) dX5_init_77 fl_X5_26 rfl rfl rfl rfl ?_
    refine ex_iload_n 0 (pc' := 81) dX5_init_80 rfl rfl rfl ?_
    refine ex_new (pc' := 84) dX5_init_81 cn_X5_24 ⟨Nat.le_of_ble_eq_true rfl, Nat.le_of_ble_eq_true rfl⟩ rfl ?_
    show Ex G mX5_init rmcX5_init (RetQ G none cX132 cI73 cL4 (32, 528)) (31, 522) cX129 cI70 cL4 84 [(1, .int 5), (0, .ref (gB G + 34))] [.ref (gB G + 65), .int 5, .ref (gB G + 39)]
    refine ex_dup (pc' := 85) dX5_init_84 rfl rfl ?_
    refine ex_callIN (rm' := rmcX0_init) (st := [.ref (gB G + 65), .int 5, .ref (gB G + 39)]) (pc' := 88) [] dX5_init_85 cl_X5_41 rfl (kc29_X0_init G) rfl rfl rfl (ROOM_of rfl) (Nat.le_of_ble_eq_true rfl) rfl ?_
    show Ex G mX5_init rmcX5_init (RetQ G none cX132 cI73 cL4 (32, 528)) (32, 528) cX131 cI72 cL4 88 [(1, .int 5), (0, .ref (gB G + 34))] [.ref (gB G + 65), .int 5, .ref (gB G + 39)]
    refine ex_aast (t := 5) (n := 6) (pc' := 89) dX5_init_88 rfl (by decide) (by decide) rfl (inb_in rfl) rfl ?_
    show Ex G mX5_init rmcX5_init (RetQ G none cX132 cI73 cL4 (32, 528)) (32, 528) cX132 cI72 cL4 89 [(1, .int 5), (0, .ref (gB G + 34))] []
    refine ex_iinc (v := 6) (lv' := [(1, .int 6), (0, .ref (gB G + 34))]) 0 (pc' := 92) dX5_init_89 rfl (by decide) (Nat.le_of_ble_eq_true rfl) rfl rfl ?_
    refine ex_goto (tgt := 57) dX5_init_92 (by decide) ?_
    refine ex_iload_n 0 (pc' := 58) dX5_init_57 rfl rfl rfl ?_
    refine ex_bipush (v := 6) (pc' := 60) dX5_init_58 bp_6 rfl ?_
    refine ex_icmpge (tgt := 95) (pc' := 63) dX5_init_60 (by decide) rfl (fun hc => absurd hc (by decide)) (fun hc => ?_)
    refine ex_aload_n 1 (pc' := 96) dX5_init_95 rfl rfl rfl ?_
    refine ex_getR (a' := 40) (pc' := 99) dX5_init_96 fl_X5_30 rfl rfl rfl rfl ?_
    refine ex_iconst (v := 1) (pc' := 100) dX5_init_99 ic_1 rfl ?_
    refine ex_callS_v (rm' := rmJ7_fill_53178) (st := []) (pc' := 103) [.ref (gB G + 40), .int 1] dX5_init_100 cl_X5_42 (k_J7_fill_53178 G (n0 := 36) rfl (fill_I (N := 37) (by decide) (by decide))) rfl rfl rfl (ROOM_of rfl) (Nat.le_of_ble_eq_true rfl) rfl rfl ?_
    show Ex G mX5_init rmcX5_init (RetQ G none cX132 cI73 cL4 (32, 528)) (32, 528) cX132 cI73 cL4 103 [(1, .int 6), (0, .ref (gB G + 34))] []
    exact ex_vret dX5_init_103 rfl rfl)
def cX133 : MX := (cX132.1, upF cX132.2.1 0 1 (some 34), cX132.2.2)
def cX134 : MX := (nwK cX133.1 67 (1, 1), nwF cX133.2.1 67, 68)
def cI74 : MI := nwI cI73 67
def cX135 : MX := (nwK cX134.1 68 (2, 10), cX134.2.1, 69)
def cI75 : MI := nwI cI74 68
def cX136 : MX := (cX135.1, upF cX135.2.1 67 0 (some 68), cX135.2.2)
def cX137 : MX := (nwK cX136.1 69 (2, 10), cX136.2.1, 70)
def cI76 : MI := nwI cI75 69
def cX138 : MX := (cX137.1, upF cX137.2.1 67 1 (some 69), cX137.2.2)
def cX139 : MX := (nwK cX138.1 70 (2, 10), cX138.2.1, 71)
def cI77 : MI := nwI cI76 70
def cX140 : MX := (cX139.1, upF cX139.2.1 67 2 (some 70), cX139.2.2)
def cX141 : MX := (nwK cX140.1 71 (2, 10), cX140.2.1, 72)
def cI78 : MI := nwI cI77 71
def cX142 : MX := (cX141.1, upF cX141.2.1 67 3 (some 71), cX141.2.2)
def rmcX1_init : RM := ((1, 20, 4, 40), true, none)
set_option maxRecDepth 100000 in
set_option maxHeartbeats 4000000 in
theorem kc30_X1_init (G : GX) : Con G mX1_init yX1_init rmcX1_init (fun B => [.ref (B + 67)]) cX134 cI74 cL4 none cX142 cI78 cL4 :=
  Con.of (by decide) rfl (fun _ => rfl) (fun B => Nat.le_of_ble_eq_true rfl) (fun G => by
    refine ex_aload_n 0 (pc' := 1) dX1_init_0 rfl rfl rfl ?_
    refine ex_objInit (pc' := 4) dX1_init_1 oi_X1 ⟨Nat.le_of_ble_eq_true rfl, Nat.le_of_ble_eq_true rfl⟩ rfl ?_
    refine ex_aload_n 0 (pc' := 5) dX1_init_4 rfl rfl rfl ?_
    refine ex_bipush (v := 10) (pc' := 7) dX1_init_5 bp_10 rfl ?_
    refine ex_newI (N := 10) (pc' := 9) dX1_init_7 acI (by decide) (by decide) (Nat.le_of_ble_eq_true rfl) ⟨Nat.le_of_ble_eq_true rfl, Nat.le_of_ble_eq_true rfl⟩ rfl ?_
    show Ex G mX1_init rmcX1_init (RetQ G none cX142 cI78 cL4 (4, 40)) (1, 10) cX135 cI75 cL4 9 [(0, .ref (gB G + 67))] [.ref (gB G + 68), .ref (gB G + 67)]
    refine ex_putFR (pc' := 12) dX1_init_9 fl_X1_11 rfl coX1 rfl rfl rfl rfl ?_
    show Ex G mX1_init rmcX1_init (RetQ G none cX142 cI78 cL4 (4, 40)) (1, 10) cX136 cI75 cL4 12 [(0, .ref (gB G + 67))] []
    refine ex_aload_n 0 (pc' := 13) dX1_init_12 rfl rfl rfl ?_
    refine ex_bipush (v := 10) (pc' := 15) dX1_init_13 bp_10 rfl ?_
    refine ex_newI (N := 10) (pc' := 17) dX1_init_15 acI (by decide) (by decide) (Nat.le_of_ble_eq_true rfl) ⟨Nat.le_of_ble_eq_true rfl, Nat.le_of_ble_eq_true rfl⟩ rfl ?_
    show Ex G mX1_init rmcX1_init (RetQ G none cX142 cI78 cL4 (4, 40)) (2, 20) cX137 cI76 cL4 17 [(0, .ref (gB G + 67))] [.ref (gB G + 69), .ref (gB G + 67)]
    refine ex_putFR (pc' := 20) dX1_init_17 fl_X1_15 rfl coX1 rfl rfl rfl rfl ?_
    show Ex G mX1_init rmcX1_init (RetQ G none cX142 cI78 cL4 (4, 40)) (2, 20) cX138 cI76 cL4 20 [(0, .ref (gB G + 67))] []
    refine ex_aload_n 0 (pc' := 21) dX1_init_20 rfl rfl rfl ?_
    refine ex_bipush (v := 10) (pc' := 23) dX1_init_21 bp_10 rfl ?_
    refine ex_newI (N := 10) (pc' := 25) dX1_init_23 acI (by decide) (by decide) (Nat.le_of_ble_eq_true rfl) ⟨Nat.le_of_ble_eq_true rfl, Nat.le_of_ble_eq_true rfl⟩ rfl ?_
    show Ex G mX1_init rmcX1_init (RetQ G none cX142 cI78 cL4 (4, 40)) (3, 30) cX139 cI77 cL4 25 [(0, .ref (gB G + 67))] [.ref (gB G + 70), .ref (gB G + 67)]
    refine ex_putFR (pc' := 28) dX1_init_25 fl_X1_18 rfl coX1 rfl rfl rfl rfl ?_
    show Ex G mX1_init rmcX1_init (RetQ G none cX142 cI78 cL4 (4, 40)) (3, 30) cX140 cI77 cL4 28 [(0, .ref (gB G + 67))] []
    refine ex_aload_n 0 (pc' := 29) dX1_init_28 rfl rfl rfl ?_
    refine ex_bipush (v := 10) (pc' := 31) dX1_init_29 bp_10 rfl ?_
    refine ex_newI (N := 10) (pc' := 33) dX1_init_31 acI (by decide) (by decide) (Nat.le_of_ble_eq_true rfl) ⟨Nat.le_of_ble_eq_true rfl, Nat.le_of_ble_eq_true rfl⟩ rfl ?_
    show Ex G mX1_init rmcX1_init (RetQ G none cX142 cI78 cL4 (4, 40)) (4, 40) cX141 cI78 cL4 33 [(0, .ref (gB G + 67))] [.ref (gB G + 71), .ref (gB G + 67)]
    refine ex_putFR (pc' := 36) dX1_init_33 fl_X1_21 rfl coX1 rfl rfl rfl rfl ?_
    show Ex G mX1_init rmcX1_init (RetQ G none cX142 cI78 cL4 (4, 40)) (4, 40) cX142 cI78 cL4 36 [(0, .ref (gB G + 67))] []
    exact ex_vret dX1_init_36 rfl rfl)
def cX143 : MX := (cX142.1, upF cX142.2.1 0 3 (some 67), cX142.2.2)
def cX144 : MX := (nwK cX143.1 72 (1, 8), nwF cX143.2.1 72, 73)
def cI79 : MI := nwI cI78 72
def cX145 : MX := (nwK cX144.1 73 (2, 80), cX144.2.1, 74)
def cI80 : MI := nwI cI79 73
def cX146 : MX := (cX145.1, upF cX145.2.1 72 0 (some 73), cX145.2.2)
def cX147 : MX := (nwK cX146.1 74 (2, 72), cX146.2.1, 75)
def cI81 : MI := nwI cI80 74
def cX148 : MX := (cX147.1, upF cX147.2.1 72 2 (some 74), cX147.2.2)
def cX149 : MX := (nwK cX148.1 75 (2, 5), cX148.2.1, 76)
def cI82 : MI := nwI cI81 75
def cX150 : MX := (cX149.1, upF cX149.2.1 72 3 (some 75), cX149.2.2)
def rmcX8_init : RM := ((1, 20, 3, 157), true, none)
set_option maxRecDepth 100000 in
set_option maxHeartbeats 4000000 in
theorem kc31_X8_init (G : GX) : Con G mX8_init yX8_init rmcX8_init (fun B => [.ref (B + 72)]) cX144 cI79 cL4 none cX150 cI82 cL4 :=
  Con.of (by decide) rfl (fun _ => rfl) (fun B => Nat.le_of_ble_eq_true rfl) (fun G => by
    refine ex_aload_n 0 (pc' := 1) dX8_init_0 rfl rfl rfl ?_
    refine ex_objInit (pc' := 4) dX8_init_1 oi_X8 ⟨Nat.le_of_ble_eq_true rfl, Nat.le_of_ble_eq_true rfl⟩ rfl ?_
    refine ex_aload_n 0 (pc' := 5) dX8_init_4 rfl rfl rfl ?_
    refine ex_bipush (v := 80) (pc' := 7) dX8_init_5 bp_80 rfl ?_
    refine ex_newI (N := 80) (pc' := 9) dX8_init_7 acI (by decide) (by decide) (Nat.le_of_ble_eq_true rfl) ⟨Nat.le_of_ble_eq_true rfl, Nat.le_of_ble_eq_true rfl⟩ rfl ?_
    show Ex G mX8_init rmcX8_init (RetQ G none cX150 cI82 cL4 (3, 157)) (1, 80) cX145 cI80 cL4 9 [(0, .ref (gB G + 72))] [.ref (gB G + 73), .ref (gB G + 72)]
    refine ex_putFR (pc' := 12) dX8_init_9 fl_X8_11 rfl coX8 rfl rfl rfl rfl ?_
    show Ex G mX8_init rmcX8_init (RetQ G none cX150 cI82 cL4 (3, 157)) (1, 80) cX146 cI80 cL4 12 [(0, .ref (gB G + 72))] []
    refine ex_aload_n 0 (pc' := 13) dX8_init_12 rfl rfl rfl ?_
    refine ex_bipush (v := 72) (pc' := 15) dX8_init_13 bp_72 rfl ?_
    refine ex_newI (N := 72) (pc' := 17) dX8_init_15 acI (by decide) (by decide) (Nat.le_of_ble_eq_true rfl) ⟨Nat.le_of_ble_eq_true rfl, Nat.le_of_ble_eq_true rfl⟩ rfl ?_
    show Ex G mX8_init rmcX8_init (RetQ G none cX150 cI82 cL4 (3, 157)) (2, 152) cX147 cI81 cL4 17 [(0, .ref (gB G + 72))] [.ref (gB G + 74), .ref (gB G + 72)]
    refine ex_putFR (pc' := 20) dX8_init_17 fl_X8_15 rfl coX8 rfl rfl rfl rfl ?_
    show Ex G mX8_init rmcX8_init (RetQ G none cX150 cI82 cL4 (3, 157)) (2, 152) cX148 cI81 cL4 20 [(0, .ref (gB G + 72))] []
    refine ex_aload_n 0 (pc' := 21) dX8_init_20 rfl rfl rfl ?_
    refine ex_iconst (v := 5) (pc' := 22) dX8_init_21 ic_5 rfl ?_
    refine ex_newI (N := 5) (pc' := 24) dX8_init_22 acI (by decide) (by decide) (Nat.le_of_ble_eq_true rfl) ⟨Nat.le_of_ble_eq_true rfl, Nat.le_of_ble_eq_true rfl⟩ rfl ?_
    show Ex G mX8_init rmcX8_init (RetQ G none cX150 cI82 cL4 (3, 157)) (3, 157) cX149 cI82 cL4 24 [(0, .ref (gB G + 72))] [.ref (gB G + 75), .ref (gB G + 72)]
    refine ex_putFR (pc' := 27) dX8_init_24 fl_X8_18 rfl coX8 rfl rfl rfl rfl ?_
    show Ex G mX8_init rmcX8_init (RetQ G none cX150 cI82 cL4 (3, 157)) (3, 157) cX150 cI82 cL4 27 [(0, .ref (gB G + 72))] []
    exact ex_vret dX8_init_27 rfl rfl)
def cX151 : MX := (cX150.1, upF cX150.2.1 0 4 (some 72), cX150.2.2)
def cX152 : MX := (nwK cX151.1 76 (1, 3), nwF cX151.2.1 76, 77)
def cI83 : MI := nwI cI82 76
def cX153 : MX := (nwK cX152.1 77 (2, 12), cX152.2.1, 78)
def cI84 : MI := nwI cI83 77
def cX154 : MX := (cX153.1, upF cX153.2.1 76 0 (some 77), cX153.2.2)
def rmcX3_init : RM := ((1, 20, 1, 12), true, none)
set_option maxRecDepth 100000 in
set_option maxHeartbeats 4000000 in
theorem kc32_X3_init (G : GX) : Con G mX3_init yX3_init rmcX3_init (fun B => [.ref (B + 76)]) cX152 cI83 cL4 none cX154 cI84 cL4 :=
  Con.of (by decide) rfl (fun _ => rfl) (fun B => Nat.le_of_ble_eq_true rfl) (fun G => by
    refine ex_aload_n 0 (pc' := 1) dX3_init_0 rfl rfl rfl ?_
    refine ex_objInit (pc' := 4) dX3_init_1 oi_X3 ⟨Nat.le_of_ble_eq_true rfl, Nat.le_of_ble_eq_true rfl⟩ rfl ?_
    refine ex_aload_n 0 (pc' := 5) dX3_init_4 rfl rfl rfl ?_
    refine ex_bipush (v := 12) (pc' := 7) dX3_init_5 bp_12 rfl ?_
    refine ex_newI (N := 12) (pc' := 9) dX3_init_7 acI (by decide) (by decide) (Nat.le_of_ble_eq_true rfl) ⟨Nat.le_of_ble_eq_true rfl, Nat.le_of_ble_eq_true rfl⟩ rfl ?_
    show Ex G mX3_init rmcX3_init (RetQ G none cX154 cI84 cL4 (1, 12)) (1, 12) cX153 cI84 cL4 9 [(0, .ref (gB G + 76))] [.ref (gB G + 77), .ref (gB G + 76)]
    refine ex_putFR (pc' := 12) dX3_init_9 fl_X3_9 rfl coX3 rfl rfl rfl rfl ?_
    show Ex G mX3_init rmcX3_init (RetQ G none cX154 cI84 cL4 (1, 12)) (1, 12) cX154 cI84 cL4 12 [(0, .ref (gB G + 76))] []
    exact ex_vret dX3_init_12 rfl rfl)
def cX155 : MX := (cX154.1, upF cX154.2.1 0 5 (some 76), cX154.2.2)
def cX156 : MX := (nwK cX155.1 78 (6, 6), nwF cX155.2.1 78, 79)
def cX157 : MX := (cX156.1, upF cX156.2.1 0 6 (some 78), cX156.2.2)
def cX158 : MX := (nwK cX157.1 79 (1, 7), nwF cX157.2.1 79, 80)
def cI85 : MI := nwI cI84 79
def cI86 : MI := upI cI85 79 0 (-1)
def cX159 : MX := (nwK cX158.1 80 (3, 60), cX158.2.1, 81)
def cL5 : ML := nwL cL4 80
def cX160 : MX := (cX159.1, upF cX159.2.1 79 2 (some 80), cX159.2.2)
def rmcX7_init : RM := ((1, 20, 1, 60), true, none)
set_option maxRecDepth 100000 in
set_option maxHeartbeats 4000000 in
theorem kc33_X7_init (G : GX) : Con G mX7_init yX7_init rmcX7_init (fun B => [.ref (B + 79)]) cX158 cI85 cL4 none cX160 cI86 cL5 :=
  Con.of (by decide) rfl (fun _ => rfl) (fun B => Nat.le_of_ble_eq_true rfl) (fun G => by
    refine ex_aload_n 0 (pc' := 1) dX7_init_0 rfl rfl rfl ?_
    refine ex_objInit (pc' := 4) dX7_init_1 oi_X7 ⟨Nat.le_of_ble_eq_true rfl, Nat.le_of_ble_eq_true rfl⟩ rfl ?_
    refine ex_aload_n 0 (pc' := 5) dX7_init_4 rfl rfl rfl ?_
    refine ex_iconst (v := (-1)) (pc' := 6) dX7_init_5 ic_m1 rfl ?_
    refine ex_putI (pc' := 9) dX7_init_6 fl_X7_9 rfl rfl rfl ?_
    show Ex G mX7_init rmcX7_init (RetQ G none cX160 cI86 cL5 (1, 60)) (0, 0) cX158 cI86 cL4 9 [(0, .ref (gB G + 79))] []
    refine ex_aload_n 0 (pc' := 10) dX7_init_9 rfl rfl rfl ?_
    refine ex_bipush (v := 60) (pc' := 12) dX7_init_10 bp_60 rfl ?_
    refine ex_newL (N := 60) (pc' := 14) dX7_init_12 acL (by decide) (by decide) (Nat.le_of_ble_eq_true rfl) ⟨Nat.le_of_ble_eq_true rfl, Nat.le_of_ble_eq_true rfl⟩ rfl ?_
    show Ex G mX7_init rmcX7_init (RetQ G none cX160 cI86 cL5 (1, 60)) (1, 60) cX159 cI86 cL5 14 [(0, .ref (gB G + 79))] [.ref (gB G + 80), .ref (gB G + 79)]
    refine ex_putFR (pc' := 17) dX7_init_14 fl_X7_15 rfl coX7 rfl rfl rfl rfl ?_
    show Ex G mX7_init rmcX7_init (RetQ G none cX160 cI86 cL5 (1, 60)) (1, 60) cX160 cI86 cL5 17 [(0, .ref (gB G + 79))] []
    exact ex_vret dX7_init_17 rfl rfl)
def cX161 : MX := (cX160.1, upF cX160.2.1 78 0 (some 79), cX160.2.2)
def cX162 : MX := (nwK cX161.1 81 (1, 7), nwF cX161.2.1 81, 82)
def cI87 : MI := nwI cI86 81
def cI88 : MI := upI cI87 81 0 (-1)
def cX163 : MX := (nwK cX162.1 82 (3, 60), cX162.2.1, 83)
def cL6 : ML := nwL cL5 82
def cX164 : MX := (cX163.1, upF cX163.2.1 81 2 (some 82), cX163.2.2)
set_option maxRecDepth 100000 in
set_option maxHeartbeats 4000000 in
theorem kc34_X7_init (G : GX) : Con G mX7_init yX7_init rmcX7_init (fun B => [.ref (B + 81)]) cX162 cI87 cL5 none cX164 cI88 cL6 :=
  Con.of (by decide) rfl (fun _ => rfl) (fun B => Nat.le_of_ble_eq_true rfl) (fun G => by
    refine ex_aload_n 0 (pc' := 1) dX7_init_0 rfl rfl rfl ?_
    refine ex_objInit (pc' := 4) dX7_init_1 oi_X7 ⟨Nat.le_of_ble_eq_true rfl, Nat.le_of_ble_eq_true rfl⟩ rfl ?_
    refine ex_aload_n 0 (pc' := 5) dX7_init_4 rfl rfl rfl ?_
    refine ex_iconst (v := (-1)) (pc' := 6) dX7_init_5 ic_m1 rfl ?_
    refine ex_putI (pc' := 9) dX7_init_6 fl_X7_9 rfl rfl rfl ?_
    show Ex G mX7_init rmcX7_init (RetQ G none cX164 cI88 cL6 (1, 60)) (0, 0) cX162 cI88 cL5 9 [(0, .ref (gB G + 81))] []
    refine ex_aload_n 0 (pc' := 10) dX7_init_9 rfl rfl rfl ?_
    refine ex_bipush (v := 60) (pc' := 12) dX7_init_10 bp_60 rfl ?_
    refine ex_newL (N := 60) (pc' := 14) dX7_init_12 acL (by decide) (by decide) (Nat.le_of_ble_eq_true rfl) ⟨Nat.le_of_ble_eq_true rfl, Nat.le_of_ble_eq_true rfl⟩ rfl ?_
    show Ex G mX7_init rmcX7_init (RetQ G none cX164 cI88 cL6 (1, 60)) (1, 60) cX163 cI88 cL6 14 [(0, .ref (gB G + 81))] [.ref (gB G + 82), .ref (gB G + 81)]
    refine ex_putFR (pc' := 17) dX7_init_14 fl_X7_15 rfl coX7 rfl rfl rfl rfl ?_
    show Ex G mX7_init rmcX7_init (RetQ G none cX164 cI88 cL6 (1, 60)) (1, 60) cX164 cI88 cL6 17 [(0, .ref (gB G + 81))] []
    exact ex_vret dX7_init_17 rfl rfl)
def cX165 : MX := (cX164.1, upF cX164.2.1 78 1 (some 81), cX164.2.2)
def cX166 : MX := (nwK cX165.1 83 (1, 7), nwF cX165.2.1 83, 84)
def cI89 : MI := nwI cI88 83
def cI90 : MI := upI cI89 83 0 (-1)
def cX167 : MX := (nwK cX166.1 84 (3, 60), cX166.2.1, 85)
def cL7 : ML := nwL cL6 84
def cX168 : MX := (cX167.1, upF cX167.2.1 83 2 (some 84), cX167.2.2)
set_option maxRecDepth 100000 in
set_option maxHeartbeats 4000000 in
theorem kc35_X7_init (G : GX) : Con G mX7_init yX7_init rmcX7_init (fun B => [.ref (B + 83)]) cX166 cI89 cL6 none cX168 cI90 cL7 :=
  Con.of (by decide) rfl (fun _ => rfl) (fun B => Nat.le_of_ble_eq_true rfl) (fun G => by
    refine ex_aload_n 0 (pc' := 1) dX7_init_0 rfl rfl rfl ?_
    refine ex_objInit (pc' := 4) dX7_init_1 oi_X7 ⟨Nat.le_of_ble_eq_true rfl, Nat.le_of_ble_eq_true rfl⟩ rfl ?_
    refine ex_aload_n 0 (pc' := 5) dX7_init_4 rfl rfl rfl ?_
    refine ex_iconst (v := (-1)) (pc' := 6) dX7_init_5 ic_m1 rfl ?_
    refine ex_putI (pc' := 9) dX7_init_6 fl_X7_9 rfl rfl rfl ?_
    show Ex G mX7_init rmcX7_init (RetQ G none cX168 cI90 cL7 (1, 60)) (0, 0) cX166 cI90 cL6 9 [(0, .ref (gB G + 83))] []
    refine ex_aload_n 0 (pc' := 10) dX7_init_9 rfl rfl rfl ?_
    refine ex_bipush (v := 60) (pc' := 12) dX7_init_10 bp_60 rfl ?_
    refine ex_newL (N := 60) (pc' := 14) dX7_init_12 acL (by decide) (by decide) (Nat.le_of_ble_eq_true rfl) ⟨Nat.le_of_ble_eq_true rfl, Nat.le_of_ble_eq_true rfl⟩ rfl ?_
    show Ex G mX7_init rmcX7_init (RetQ G none cX168 cI90 cL7 (1, 60)) (1, 60) cX167 cI90 cL7 14 [(0, .ref (gB G + 83))] [.ref (gB G + 84), .ref (gB G + 83)]
    refine ex_putFR (pc' := 17) dX7_init_14 fl_X7_15 rfl coX7 rfl rfl rfl rfl ?_
    show Ex G mX7_init rmcX7_init (RetQ G none cX168 cI90 cL7 (1, 60)) (1, 60) cX168 cI90 cL7 17 [(0, .ref (gB G + 83))] []
    exact ex_vret dX7_init_17 rfl rfl)
def cX169 : MX := (cX168.1, upF cX168.2.1 78 2 (some 83), cX168.2.2)
def cX170 : MX := (nwK cX169.1 85 (1, 7), nwF cX169.2.1 85, 86)
def cI91 : MI := nwI cI90 85
def cI92 : MI := upI cI91 85 0 (-1)
def cX171 : MX := (nwK cX170.1 86 (3, 60), cX170.2.1, 87)
def cL8 : ML := nwL cL7 86
def cX172 : MX := (cX171.1, upF cX171.2.1 85 2 (some 86), cX171.2.2)
set_option maxRecDepth 100000 in
set_option maxHeartbeats 4000000 in
theorem kc36_X7_init (G : GX) : Con G mX7_init yX7_init rmcX7_init (fun B => [.ref (B + 85)]) cX170 cI91 cL7 none cX172 cI92 cL8 :=
  Con.of (by decide) rfl (fun _ => rfl) (fun B => Nat.le_of_ble_eq_true rfl) (fun G => by
    refine ex_aload_n 0 (pc' := 1) dX7_init_0 rfl rfl rfl ?_
    refine ex_objInit (pc' := 4) dX7_init_1 oi_X7 ⟨Nat.le_of_ble_eq_true rfl, Nat.le_of_ble_eq_true rfl⟩ rfl ?_
    refine ex_aload_n 0 (pc' := 5) dX7_init_4 rfl rfl rfl ?_
    refine ex_iconst (v := (-1)) (pc' := 6) dX7_init_5 ic_m1 rfl ?_
    refine ex_putI (pc' := 9) dX7_init_6 fl_X7_9 rfl rfl rfl ?_
    show Ex G mX7_init rmcX7_init (RetQ G none cX172 cI92 cL8 (1, 60)) (0, 0) cX170 cI92 cL7 9 [(0, .ref (gB G + 85))] []
    refine ex_aload_n 0 (pc' := 10) dX7_init_9 rfl rfl rfl ?_
    refine ex_bipush (v := 60) (pc' := 12) dX7_init_10 bp_60 rfl ?_
    refine ex_newL (N := 60) (pc' := 14) dX7_init_12 acL (by decide) (by decide) (Nat.le_of_ble_eq_true rfl) ⟨Nat.le_of_ble_eq_true rfl, Nat.le_of_ble_eq_true rfl⟩ rfl ?_
    show Ex G mX7_init rmcX7_init (RetQ G none cX172 cI92 cL8 (1, 60)) (1, 60) cX171 cI92 cL8 14 [(0, .ref (gB G + 85))] [.ref (gB G + 86), .ref (gB G + 85)]
    refine ex_putFR (pc' := 17) dX7_init_14 fl_X7_15 rfl coX7 rfl rfl rfl rfl ?_
    show Ex G mX7_init rmcX7_init (RetQ G none cX172 cI92 cL8 (1, 60)) (1, 60) cX172 cI92 cL8 17 [(0, .ref (gB G + 85))] []
    exact ex_vret dX7_init_17 rfl rfl)
def cX173 : MX := (cX172.1, upF cX172.2.1 78 3 (some 85), cX172.2.2)
def cX174 : MX := (nwK cX173.1 87 (1, 7), nwF cX173.2.1 87, 88)
def cI93 : MI := nwI cI92 87
def cI94 : MI := upI cI93 87 0 (-1)
def cX175 : MX := (nwK cX174.1 88 (3, 60), cX174.2.1, 89)
def cL9 : ML := nwL cL8 88
def cX176 : MX := (cX175.1, upF cX175.2.1 87 2 (some 88), cX175.2.2)
set_option maxRecDepth 100000 in
set_option maxHeartbeats 4000000 in
theorem kc37_X7_init (G : GX) : Con G mX7_init yX7_init rmcX7_init (fun B => [.ref (B + 87)]) cX174 cI93 cL8 none cX176 cI94 cL9 :=
  Con.of (by decide) rfl (fun _ => rfl) (fun B => Nat.le_of_ble_eq_true rfl) (fun G => by
    refine ex_aload_n 0 (pc' := 1) dX7_init_0 rfl rfl rfl ?_
    refine ex_objInit (pc' := 4) dX7_init_1 oi_X7 ⟨Nat.le_of_ble_eq_true rfl, Nat.le_of_ble_eq_true rfl⟩ rfl ?_
    refine ex_aload_n 0 (pc' := 5) dX7_init_4 rfl rfl rfl ?_
    refine ex_iconst (v := (-1)) (pc' := 6) dX7_init_5 ic_m1 rfl ?_
    refine ex_putI (pc' := 9) dX7_init_6 fl_X7_9 rfl rfl rfl ?_
    show Ex G mX7_init rmcX7_init (RetQ G none cX176 cI94 cL9 (1, 60)) (0, 0) cX174 cI94 cL8 9 [(0, .ref (gB G + 87))] []
    refine ex_aload_n 0 (pc' := 10) dX7_init_9 rfl rfl rfl ?_
    refine ex_bipush (v := 60) (pc' := 12) dX7_init_10 bp_60 rfl ?_
    refine ex_newL (N := 60) (pc' := 14) dX7_init_12 acL (by decide) (by decide) (Nat.le_of_ble_eq_true rfl) ⟨Nat.le_of_ble_eq_true rfl, Nat.le_of_ble_eq_true rfl⟩ rfl ?_
    show Ex G mX7_init rmcX7_init (RetQ G none cX176 cI94 cL9 (1, 60)) (1, 60) cX175 cI94 cL9 14 [(0, .ref (gB G + 87))] [.ref (gB G + 88), .ref (gB G + 87)]
    refine ex_putFR (pc' := 17) dX7_init_14 fl_X7_15 rfl coX7 rfl rfl rfl rfl ?_
    show Ex G mX7_init rmcX7_init (RetQ G none cX176 cI94 cL9 (1, 60)) (1, 60) cX176 cI94 cL9 17 [(0, .ref (gB G + 87))] []
    exact ex_vret dX7_init_17 rfl rfl)
def cX177 : MX := (cX176.1, upF cX176.2.1 78 4 (some 87), cX176.2.2)
def cX178 : MX := (nwK cX177.1 89 (1, 7), nwF cX177.2.1 89, 90)
def cI95 : MI := nwI cI94 89
def cI96 : MI := upI cI95 89 0 (-1)
def cX179 : MX := (nwK cX178.1 90 (3, 60), cX178.2.1, 91)
def cL10 : ML := nwL cL9 90
def cX180 : MX := (cX179.1, upF cX179.2.1 89 2 (some 90), cX179.2.2)
set_option maxRecDepth 100000 in
set_option maxHeartbeats 4000000 in
theorem kc38_X7_init (G : GX) : Con G mX7_init yX7_init rmcX7_init (fun B => [.ref (B + 89)]) cX178 cI95 cL9 none cX180 cI96 cL10 :=
  Con.of (by decide) rfl (fun _ => rfl) (fun B => Nat.le_of_ble_eq_true rfl) (fun G => by
    refine ex_aload_n 0 (pc' := 1) dX7_init_0 rfl rfl rfl ?_
    refine ex_objInit (pc' := 4) dX7_init_1 oi_X7 ⟨Nat.le_of_ble_eq_true rfl, Nat.le_of_ble_eq_true rfl⟩ rfl ?_
    refine ex_aload_n 0 (pc' := 5) dX7_init_4 rfl rfl rfl ?_
    refine ex_iconst (v := (-1)) (pc' := 6) dX7_init_5 ic_m1 rfl ?_
    refine ex_putI (pc' := 9) dX7_init_6 fl_X7_9 rfl rfl rfl ?_
    show Ex G mX7_init rmcX7_init (RetQ G none cX180 cI96 cL10 (1, 60)) (0, 0) cX178 cI96 cL9 9 [(0, .ref (gB G + 89))] []
    refine ex_aload_n 0 (pc' := 10) dX7_init_9 rfl rfl rfl ?_
    refine ex_bipush (v := 60) (pc' := 12) dX7_init_10 bp_60 rfl ?_
    refine ex_newL (N := 60) (pc' := 14) dX7_init_12 acL (by decide) (by decide) (Nat.le_of_ble_eq_true rfl) ⟨Nat.le_of_ble_eq_true rfl, Nat.le_of_ble_eq_true rfl⟩ rfl ?_
    show Ex G mX7_init rmcX7_init (RetQ G none cX180 cI96 cL10 (1, 60)) (1, 60) cX179 cI96 cL10 14 [(0, .ref (gB G + 89))] [.ref (gB G + 90), .ref (gB G + 89)]
    refine ex_putFR (pc' := 17) dX7_init_14 fl_X7_15 rfl coX7 rfl rfl rfl rfl ?_
    show Ex G mX7_init rmcX7_init (RetQ G none cX180 cI96 cL10 (1, 60)) (1, 60) cX180 cI96 cL10 17 [(0, .ref (gB G + 89))] []
    exact ex_vret dX7_init_17 rfl rfl)
def cX181 : MX := (cX180.1, upF cX180.2.1 78 5 (some 89), cX180.2.2)
def cX182 : MX := (nwK cX181.1 91 (1, 4), nwF cX181.2.1 91, 92)
def cI97 : MI := nwI cI96 91
def cX183 : MX := (nwK cX182.1 92 (2, 64), cX182.2.1, 93)
def cI98 : MI := nwI cI97 92
def cX184 : MX := (cX183.1, upF cX183.2.1 91 0 (some 92), cX183.2.2)
def cX185 : MX := (nwK cX184.1 93 (2, 7), cX184.2.1, 94)
def cI99 : MI := nwI cI98 93
def cX186 : MX := (cX185.1, upF cX185.2.1 91 1 (some 93), cX185.2.2)
def cX187 : MX := (nwK cX186.1 94 (2, 448), cX186.2.1, 95)
def cI100 : MI := nwI cI99 94
def cX188 : MX := (cX187.1, upF cX187.2.1 91 2 (some 94), cX187.2.2)
def cX189 : MX := (nwK cX188.1 95 (2, 625), cX188.2.1, 96)
def cI101 : MI := nwI cI100 95
def cX190 : MX := (cX189.1, upF cX189.2.1 91 3 (some 95), cX189.2.2)
def cX191 : MX := (nwK cX190.1 96 (2, 37), cX190.2.1, 97)
def cI102 : MI := nwI cI101 96
def cX192 : MX := (cX191.1, upF cX191.2.1 91 4 (some 96), cX191.2.2)
def rmcX4_init : RM := ((1, 20, 5, 1181), true, none)
set_option maxRecDepth 100000 in
set_option maxHeartbeats 4000000 in
theorem kc39_X4_init (G : GX) : Con G mX4_init yX4_init rmcX4_init (fun B => [.ref (B + 91)]) cX182 cI97 cL10 none cX192 cI102 cL10 :=
  Con.of (by decide) rfl (fun _ => rfl) (fun B => Nat.le_of_ble_eq_true rfl) (fun G => by
    refine ex_aload_n 0 (pc' := 1) dX4_init_0 rfl rfl rfl ?_
    refine ex_objInit (pc' := 4) dX4_init_1 oi_X4 ⟨Nat.le_of_ble_eq_true rfl, Nat.le_of_ble_eq_true rfl⟩ rfl ?_
    refine ex_aload_n 0 (pc' := 5) dX4_init_4 rfl rfl rfl ?_
    refine ex_bipush (v := 64) (pc' := 7) dX4_init_5 bp_64 rfl ?_
    refine ex_newI (N := 64) (pc' := 9) dX4_init_7 acI (by decide) (by decide) (Nat.le_of_ble_eq_true rfl) ⟨Nat.le_of_ble_eq_true rfl, Nat.le_of_ble_eq_true rfl⟩ rfl ?_
    show Ex G mX4_init rmcX4_init (RetQ G none cX192 cI102 cL10 (5, 1181)) (1, 64) cX183 cI98 cL10 9 [(0, .ref (gB G + 91))] [.ref (gB G + 92), .ref (gB G + 91)]
    refine ex_putFR (pc' := 12) dX4_init_9 fl_X4_11 rfl coX4 rfl rfl rfl rfl ?_
    show Ex G mX4_init rmcX4_init (RetQ G none cX192 cI102 cL10 (5, 1181)) (1, 64) cX184 cI98 cL10 12 [(0, .ref (gB G + 91))] []
    refine ex_aload_n 0 (pc' := 13) dX4_init_12 rfl rfl rfl ?_
    refine ex_bipush (v := 7) (pc' := 15) dX4_init_13 bp_7 rfl ?_
    refine ex_newI (N := 7) (pc' := 17) dX4_init_15 acI (by decide) (by decide) (Nat.le_of_ble_eq_true rfl) ⟨Nat.le_of_ble_eq_true rfl, Nat.le_of_ble_eq_true rfl⟩ rfl ?_
    show Ex G mX4_init rmcX4_init (RetQ G none cX192 cI102 cL10 (5, 1181)) (2, 71) cX185 cI99 cL10 17 [(0, .ref (gB G + 91))] [.ref (gB G + 93), .ref (gB G + 91)]
    refine ex_putFR (pc' := 20) dX4_init_17 fl_X4_15 rfl coX4 rfl rfl rfl rfl ?_
    show Ex G mX4_init rmcX4_init (RetQ G none cX192 cI102 cL10 (5, 1181)) (2, 71) cX186 cI99 cL10 20 [(0, .ref (gB G + 91))] []
    refine ex_aload_n 0 (pc' := 21) dX4_init_20 rfl rfl rfl ?_
    refine ex_sipush (v := 448) (pc' := 24) dX4_init_21 sp_448 rfl ?_
    refine ex_newI (N := 448) (pc' := 26) dX4_init_24 acI (by decide) (by decide) (Nat.le_of_ble_eq_true rfl) ⟨Nat.le_of_ble_eq_true rfl, Nat.le_of_ble_eq_true rfl⟩ rfl ?_
    show Ex G mX4_init rmcX4_init (RetQ G none cX192 cI102 cL10 (5, 1181)) (3, 519) cX187 cI100 cL10 26 [(0, .ref (gB G + 91))] [.ref (gB G + 94), .ref (gB G + 91)]
    refine ex_putFR (pc' := 29) dX4_init_26 fl_X4_18 rfl coX4 rfl rfl rfl rfl ?_
    show Ex G mX4_init rmcX4_init (RetQ G none cX192 cI102 cL10 (5, 1181)) (3, 519) cX188 cI100 cL10 29 [(0, .ref (gB G + 91))] []
    refine ex_aload_n 0 (pc' := 30) dX4_init_29 rfl rfl rfl ?_
    refine ex_sipush (v := 625) (pc' := 33) dX4_init_30 sp_625 rfl ?_
    refine ex_newI (N := 625) (pc' := 35) dX4_init_33 acI (by decide) (by decide) (Nat.le_of_ble_eq_true rfl) ⟨Nat.le_of_ble_eq_true rfl, Nat.le_of_ble_eq_true rfl⟩ rfl ?_
    show Ex G mX4_init rmcX4_init (RetQ G none cX192 cI102 cL10 (5, 1181)) (4, 1144) cX189 cI101 cL10 35 [(0, .ref (gB G + 91))] [.ref (gB G + 95), .ref (gB G + 91)]
    refine ex_putFR (pc' := 38) dX4_init_35 fl_X4_21 rfl coX4 rfl rfl rfl rfl ?_
    show Ex G mX4_init rmcX4_init (RetQ G none cX192 cI102 cL10 (5, 1181)) (4, 1144) cX190 cI101 cL10 38 [(0, .ref (gB G + 91))] []
    refine ex_aload_n 0 (pc' := 39) dX4_init_38 rfl rfl rfl ?_
    refine ex_bipush (v := 37) (pc' := 41) dX4_init_39 bp_37 rfl ?_
    refine ex_newI (N := 37) (pc' := 43) dX4_init_41 acI (by decide) (by decide) (Nat.le_of_ble_eq_true rfl) ⟨Nat.le_of_ble_eq_true rfl, Nat.le_of_ble_eq_true rfl⟩ rfl ?_
    show Ex G mX4_init rmcX4_init (RetQ G none cX192 cI102 cL10 (5, 1181)) (5, 1181) cX191 cI102 cL10 43 [(0, .ref (gB G + 91))] [.ref (gB G + 96), .ref (gB G + 91)]
    refine ex_putFR (pc' := 46) dX4_init_43 fl_X4_24 rfl coX4 rfl rfl rfl rfl ?_
    show Ex G mX4_init rmcX4_init (RetQ G none cX192 cI102 cL10 (5, 1181)) (5, 1181) cX192 cI102 cL10 46 [(0, .ref (gB G + 91))] []
    exact ex_vret dX4_init_46 rfl rfl)
def cX193 : MX := (cX192.1, upF cX192.2.1 0 7 (some 91), cX192.2.2)
def cX194 : MX := (nwK cX193.1 97 (7, 7), nwF cX193.2.1 97, 98)
def cX195 : MX := (cX194.1, upF cX194.2.1 0 8 (some 97), cX194.2.2)
def cX196 : MX := (nwK cX195.1 98 (3, 13), cX195.2.1, 99)
def cL11 : ML := nwL cL10 98
def cX197 : MX := (cX196.1, upF cX196.2.1 0 9 (some 98), cX196.2.2)
def rmcX10_init : RM := ((3, 61, 98, 2880), true, none)
set_option maxRecDepth 100000 in
set_option maxHeartbeats 4000000 in
theorem kc1_X10_init (G : GX) : Con G mX10_init yX10_init rmcX10_init (fun B => [.ref (B + 0)]) cX1 cI1 cL0 none cX197 cI102 cL11 :=
  Con.of (by decide) rfl (fun _ => rfl) (fun B => Nat.le_of_ble_eq_true rfl) (fun G => by
    refine ex_aload_n 0 (pc' := 1) dX10_init_0 rfl rfl rfl ?_
    refine ex_objInit (pc' := 4) dX10_init_1 oi_X10 ⟨Nat.le_of_ble_eq_true rfl, Nat.le_of_ble_eq_true rfl⟩ rfl ?_
    refine ex_aload_n 0 (pc' := 5) dX10_init_4 rfl rfl rfl ?_
    refine ex_new (pc' := 8) dX10_init_5 cn_X10_9 ⟨Nat.le_of_ble_eq_true rfl, Nat.le_of_ble_eq_true rfl⟩ rfl ?_
    show Ex G mX10_init rmcX10_init (RetQ G none cX197 cI102 cL11 (98, 2880)) (1, 7) cX2 cI2 cL0 8 [(0, .ref (gB G + 0))] [.ref (gB G + 1), .ref (gB G + 0)]
    refine ex_dup (pc' := 9) dX10_init_8 rfl rfl ?_
    refine ex_callI (rm' := rmcX5_init) (st := [.ref (gB G + 1), .ref (gB G + 0)]) (pc' := 12) [] dX10_init_9 cl_X10_11 rfl (kc2_X5_init G) rfl rfl rfl (ROOM_of rfl) (Nat.le_of_ble_eq_true rfl) rfl ?_
    show Ex G mX10_init rmcX10_init (RetQ G none cX197 cI102 cL11 (98, 2880)) (33, 535) cX66 cI37 cL2 12 [(0, .ref (gB G + 0))] [.ref (gB G + 1), .ref (gB G + 0)]
    refine ex_putFR (pc' := 15) dX10_init_12 fl_X10_12 rfl coX10 rfl rfl rfl rfl ?_
    show Ex G mX10_init rmcX10_init (RetQ G none cX197 cI102 cL11 (98, 2880)) (33, 535) cX67 cI37 cL2 15 [(0, .ref (gB G + 0))] []
    refine ex_aload_n 0 (pc' := 16) dX10_init_15 rfl rfl rfl ?_
    refine ex_new (pc' := 19) dX10_init_16 cn_X10_9 ⟨Nat.le_of_ble_eq_true rfl, Nat.le_of_ble_eq_true rfl⟩ rfl ?_
    show Ex G mX10_init rmcX10_init (RetQ G none cX197 cI102 cL11 (98, 2880)) (34, 542) cX68 cI38 cL2 19 [(0, .ref (gB G + 0))] [.ref (gB G + 34), .ref (gB G + 0)]
    refine ex_dup (pc' := 20) dX10_init_19 rfl rfl ?_
    refine ex_callI (rm' := rmcX5_init) (st := [.ref (gB G + 34), .ref (gB G + 0)]) (pc' := 23) [] dX10_init_20 cl_X10_11 rfl (kc16_X5_init G) rfl rfl rfl (ROOM_of rfl) (Nat.le_of_ble_eq_true rfl) rfl ?_
    show Ex G mX10_init rmcX10_init (RetQ G none cX197 cI102 cL11 (98, 2880)) (66, 1070) cX132 cI73 cL4 23 [(0, .ref (gB G + 0))] [.ref (gB G + 34), .ref (gB G + 0)]
    refine ex_putFR (pc' := 26) dX10_init_23 fl_X10_18 rfl coX10 rfl rfl rfl rfl ?_
    show Ex G mX10_init rmcX10_init (RetQ G none cX197 cI102 cL11 (98, 2880)) (66, 1070) cX133 cI73 cL4 26 [(0, .ref (gB G + 0))] []
    refine ex_aload_n 0 (pc' := 27) dX10_init_26 rfl rfl rfl ?_
    refine ex_new (pc' := 30) dX10_init_27 cn_X10_21 ⟨Nat.le_of_ble_eq_true rfl, Nat.le_of_ble_eq_true rfl⟩ rfl ?_
    show Ex G mX10_init rmcX10_init (RetQ G none cX197 cI102 cL11 (98, 2880)) (67, 1075) cX134 cI74 cL4 30 [(0, .ref (gB G + 0))] [.ref (gB G + 67), .ref (gB G + 0)]
    refine ex_dup (pc' := 31) dX10_init_30 rfl rfl ?_
    refine ex_callIN (rm' := rmcX1_init) (st := [.ref (gB G + 67), .ref (gB G + 0)]) (pc' := 34) [] dX10_init_31 cl_X10_23 rfl (kc30_X1_init G) rfl rfl rfl (ROOM_of rfl) (Nat.le_of_ble_eq_true rfl) rfl ?_
    show Ex G mX10_init rmcX10_init (RetQ G none cX197 cI102 cL11 (98, 2880)) (71, 1115) cX142 cI78 cL4 34 [(0, .ref (gB G + 0))] [.ref (gB G + 67), .ref (gB G + 0)]
    refine ex_putFR (pc' := 37) dX10_init_34 fl_X10_24 rfl coX10 rfl rfl rfl rfl ?_
    show Ex G mX10_init rmcX10_init (RetQ G none cX197 cI102 cL11 (98, 2880)) (71, 1115) cX143 cI78 cL4 37 [(0, .ref (gB G + 0))] []
    refine ex_aload_n 0 (pc' := 38) dX10_init_37 rfl rfl rfl ?_
    refine ex_new (pc' := 41) dX10_init_38 cn_X10_28 ⟨Nat.le_of_ble_eq_true rfl, Nat.le_of_ble_eq_true rfl⟩ rfl ?_
    show Ex G mX10_init rmcX10_init (RetQ G none cX197 cI102 cL11 (98, 2880)) (72, 1119) cX144 cI79 cL4 41 [(0, .ref (gB G + 0))] [.ref (gB G + 72), .ref (gB G + 0)]
    refine ex_dup (pc' := 42) dX10_init_41 rfl rfl ?_
    refine ex_callIN (rm' := rmcX8_init) (st := [.ref (gB G + 72), .ref (gB G + 0)]) (pc' := 45) [] dX10_init_42 cl_X10_30 rfl (kc31_X8_init G) rfl rfl rfl (ROOM_of rfl) (Nat.le_of_ble_eq_true rfl) rfl ?_
    show Ex G mX10_init rmcX10_init (RetQ G none cX197 cI102 cL11 (98, 2880)) (75, 1276) cX150 cI82 cL4 45 [(0, .ref (gB G + 0))] [.ref (gB G + 72), .ref (gB G + 0)]
    refine ex_putFR (pc' := 48) dX10_init_45 fl_X10_31 rfl coX10 rfl rfl rfl rfl ?_
    show Ex G mX10_init rmcX10_init (RetQ G none cX197 cI102 cL11 (98, 2880)) (75, 1276) cX151 cI82 cL4 48 [(0, .ref (gB G + 0))] []
    refine ex_aload_n 0 (pc' := 49) dX10_init_48 rfl rfl rfl ?_
    refine ex_new (pc' := 52) dX10_init_49 cn_X10_35 ⟨Nat.le_of_ble_eq_true rfl, Nat.le_of_ble_eq_true rfl⟩ rfl ?_
    show Ex G mX10_init rmcX10_init (RetQ G none cX197 cI102 cL11 (98, 2880)) (76, 1278) cX152 cI83 cL4 52 [(0, .ref (gB G + 0))] [.ref (gB G + 76), .ref (gB G + 0)]
    refine ex_dup (pc' := 53) dX10_init_52 rfl rfl ?_
    refine ex_callIN (rm' := rmcX3_init) (st := [.ref (gB G + 76), .ref (gB G + 0)]) (pc' := 56) [] dX10_init_53 cl_X10_37 rfl (kc32_X3_init G) rfl rfl rfl (ROOM_of rfl) (Nat.le_of_ble_eq_true rfl) rfl ?_
    show Ex G mX10_init rmcX10_init (RetQ G none cX197 cI102 cL11 (98, 2880)) (77, 1290) cX154 cI84 cL4 56 [(0, .ref (gB G + 0))] [.ref (gB G + 76), .ref (gB G + 0)]
    refine ex_putFR (pc' := 59) dX10_init_56 fl_X10_38 rfl coX10 rfl rfl rfl rfl ?_
    show Ex G mX10_init rmcX10_init (RetQ G none cX197 cI102 cL11 (98, 2880)) (77, 1290) cX155 cI84 cL4 59 [(0, .ref (gB G + 0))] []
    refine ex_aload_n 0 (pc' := 60) dX10_init_59 rfl rfl rfl ?_
    refine ex_bipush (v := 6) (pc' := 62) dX10_init_60 bp_6 rfl ?_
    refine ex_newq (t := 6) (N := 6) (pc' := 65) dX10_init_62 (by decide) (by decide) ck_X10_42 (by decide) (by decide) (Nat.le_of_ble_eq_true rfl) ⟨Nat.le_of_ble_eq_true rfl, Nat.le_of_ble_eq_true rfl⟩ rfl ?_
    show Ex G mX10_init rmcX10_init (RetQ G none cX197 cI102 cL11 (98, 2880)) (78, 1296) cX156 cI84 cL4 65 [(0, .ref (gB G + 0))] [.ref (gB G + 78), .ref (gB G + 0)]
    refine ex_putFR (pc' := 68) dX10_init_65 fl_X10_44 rfl coX10 rfl rfl rfl rfl ?_
    show Ex G mX10_init rmcX10_init (RetQ G none cX197 cI102 cL11 (98, 2880)) (78, 1296) cX157 cI84 cL4 68 [(0, .ref (gB G + 0))] []
    refine ex_iconst (v := 0) (pc' := 69) dX10_init_68 ic_0 rfl ?_
    refine ex_istore_n (lv' := [(1, .int 0), (0, .ref (gB G + 0))]) (pc' := 70) dX10_init_69 rfl (Nat.le_of_ble_eq_true rfl) rfl rfl ?_
    refine ex_iload_n 0 (pc' := 71) dX10_init_70 rfl rfl rfl ?_
    refine ex_bipush (v := 6) (pc' := 73) dX10_init_71 bp_6 rfl ?_
    refine ex_icmpge (tgt := 95) (pc' := 76) dX10_init_73 (by decide) rfl (fun hc => ?_) (fun hc => absurd (by decide) hc)
    refine ex_aload_n 1 (pc' := 77) dX10_init_76 rfl rfl rfl ?_
    refine ex_getR (a' := 78) (pc' := 80) dX10_init_77 fl_X10_44 rfl rfl rfl rfl ?_
    refine ex_iload_n 0 (pc' := 81) dX10_init_80 rfl rfl rfl ?_
    refine ex_new (pc' := 84) dX10_init_81 cn_X10_42 ⟨Nat.le_of_ble_eq_true rfl, Nat.le_of_ble_eq_true rfl⟩ rfl ?_
    show Ex G mX10_init rmcX10_init (RetQ G none cX197 cI102 cL11 (98, 2880)) (79, 1299) cX158 cI85 cL4 84 [(1, .int 0), (0, .ref (gB G + 0))] [.ref (gB G + 79), .int 0, .ref (gB G + 78)]
    refine ex_dup (pc' := 85) dX10_init_84 rfl rfl ?_
    refine ex_callIN (rm' := rmcX7_init) (st := [.ref (gB G + 79), .int 0, .ref (gB G + 78)]) (pc' := 88) [] dX10_init_85 cl_X10_48 rfl (kc33_X7_init G) rfl rfl rfl (ROOM_of rfl) (Nat.le_of_ble_eq_true rfl) rfl ?_
    show Ex G mX10_init rmcX10_init (RetQ G none cX197 cI102 cL11 (98, 2880)) (80, 1359) cX160 cI86 cL5 88 [(1, .int 0), (0, .ref (gB G + 0))] [.ref (gB G + 79), .int 0, .ref (gB G + 78)]
    refine ex_aast (t := 6) (n := 6) (pc' := 89) dX10_init_88 rfl (by decide) (by decide) rfl (inb_in rfl) rfl ?_
    show Ex G mX10_init rmcX10_init (RetQ G none cX197 cI102 cL11 (98, 2880)) (80, 1359) cX161 cI86 cL5 89 [(1, .int 0), (0, .ref (gB G + 0))] []
    refine ex_iinc (v := 1) (lv' := [(1, .int 1), (0, .ref (gB G + 0))]) 0 (pc' := 92) dX10_init_89 rfl (by decide) (Nat.le_of_ble_eq_true rfl) rfl rfl ?_
    refine ex_goto (tgt := 70) dX10_init_92 (by decide) ?_
    refine ex_iload_n 0 (pc' := 71) dX10_init_70 rfl rfl rfl ?_
    refine ex_bipush (v := 6) (pc' := 73) dX10_init_71 bp_6 rfl ?_
    refine ex_icmpge (tgt := 95) (pc' := 76) dX10_init_73 (by decide) rfl (fun hc => ?_) (fun hc => absurd (by decide) hc)
    refine ex_aload_n 1 (pc' := 77) dX10_init_76 rfl rfl rfl ?_
    refine ex_getR (a' := 78) (pc' := 80) dX10_init_77 fl_X10_44 rfl rfl rfl rfl ?_
    refine ex_iload_n 0 (pc' := 81) dX10_init_80 rfl rfl rfl ?_
    refine ex_new (pc' := 84) dX10_init_81 cn_X10_42 ⟨Nat.le_of_ble_eq_true rfl, Nat.le_of_ble_eq_true rfl⟩ rfl ?_
    show Ex G mX10_init rmcX10_init (RetQ G none cX197 cI102 cL11 (98, 2880)) (81, 1362) cX162 cI87 cL5 84 [(1, .int 1), (0, .ref (gB G + 0))] [.ref (gB G + 81), .int 1, .ref (gB G + 78)]
    refine ex_dup (pc' := 85) dX10_init_84 rfl rfl ?_
    refine ex_callIN (rm' := rmcX7_init) (st := [.ref (gB G + 81), .int 1, .ref (gB G + 78)]) (pc' := 88) [] dX10_init_85 cl_X10_48 rfl (kc34_X7_init G) rfl rfl rfl (ROOM_of rfl) (Nat.le_of_ble_eq_true rfl) rfl ?_
    show Ex G mX10_init rmcX10_init (RetQ G none cX197 cI102 cL11 (98, 2880)) (82, 1422) cX164 cI88 cL6 88 [(1, .int 1), (0, .ref (gB G + 0))] [.ref (gB G + 81), .int 1, .ref (gB G + 78)]
    refine ex_aast (t := 6) (n := 6) (pc' := 89) dX10_init_88 rfl (by decide) (by decide) rfl (inb_in rfl) rfl ?_
    show Ex G mX10_init rmcX10_init (RetQ G none cX197 cI102 cL11 (98, 2880)) (82, 1422) cX165 cI88 cL6 89 [(1, .int 1), (0, .ref (gB G + 0))] []
    refine ex_iinc (v := 2) (lv' := [(1, .int 2), (0, .ref (gB G + 0))]) 0 (pc' := 92) dX10_init_89 rfl (by decide) (Nat.le_of_ble_eq_true rfl) rfl rfl ?_
    refine ex_goto (tgt := 70) dX10_init_92 (by decide) ?_
    refine ex_iload_n 0 (pc' := 71) dX10_init_70 rfl rfl rfl ?_
    refine ex_bipush (v := 6) (pc' := 73) dX10_init_71 bp_6 rfl ?_
    refine ex_icmpge (tgt := 95) (pc' := 76) dX10_init_73 (by decide) rfl (fun hc => ?_) (fun hc => absurd (by decide) hc)
    refine ex_aload_n 1 (pc' := 77) dX10_init_76 rfl rfl rfl ?_
    refine ex_getR (a' := 78) (pc' := 80) dX10_init_77 fl_X10_44 rfl rfl rfl rfl ?_
    refine ex_iload_n 0 (pc' := 81) dX10_init_80 rfl rfl rfl ?_
    refine ex_new (pc' := 84) dX10_init_81 cn_X10_42 ⟨Nat.le_of_ble_eq_true rfl, Nat.le_of_ble_eq_true rfl⟩ rfl ?_
    show Ex G mX10_init rmcX10_init (RetQ G none cX197 cI102 cL11 (98, 2880)) (83, 1425) cX166 cI89 cL6 84 [(1, .int 2), (0, .ref (gB G + 0))] [.ref (gB G + 83), .int 2, .ref (gB G + 78)]
    refine ex_dup (pc' := 85) dX10_init_84 rfl rfl ?_
    refine ex_callIN (rm' := rmcX7_init) (st := [.ref (gB G + 83), .int 2, .ref (gB G + 78)]) (pc' := 88) [] dX10_init_85 cl_X10_48 rfl (kc35_X7_init G) rfl rfl rfl (ROOM_of rfl) (Nat.le_of_ble_eq_true rfl) rfl ?_
    show Ex G mX10_init rmcX10_init (RetQ G none cX197 cI102 cL11 (98, 2880)) (84, 1485) cX168 cI90 cL7 88 [(1, .int 2), (0, .ref (gB G + 0))] [.ref (gB G + 83), .int 2, .ref (gB G + 78)]
    refine ex_aast (t := 6) (n := 6) (pc' := 89) dX10_init_88 rfl (by decide) (by decide) rfl (inb_in rfl) rfl ?_
    show Ex G mX10_init rmcX10_init (RetQ G none cX197 cI102 cL11 (98, 2880)) (84, 1485) cX169 cI90 cL7 89 [(1, .int 2), (0, .ref (gB G + 0))] []
    refine ex_iinc (v := 3) (lv' := [(1, .int 3), (0, .ref (gB G + 0))]) 0 (pc' := 92) dX10_init_89 rfl (by decide) (Nat.le_of_ble_eq_true rfl) rfl rfl ?_
    refine ex_goto (tgt := 70) dX10_init_92 (by decide) ?_
    refine ex_iload_n 0 (pc' := 71) dX10_init_70 rfl rfl rfl ?_
    refine ex_bipush (v := 6) (pc' := 73) dX10_init_71 bp_6 rfl ?_
    refine ex_icmpge (tgt := 95) (pc' := 76) dX10_init_73 (by decide) rfl (fun hc => ?_) (fun hc => absurd (by decide) hc)
    refine ex_aload_n 1 (pc' := 77) dX10_init_76 rfl rfl rfl ?_
    refine ex_getR (a' := 78) (pc' := 80) dX10_init_77 fl_X10_44 rfl rfl rfl rfl ?_
    refine ex_iload_n 0 (pc' := 81) dX10_init_80 rfl rfl rfl ?_
    refine ex_new (pc' := 84) dX10_init_81 cn_X10_42 ⟨Nat.le_of_ble_eq_true rfl, Nat.le_of_ble_eq_true rfl⟩ rfl ?_
    show Ex G mX10_init rmcX10_init (RetQ G none cX197 cI102 cL11 (98, 2880)) (85, 1488) cX170 cI91 cL7 84 [(1, .int 3), (0, .ref (gB G + 0))] [.ref (gB G + 85), .int 3, .ref (gB G + 78)]
    refine ex_dup (pc' := 85) dX10_init_84 rfl rfl ?_
    refine ex_callIN (rm' := rmcX7_init) (st := [.ref (gB G + 85), .int 3, .ref (gB G + 78)]) (pc' := 88) [] dX10_init_85 cl_X10_48 rfl (kc36_X7_init G) rfl rfl rfl (ROOM_of rfl) (Nat.le_of_ble_eq_true rfl) rfl ?_
    show Ex G mX10_init rmcX10_init (RetQ G none cX197 cI102 cL11 (98, 2880)) (86, 1548) cX172 cI92 cL8 88 [(1, .int 3), (0, .ref (gB G + 0))] [.ref (gB G + 85), .int 3, .ref (gB G + 78)]
    refine ex_aast (t := 6) (n := 6) (pc' := 89) dX10_init_88 rfl (by decide) (by decide) rfl (inb_in rfl) rfl ?_
    show Ex G mX10_init rmcX10_init (RetQ G none cX197 cI102 cL11 (98, 2880)) (86, 1548) cX173 cI92 cL8 89 [(1, .int 3), (0, .ref (gB G + 0))] []
    refine ex_iinc (v := 4) (lv' := [(1, .int 4), (0, .ref (gB G + 0))]) 0 (pc' := 92) dX10_init_89 rfl (by decide) (Nat.le_of_ble_eq_true rfl) rfl rfl ?_
    refine ex_goto (tgt := 70) dX10_init_92 (by decide) ?_
    refine ex_iload_n 0 (pc' := 71) dX10_init_70 rfl rfl rfl ?_
    refine ex_bipush (v := 6) (pc' := 73) dX10_init_71 bp_6 rfl ?_
    refine ex_icmpge (tgt := 95) (pc' := 76) dX10_init_73 (by decide) rfl (fun hc => ?_) (fun hc => absurd (by decide) hc)
    refine ex_aload_n 1 (pc' := 77) dX10_init_76 rfl rfl rfl ?_
    refine ex_getR (a' := 78) (pc' := 80) dX10_init_77 fl_X10_44 rfl rfl rfl rfl ?_
    refine ex_iload_n 0 (pc' := 81) dX10_init_80 rfl rfl rfl ?_
    refine ex_new (pc' := 84) dX10_init_81 cn_X10_42 ⟨Nat.le_of_ble_eq_true rfl, Nat.le_of_ble_eq_true rfl⟩ rfl ?_
    show Ex G mX10_init rmcX10_init (RetQ G none cX197 cI102 cL11 (98, 2880)) (87, 1551) cX174 cI93 cL8 84 [(1, .int 4), (0, .ref (gB G + 0))] [.ref (gB G + 87), .int 4, .ref (gB G + 78)]
    refine ex_dup (pc' := 85) dX10_init_84 rfl rfl ?_
    refine ex_callIN (rm' := rmcX7_init) (st := [.ref (gB G + 87), .int 4, .ref (gB G + 78)]) (pc' := 88) [] dX10_init_85 cl_X10_48 rfl (kc37_X7_init G) rfl rfl rfl (ROOM_of rfl) (Nat.le_of_ble_eq_true rfl) rfl ?_
    show Ex G mX10_init rmcX10_init (RetQ G none cX197 cI102 cL11 (98, 2880)) (88, 1611) cX176 cI94 cL9 88 [(1, .int 4), (0, .ref (gB G + 0))] [.ref (gB G + 87), .int 4, .ref (gB G + 78)]
    refine ex_aast (t := 6) (n := 6) (pc' := 89) dX10_init_88 rfl (by decide) (by decide) rfl (inb_in rfl) rfl ?_
    show Ex G mX10_init rmcX10_init (RetQ G none cX197 cI102 cL11 (98, 2880)) (88, 1611) cX177 cI94 cL9 89 [(1, .int 4), (0, .ref (gB G + 0))] []
    refine ex_iinc (v := 5) (lv' := [(1, .int 5), (0, .ref (gB G + 0))]) 0 (pc' := 92) dX10_init_89 rfl (by decide) (Nat.le_of_ble_eq_true rfl) rfl rfl ?_
    refine ex_goto (tgt := 70) dX10_init_92 (by decide) ?_
    refine ex_iload_n 0 (pc' := 71) dX10_init_70 rfl rfl rfl ?_
    refine ex_bipush (v := 6) (pc' := 73) dX10_init_71 bp_6 rfl ?_
    refine ex_icmpge (tgt := 95) (pc' := 76) dX10_init_73 (by decide) rfl (fun hc => ?_) (fun hc => absurd (by decide) hc)
    refine ex_aload_n 1 (pc' := 77) dX10_init_76 rfl rfl rfl ?_
    refine ex_getR (a' := 78) (pc' := 80) dX10_init_77 fl_X10_44 rfl rfl rfl rfl ?_
    refine ex_iload_n 0 (pc' := 81) dX10_init_80 rfl rfl rfl ?_
    refine ex_new (pc' := 84) dX10_init_81 cn_X10_42 ⟨Nat.le_of_ble_eq_true rfl, Nat.le_of_ble_eq_true rfl⟩ rfl ?_
    show Ex G mX10_init rmcX10_init (RetQ G none cX197 cI102 cL11 (98, 2880)) (89, 1614) cX178 cI95 cL9 84 [(1, .int 5), (0, .ref (gB G + 0))] [.ref (gB G + 89), .int 5, .ref (gB G + 78)]
    refine ex_dup (pc' := 85) dX10_init_84 rfl rfl ?_
    refine ex_callIN (rm' := rmcX7_init) (st := [.ref (gB G + 89), .int 5, .ref (gB G + 78)]) (pc' := 88) [] dX10_init_85 cl_X10_48 rfl (kc38_X7_init G) rfl rfl rfl (ROOM_of rfl) (Nat.le_of_ble_eq_true rfl) rfl ?_
    show Ex G mX10_init rmcX10_init (RetQ G none cX197 cI102 cL11 (98, 2880)) (90, 1674) cX180 cI96 cL10 88 [(1, .int 5), (0, .ref (gB G + 0))] [.ref (gB G + 89), .int 5, .ref (gB G + 78)]
    refine ex_aast (t := 6) (n := 6) (pc' := 89) dX10_init_88 rfl (by decide) (by decide) rfl (inb_in rfl) rfl ?_
    show Ex G mX10_init rmcX10_init (RetQ G none cX197 cI102 cL11 (98, 2880)) (90, 1674) cX181 cI96 cL10 89 [(1, .int 5), (0, .ref (gB G + 0))] []
    refine ex_iinc (v := 6) (lv' := [(1, .int 6), (0, .ref (gB G + 0))]) 0 (pc' := 92) dX10_init_89 rfl (by decide) (Nat.le_of_ble_eq_true rfl) rfl rfl ?_
    refine ex_goto (tgt := 70) dX10_init_92 (by decide) ?_
    refine ex_iload_n 0 (pc' := 71) dX10_init_70 rfl rfl rfl ?_
    refine ex_bipush (v := 6) (pc' := 73) dX10_init_71 bp_6 rfl ?_
    refine ex_icmpge (tgt := 95) (pc' := 76) dX10_init_73 (by decide) rfl (fun hc => absurd hc (by decide)) (fun hc => ?_)
    refine ex_aload_n 1 (pc' := 96) dX10_init_95 rfl rfl rfl ?_
    refine ex_new (pc' := 99) dX10_init_96 cn_X10_49 ⟨Nat.le_of_ble_eq_true rfl, Nat.le_of_ble_eq_true rfl⟩ rfl ?_
    show Ex G mX10_init rmcX10_init (RetQ G none cX197 cI102 cL11 (98, 2880)) (91, 1679) cX182 cI97 cL10 99 [(1, .int 6), (0, .ref (gB G + 0))] [.ref (gB G + 91), .ref (gB G + 0)]
    refine ex_dup (pc' := 100) dX10_init_99 rfl rfl ?_
    refine ex_callIN (rm' := rmcX4_init) (st := [.ref (gB G + 91), .ref (gB G + 0)]) (pc' := 103) [] dX10_init_100 cl_X10_51 rfl (kc39_X4_init G) rfl rfl rfl (ROOM_of rfl) (Nat.le_of_ble_eq_true rfl) rfl ?_
    show Ex G mX10_init rmcX10_init (RetQ G none cX197 cI102 cL11 (98, 2880)) (96, 2860) cX192 cI102 cL10 103 [(1, .int 6), (0, .ref (gB G + 0))] [.ref (gB G + 91), .ref (gB G + 0)]
    refine ex_putFR (pc' := 106) dX10_init_103 fl_X10_52 rfl coX10 rfl rfl rfl rfl ?_
    show Ex G mX10_init rmcX10_init (RetQ G none cX197 cI102 cL11 (98, 2880)) (96, 2860) cX193 cI102 cL10 106 [(1, .int 6), (0, .ref (gB G + 0))] []
    refine ex_aload_n 1 (pc' := 107) dX10_init_106 rfl rfl rfl ?_
    refine ex_bipush (v := 7) (pc' := 109) dX10_init_107 bp_7 rfl ?_
    refine ex_newq (t := 7) (N := 7) (pc' := 112) dX10_init_109 (by decide) (by decide) ck_X10_56 (by decide) (by decide) (Nat.le_of_ble_eq_true rfl) ⟨Nat.le_of_ble_eq_true rfl, Nat.le_of_ble_eq_true rfl⟩ rfl ?_
    show Ex G mX10_init rmcX10_init (RetQ G none cX197 cI102 cL11 (98, 2880)) (97, 2867) cX194 cI102 cL10 112 [(1, .int 6), (0, .ref (gB G + 0))] [.ref (gB G + 97), .ref (gB G + 0)]
    refine ex_putFR (pc' := 115) dX10_init_112 fl_X10_58 rfl coX10 rfl rfl rfl rfl ?_
    show Ex G mX10_init rmcX10_init (RetQ G none cX197 cI102 cL11 (98, 2880)) (97, 2867) cX195 cI102 cL10 115 [(1, .int 6), (0, .ref (gB G + 0))] []
    refine ex_aload_n 1 (pc' := 116) dX10_init_115 rfl rfl rfl ?_
    refine ex_bipush (v := 13) (pc' := 118) dX10_init_116 bp_13 rfl ?_
    refine ex_newL (N := 13) (pc' := 120) dX10_init_118 acL (by decide) (by decide) (Nat.le_of_ble_eq_true rfl) ⟨Nat.le_of_ble_eq_true rfl, Nat.le_of_ble_eq_true rfl⟩ rfl ?_
    show Ex G mX10_init rmcX10_init (RetQ G none cX197 cI102 cL11 (98, 2880)) (98, 2880) cX196 cI102 cL11 120 [(1, .int 6), (0, .ref (gB G + 0))] [.ref (gB G + 98), .ref (gB G + 0)]
    refine ex_putFR (pc' := 123) dX10_init_120 fl_X10_62 rfl coX10 rfl rfl rfl rfl ?_
    show Ex G mX10_init rmcX10_init (RetQ G none cX197 cI102 cL11 (98, 2880)) (98, 2880) cX197 cI102 cL11 123 [(1, .int 6), (0, .ref (gB G + 0))] []
    exact ex_vret dX10_init_123 rfl rfl)
def cX198 : MX := (nwK cX197.1 99 (1, 11), nwF cX197.2.1 99, 100)
def cI103 : MI := nwI cI102 99
def cX199 : MX := (nwK cX198.1 100 (2, 6), cX198.2.1, 101)
def cI104 : MI := nwI cI103 100
def cX200 : MX := (cX199.1, upF cX199.2.1 99 0 (some 100), cX199.2.2)
def cX201 : MX := (nwK cX200.1 101 (2, 72), cX200.2.1, 102)
def cI105 : MI := nwI cI104 101
def cX202 : MX := (cX201.1, upF cX201.2.1 99 1 (some 101), cX201.2.2)
def cX203 : MX := (nwK cX202.1 102 (3, 169), cX202.2.1, 103)
def cL12 : ML := nwL cL11 102
def cX204 : MX := (cX203.1, upF cX203.2.1 99 2 (some 102), cX203.2.2)
def cX205 : MX := (nwK cX204.1 103 (2, 6), cX204.2.1, 104)
def cI106 : MI := nwI cI105 103
def cI107 : MI := upI cI106 103 0 3
def cI108 : MI := upI cI107 103 1 3
def cI109 : MI := upI cI108 103 2 3
def cI110 : MI := upI cI109 103 3 3
def cI111 : MI := upI cI110 103 4 3
def cI112 : MI := upI cI111 103 5 3
def cX206 : MX := (cX205.1, upF cX205.2.1 99 3 (some 103), cX205.2.2)
def cX207 : MX := (nwK cX206.1 104 (2, 36), cX206.2.1, 105)
def cI113 : MI := nwI cI112 104
def cX208 : MX := (cX207.1, upF cX207.2.1 99 4 (some 104), cX207.2.2)
def cX209 : MX := (nwK cX208.1 105 (2, 36), cX208.2.1, 106)
def cI114 : MI := nwI cI113 105
def cX210 : MX := (cX209.1, upF cX209.2.1 99 5 (some 105), cX209.2.2)
def cX211 : MX := (nwK cX210.1 106 (2, 4), cX210.2.1, 107)
def cI115 : MI := nwI cI114 106
def cX212 : MX := (cX211.1, upF cX211.2.1 99 7 (some 106), cX211.2.2)
def cX213 : MX := (nwK cX212.1 107 (2, 4), cX212.2.1, 108)
def cI116 : MI := nwI cI115 107
def cX214 : MX := (cX213.1, upF cX213.2.1 99 8 (some 107), cX213.2.2)
def cX215 : MX := (nwK cX214.1 108 (2, 10), cX214.2.1, 109)
def cI117 : MI := nwI cI116 108
def cX216 : MX := (cX215.1, upF cX215.2.1 99 10 (some 108), cX215.2.2)
def cX217 : MX := (nwK cX216.1 109 (2, 10), cX216.2.1, 110)
def cI118 : MI := nwI cI117 109
def cX218 : MX := (cX217.1, upF cX217.2.1 99 11 (some 109), cX217.2.2)
def cX219 : MX := (nwK cX218.1 110 (2, 10), cX218.2.1, 111)
def cI119 : MI := nwI cI118 110
def cX220 : MX := (cX219.1, upF cX219.2.1 99 12 (some 110), cX219.2.2)
def cX221 : MX := (nwK cX220.1 111 (2, 80), cX220.2.1, 112)
def cI120 : MI := nwI cI119 111
def cX222 : MX := (cX221.1, upF cX221.2.1 99 14 (some 111), cX221.2.2)
def cX223 : MX := (nwK cX222.1 112 (2, 24), cX222.2.1, 113)
def cI121 : MI := nwI cI120 112
def cX224 : MX := (cX223.1, upF cX223.2.1 99 16 (some 112), cX223.2.2)
def cX225 : MX := (nwK cX224.1 113 (2, 6), cX224.2.1, 114)
def cI122 : MI := nwI cI121 113
def cI123 : MI := upI cI122 113 0 (-1)
def cI124 : MI := upI cI123 113 1 (-1)
def cI125 : MI := upI cI124 113 2 (-1)
def cI126 : MI := upI cI125 113 3 (-1)
def cI127 : MI := upI cI126 113 4 (-1)
def cI128 : MI := upI cI127 113 5 (-1)
def cX226 : MX := (cX225.1, upF cX225.2.1 99 17 (some 113), cX225.2.2)
def cX227 : MX := (nwK cX226.1 114 (2, 6), cX226.2.1, 115)
def cI129 : MI := nwI cI128 114
def cX228 : MX := (cX227.1, upF cX227.2.1 99 18 (some 114), cX227.2.2)
def cX229 : MX := (nwK cX228.1 115 (3, 360), cX228.2.1, 116)
def cL13 : ML := nwL cL12 115
def cX230 : MX := (cX229.1, upF cX229.2.1 99 19 (some 115), cX229.2.2)
def cX231 : MX := (nwK cX230.1 116 (2, 6), cX230.2.1, 117)
def cI130 : MI := nwI cI129 116
def cX232 : MX := (cX231.1, upF cX231.2.1 99 21 (some 116), cX231.2.2)
def cX233 : MX := (nwK cX232.1 117 (2, 72), cX232.2.1, 118)
def cI131 : MI := nwI cI130 117
def cX234 : MX := (cX233.1, upF cX233.2.1 99 22 (some 117), cX233.2.2)
def cX235 : MX := (nwK cX234.1 118 (3, 169), cX234.2.1, 119)
def cL14 : ML := nwL cL13 118
def cX236 : MX := (cX235.1, upF cX235.2.1 99 23 (some 118), cX235.2.2)
def cX237 : MX := (nwK cX236.1 119 (2, 6), cX236.2.1, 120)
def cI132 : MI := nwI cI131 119
def cX238 : MX := (cX237.1, upF cX237.2.1 99 24 (some 119), cX237.2.2)
def cX239 : MX := (nwK cX238.1 120 (2, 36), cX238.2.1, 121)
def cI133 : MI := nwI cI132 120
def cX240 : MX := (cX239.1, upF cX239.2.1 99 25 (some 120), cX239.2.2)
def cX241 : MX := (nwK cX240.1 121 (2, 36), cX240.2.1, 122)
def cI134 : MI := nwI cI133 121
def cX242 : MX := (cX241.1, upF cX241.2.1 99 26 (some 121), cX241.2.2)
def cX243 : MX := (nwK cX242.1 122 (2, 4), cX242.2.1, 123)
def cI135 : MI := nwI cI134 122
def cX244 : MX := (cX243.1, upF cX243.2.1 99 28 (some 122), cX243.2.2)
def cX245 : MX := (nwK cX244.1 123 (2, 4), cX244.2.1, 124)
def cI136 : MI := nwI cI135 123
def cX246 : MX := (cX245.1, upF cX245.2.1 99 29 (some 123), cX245.2.2)
def cX247 : MX := (nwK cX246.1 124 (3, 14), cX246.2.1, 125)
def cL15 : ML := nwL cL14 124
def cX248 : MX := (cX247.1, upF cX247.2.1 99 30 (some 124), cX247.2.2)
def cX249 : MX := (nwK cX248.1 125 (3, 196), cX248.2.1, 126)
def cL16 : ML := nwL cL15 125
def cX250 : MX := (cX249.1, upF cX249.2.1 99 31 (some 125), cX249.2.2)
def cX251 : MX := (nwK cX250.1 126 (3, 196), cX250.2.1, 127)
def cL17 : ML := nwL cL16 126
def cX252 : MX := (cX251.1, upF cX251.2.1 99 32 (some 126), cX251.2.2)
def cX253 : MX := (nwK cX252.1 127 (2, 6), cX252.2.1, 128)
def cI137 : MI := nwI cI136 127
def cX254 : MX := (cX253.1, upF cX253.2.1 99 33 (some 127), cX253.2.2)
def cX255 : MX := (nwK cX254.1 128 (2, 12), cX254.2.1, 129)
def cI138 : MI := nwI cI137 128
def cX256 : MX := (cX255.1, upF cX255.2.1 99 34 (some 128), cX255.2.2)
def cX257 : MX := (nwK cX256.1 129 (2, 64), cX256.2.1, 130)
def cI139 : MI := nwI cI138 129
def cX258 : MX := (cX257.1, upF cX257.2.1 99 35 (some 129), cX257.2.2)
def cX259 : MX := (nwK cX258.1 130 (2, 7), cX258.2.1, 131)
def cI140 : MI := nwI cI139 130
def cX260 : MX := (cX259.1, upF cX259.2.1 99 36 (some 130), cX259.2.2)
def cX261 : MX := (nwK cX260.1 131 (2, 448), cX260.2.1, 132)
def cI141 : MI := nwI cI140 131
def cX262 : MX := (cX261.1, upF cX261.2.1 99 37 (some 131), cX261.2.2)
def cX263 : MX := (nwK cX262.1 132 (2, 5544), cX262.2.1, 133)
def cI142 : MI := nwI cI141 132
def cX264 : MX := (cX263.1, upF cX263.2.1 99 40 (some 132), cX263.2.2)
def cX265 : MX := (nwK cX264.1 133 (2, 6468), cX264.2.1, 134)
def cI143 : MI := nwI cI142 133
def cX266 : MX := (cX265.1, upF cX265.2.1 99 41 (some 133), cX265.2.2)
def cX267 : MX := (nwK cX266.1 134 (2, 6), cX266.2.1, 135)
def cI144 : MI := nwI cI143 134
def cX268 : MX := (cX267.1, upF cX267.2.1 99 42 (some 134), cX267.2.2)
def cX269 : MX := (nwK cX268.1 135 (2, 160), cX268.2.1, 136)
def cI145 : MI := nwI cI144 135
def cX270 : MX := (cX269.1, upF cX269.2.1 99 48 (some 135), cX269.2.2)
def cX271 : MX := (nwK cX270.1 136 (2, 5), cX270.2.1, 137)
def cI146 : MI := nwI cI145 136
def cX272 : MX := (cX271.1, upF cX271.2.1 99 49 (some 136), cX271.2.2)
def cX273 : MX := (nwK cX272.1 137 (3, 60), cX272.2.1, 138)
def cL18 : ML := nwL cL17 137
def cX274 : MX := (cX273.1, upF cX273.2.1 99 50 (some 137), cX273.2.2)
def cI147 : MI := upI cI146 105 0 1
def cI148 : MI := upI cI147 105 1 1
def cI149 : MI := upI cI148 105 2 1
def cI150 : MI := upI cI149 105 3 1
def cI151 : MI := upI cI150 105 4 1
def cI152 : MI := upI cI151 105 5 1
def cI153 : MI := upI cI152 105 6 1
def cI154 : MI := upI cI153 105 7 1
def cI155 : MI := upI cI154 105 8 1
def cI156 : MI := upI cI155 105 9 1
def cI157 : MI := upI cI156 105 10 1
def cI158 : MI := upI cI157 105 11 1
def cI159 : MI := upI cI158 105 12 1
def cI160 : MI := upI cI159 105 13 1
def cI161 : MI := upI cI160 105 14 1
def cI162 : MI := upI cI161 105 15 1
def cI163 : MI := upI cI162 105 16 1
def cI164 : MI := upI cI163 105 17 1
def cI165 : MI := upI cI164 105 18 1
def cI166 : MI := upI cI165 105 19 1
def cI167 : MI := upI cI166 105 20 1
def cI168 : MI := upI cI167 105 21 1
def cI169 : MI := upI cI168 105 22 1
def cI170 : MI := upI cI169 105 23 1
def cI171 : MI := upI cI170 105 24 1
def cI172 : MI := upI cI171 105 25 1
def cI173 : MI := upI cI172 105 26 1
def cI174 : MI := upI cI173 105 27 1
def cI175 : MI := upI cI174 105 28 1
def cI176 : MI := upI cI175 105 29 1
def cI177 : MI := upI cI176 105 30 1
def cI178 : MI := upI cI177 105 31 1
def cI179 : MI := upI cI178 105 32 1
def cI180 : MI := upI cI179 105 33 1
def cI181 : MI := upI cI180 105 34 1
def cI182 : MI := upI cI181 105 35 1
def rmcX11_init : RM := ((1, 20, 38, 14358), true, none)
set_option maxRecDepth 100000 in
set_option maxHeartbeats 4000000 in
theorem kc40_X11_init (G : GX) : Con G mX11_init yX11_init rmcX11_init (fun B => [.ref (B + 99)]) cX198 cI103 cL11 none cX274 cI182 cL18 :=
  Con.of (by decide) rfl (fun _ => rfl) (fun B => Nat.le_of_ble_eq_true rfl) (fun G => by
    refine ex_aload_n 0 (pc' := 1) dX11_init_0 rfl rfl rfl ?_
    refine ex_objInit (pc' := 4) dX11_init_1 oi_X11 ⟨Nat.le_of_ble_eq_true rfl, Nat.le_of_ble_eq_true rfl⟩ rfl ?_
    refine ex_aload_n 0 (pc' := 5) dX11_init_4 rfl rfl rfl ?_
    refine ex_bipush (v := 6) (pc' := 7) dX11_init_5 bp_6 rfl ?_
    refine ex_newI (N := 6) (pc' := 9) dX11_init_7 acI (by decide) (by decide) (Nat.le_of_ble_eq_true rfl) ⟨Nat.le_of_ble_eq_true rfl, Nat.le_of_ble_eq_true rfl⟩ rfl ?_
    show Ex G mX11_init rmcX11_init (RetQ G none cX274 cI182 cL18 (38, 14358)) (1, 6) cX199 cI104 cL11 9 [(0, .ref (gB G + 99))] [.ref (gB G + 100), .ref (gB G + 99)]
    refine ex_putFR (pc' := 12) dX11_init_9 fl_X11_9 rfl coX11 rfl rfl rfl rfl ?_
    show Ex G mX11_init rmcX11_init (RetQ G none cX274 cI182 cL18 (38, 14358)) (1, 6) cX200 cI104 cL11 12 [(0, .ref (gB G + 99))] []
    refine ex_aload_n 0 (pc' := 13) dX11_init_12 rfl rfl rfl ?_
    refine ex_bipush (v := 72) (pc' := 15) dX11_init_13 bp_72 rfl ?_
    refine ex_newI (N := 72) (pc' := 17) dX11_init_15 acI (by decide) (by decide) (Nat.le_of_ble_eq_true rfl) ⟨Nat.le_of_ble_eq_true rfl, Nat.le_of_ble_eq_true rfl⟩ rfl ?_
    show Ex G mX11_init rmcX11_init (RetQ G none cX274 cI182 cL18 (38, 14358)) (2, 78) cX201 cI105 cL11 17 [(0, .ref (gB G + 99))] [.ref (gB G + 101), .ref (gB G + 99)]
    refine ex_putFR (pc' := 20) dX11_init_17 fl_X11_15 rfl coX11 rfl rfl rfl rfl ?_
    show Ex G mX11_init rmcX11_init (RetQ G none cX274 cI182 cL18 (38, 14358)) (2, 78) cX202 cI105 cL11 20 [(0, .ref (gB G + 99))] []
    refine ex_aload_n 0 (pc' := 21) dX11_init_20 rfl rfl rfl ?_
    refine ex_sipush (v := 169) (pc' := 24) dX11_init_21 sp_169 rfl ?_
    refine ex_newL (N := 169) (pc' := 26) dX11_init_24 acL (by decide) (by decide) (Nat.le_of_ble_eq_true rfl) ⟨Nat.le_of_ble_eq_true rfl, Nat.le_of_ble_eq_true rfl⟩ rfl ?_
    show Ex G mX11_init rmcX11_init (RetQ G none cX274 cI182 cL18 (38, 14358)) (3, 247) cX203 cI105 cL12 26 [(0, .ref (gB G + 99))] [.ref (gB G + 102), .ref (gB G + 99)]
    refine ex_putFR (pc' := 29) dX11_init_26 fl_X11_18 rfl coX11 rfl rfl rfl rfl ?_
    show Ex G mX11_init rmcX11_init (RetQ G none cX274 cI182 cL18 (38, 14358)) (3, 247) cX204 cI105 cL12 29 [(0, .ref (gB G + 99))] []
    refine ex_aload_n 0 (pc' := 30) dX11_init_29 rfl rfl rfl ?_
    refine ex_bipush (v := 6) (pc' := 32) dX11_init_30 bp_6 rfl ?_
    refine ex_newI (N := 6) (pc' := 34) dX11_init_32 acI (by decide) (by decide) (Nat.le_of_ble_eq_true rfl) ⟨Nat.le_of_ble_eq_true rfl, Nat.le_of_ble_eq_true rfl⟩ rfl ?_
    show Ex G mX11_init rmcX11_init (RetQ G none cX274 cI182 cL18 (38, 14358)) (4, 253) cX205 cI106 cL12 34 [(0, .ref (gB G + 99))] [.ref (gB G + 103), .ref (gB G + 99)]
    refine ex_dup (pc' := 35) dX11_init_34 rfl rfl ?_
    refine ex_iconst (v := 0) (pc' := 36) dX11_init_35 ic_0 rfl ?_
    refine ex_iconst (v := 3) (pc' := 37) dX11_init_36 ic_3 rfl ?_
    refine ex_iast (n := 6) (pc' := 38) dX11_init_37 rfl (inb_in rfl) rfl ?_
    show Ex G mX11_init rmcX11_init (RetQ G none cX274 cI182 cL18 (38, 14358)) (4, 253) cX205 cI107 cL12 38 [(0, .ref (gB G + 99))] [.ref (gB G + 103), .ref (gB G + 99)]
    refine ex_dup (pc' := 39) dX11_init_38 rfl rfl ?_
    refine ex_iconst (v := 1) (pc' := 40) dX11_init_39 ic_1 rfl ?_
    refine ex_iconst (v := 3) (pc' := 41) dX11_init_40 ic_3 rfl ?_
    refine ex_iast (n := 6) (pc' := 42) dX11_init_41 rfl (inb_in rfl) rfl ?_
    show Ex G mX11_init rmcX11_init (RetQ G none cX274 cI182 cL18 (38, 14358)) (4, 253) cX205 cI108 cL12 42 [(0, .ref (gB G + 99))] [.ref (gB G + 103), .ref (gB G + 99)]
    refine ex_dup (pc' := 43) dX11_init_42 rfl rfl ?_
    refine ex_iconst (v := 2) (pc' := 44) dX11_init_43 ic_2 rfl ?_
    refine ex_iconst (v := 3) (pc' := 45) dX11_init_44 ic_3 rfl ?_
    refine ex_iast (n := 6) (pc' := 46) dX11_init_45 rfl (inb_in rfl) rfl ?_
    show Ex G mX11_init rmcX11_init (RetQ G none cX274 cI182 cL18 (38, 14358)) (4, 253) cX205 cI109 cL12 46 [(0, .ref (gB G + 99))] [.ref (gB G + 103), .ref (gB G + 99)]
    refine ex_dup (pc' := 47) dX11_init_46 rfl rfl ?_
    refine ex_iconst (v := 3) (pc' := 48) dX11_init_47 ic_3 rfl ?_
    refine ex_iconst (v := 3) (pc' := 49) dX11_init_48 ic_3 rfl ?_
    refine ex_iast (n := 6) (pc' := 50) dX11_init_49 rfl (inb_in rfl) rfl ?_
    show Ex G mX11_init rmcX11_init (RetQ G none cX274 cI182 cL18 (38, 14358)) (4, 253) cX205 cI110 cL12 50 [(0, .ref (gB G + 99))] [.ref (gB G + 103), .ref (gB G + 99)]
    refine ex_dup (pc' := 51) dX11_init_50 rfl rfl ?_
    refine ex_iconst (v := 4) (pc' := 52) dX11_init_51 ic_4 rfl ?_
    refine ex_iconst (v := 3) (pc' := 53) dX11_init_52 ic_3 rfl ?_
    refine ex_iast (n := 6) (pc' := 54) dX11_init_53 rfl (inb_in rfl) rfl ?_
    show Ex G mX11_init rmcX11_init (RetQ G none cX274 cI182 cL18 (38, 14358)) (4, 253) cX205 cI111 cL12 54 [(0, .ref (gB G + 99))] [.ref (gB G + 103), .ref (gB G + 99)]
    refine ex_dup (pc' := 55) dX11_init_54 rfl rfl ?_
    refine ex_iconst (v := 5) (pc' := 56) dX11_init_55 ic_5 rfl ?_
    refine ex_iconst (v := 3) (pc' := 57) dX11_init_56 ic_3 rfl ?_
    refine ex_iast (n := 6) (pc' := 58) dX11_init_57 rfl (inb_in rfl) rfl ?_
    show Ex G mX11_init rmcX11_init (RetQ G none cX274 cI182 cL18 (38, 14358)) (4, 253) cX205 cI112 cL12 58 [(0, .ref (gB G + 99))] [.ref (gB G + 103), .ref (gB G + 99)]
    refine ex_putFR (pc' := 61) dX11_init_58 fl_X11_22 rfl coX11 rfl rfl rfl rfl ?_
    show Ex G mX11_init rmcX11_init (RetQ G none cX274 cI182 cL18 (38, 14358)) (4, 253) cX206 cI112 cL12 61 [(0, .ref (gB G + 99))] []
    refine ex_aload_n 0 (pc' := 62) dX11_init_61 rfl rfl rfl ?_
    refine ex_bipush (v := 36) (pc' := 64) dX11_init_62 bp_36 rfl ?_
    refine ex_newI (N := 36) (pc' := 66) dX11_init_64 acI (by decide) (by decide) (Nat.le_of_ble_eq_true rfl) ⟨Nat.le_of_ble_eq_true rfl, Nat.le_of_ble_eq_true rfl⟩ rfl ?_
    show Ex G mX11_init rmcX11_init (RetQ G none cX274 cI182 cL18 (38, 14358)) (5, 289) cX207 cI113 cL12 66 [(0, .ref (gB G + 99))] [.ref (gB G + 104), .ref (gB G + 99)]
    refine ex_putFR (pc' := 69) dX11_init_66 fl_X11_25 rfl coX11 rfl rfl rfl rfl ?_
    show Ex G mX11_init rmcX11_init (RetQ G none cX274 cI182 cL18 (38, 14358)) (5, 289) cX208 cI113 cL12 69 [(0, .ref (gB G + 99))] []
    refine ex_aload_n 0 (pc' := 70) dX11_init_69 rfl rfl rfl ?_
    refine ex_bipush (v := 36) (pc' := 72) dX11_init_70 bp_36 rfl ?_
    refine ex_newI (N := 36) (pc' := 74) dX11_init_72 acI (by decide) (by decide) (Nat.le_of_ble_eq_true rfl) ⟨Nat.le_of_ble_eq_true rfl, Nat.le_of_ble_eq_true rfl⟩ rfl ?_
    show Ex G mX11_init rmcX11_init (RetQ G none cX274 cI182 cL18 (38, 14358)) (6, 325) cX209 cI114 cL12 74 [(0, .ref (gB G + 99))] [.ref (gB G + 105), .ref (gB G + 99)]
    refine ex_putFR (pc' := 77) dX11_init_74 fl_X11_28 rfl coX11 rfl rfl rfl rfl ?_
    show Ex G mX11_init rmcX11_init (RetQ G none cX274 cI182 cL18 (38, 14358)) (6, 325) cX210 cI114 cL12 77 [(0, .ref (gB G + 99))] []
    refine ex_aload_n 0 (pc' := 78) dX11_init_77 rfl rfl rfl ?_
    refine ex_iconst (v := 4) (pc' := 79) dX11_init_78 ic_4 rfl ?_
    refine ex_newI (N := 4) (pc' := 81) dX11_init_79 acI (by decide) (by decide) (Nat.le_of_ble_eq_true rfl) ⟨Nat.le_of_ble_eq_true rfl, Nat.le_of_ble_eq_true rfl⟩ rfl ?_
    show Ex G mX11_init rmcX11_init (RetQ G none cX274 cI182 cL18 (38, 14358)) (7, 329) cX211 cI115 cL12 81 [(0, .ref (gB G + 99))] [.ref (gB G + 106), .ref (gB G + 99)]
    refine ex_putFR (pc' := 84) dX11_init_81 fl_X11_31 rfl coX11 rfl rfl rfl rfl ?_
    show Ex G mX11_init rmcX11_init (RetQ G none cX274 cI182 cL18 (38, 14358)) (7, 329) cX212 cI115 cL12 84 [(0, .ref (gB G + 99))] []
    refine ex_aload_n 0 (pc' := 85) dX11_init_84 rfl rfl rfl ?_
    refine ex_iconst (v := 4) (pc' := 86) dX11_init_85 ic_4 rfl ?_
    refine ex_newI (N := 4) (pc' := 88) dX11_init_86 acI (by decide) (by decide) (Nat.le_of_ble_eq_true rfl) ⟨Nat.le_of_ble_eq_true rfl, Nat.le_of_ble_eq_true rfl⟩ rfl ?_
    show Ex G mX11_init rmcX11_init (RetQ G none cX274 cI182 cL18 (38, 14358)) (8, 333) cX213 cI116 cL12 88 [(0, .ref (gB G + 99))] [.ref (gB G + 107), .ref (gB G + 99)]
    refine ex_putFR (pc' := 91) dX11_init_88 fl_X11_34 rfl coX11 rfl rfl rfl rfl ?_
    show Ex G mX11_init rmcX11_init (RetQ G none cX274 cI182 cL18 (38, 14358)) (8, 333) cX214 cI116 cL12 91 [(0, .ref (gB G + 99))] []
    refine ex_aload_n 0 (pc' := 92) dX11_init_91 rfl rfl rfl ?_
    refine ex_bipush (v := 10) (pc' := 94) dX11_init_92 bp_10 rfl ?_
    refine ex_newI (N := 10) (pc' := 96) dX11_init_94 acI (by decide) (by decide) (Nat.le_of_ble_eq_true rfl) ⟨Nat.le_of_ble_eq_true rfl, Nat.le_of_ble_eq_true rfl⟩ rfl ?_
    show Ex G mX11_init rmcX11_init (RetQ G none cX274 cI182 cL18 (38, 14358)) (9, 343) cX215 cI117 cL12 96 [(0, .ref (gB G + 99))] [.ref (gB G + 108), .ref (gB G + 99)]
    refine ex_putFR (pc' := 99) dX11_init_96 fl_X11_37 rfl coX11 rfl rfl rfl rfl ?_
    show Ex G mX11_init rmcX11_init (RetQ G none cX274 cI182 cL18 (38, 14358)) (9, 343) cX216 cI117 cL12 99 [(0, .ref (gB G + 99))] []
    refine ex_aload_n 0 (pc' := 100) dX11_init_99 rfl rfl rfl ?_
    refine ex_bipush (v := 10) (pc' := 102) dX11_init_100 bp_10 rfl ?_
    refine ex_newI (N := 10) (pc' := 104) dX11_init_102 acI (by decide) (by decide) (Nat.le_of_ble_eq_true rfl) ⟨Nat.le_of_ble_eq_true rfl, Nat.le_of_ble_eq_true rfl⟩ rfl ?_
    show Ex G mX11_init rmcX11_init (RetQ G none cX274 cI182 cL18 (38, 14358)) (10, 353) cX217 cI118 cL12 104 [(0, .ref (gB G + 99))] [.ref (gB G + 109), .ref (gB G + 99)]
    refine ex_putFR (pc' := 107) dX11_init_104 fl_X11_40 rfl coX11 rfl rfl rfl rfl ?_
    show Ex G mX11_init rmcX11_init (RetQ G none cX274 cI182 cL18 (38, 14358)) (10, 353) cX218 cI118 cL12 107 [(0, .ref (gB G + 99))] []
    refine ex_aload_n 0 (pc' := 108) dX11_init_107 rfl rfl rfl ?_
    refine ex_bipush (v := 10) (pc' := 110) dX11_init_108 bp_10 rfl ?_
    refine ex_newI (N := 10) (pc' := 112) dX11_init_110 acI (by decide) (by decide) (Nat.le_of_ble_eq_true rfl) ⟨Nat.le_of_ble_eq_true rfl, Nat.le_of_ble_eq_true rfl⟩ rfl ?_
    show Ex G mX11_init rmcX11_init (RetQ G none cX274 cI182 cL18 (38, 14358)) (11, 363) cX219 cI119 cL12 112 [(0, .ref (gB G + 99))] [.ref (gB G + 110), .ref (gB G + 99)]
    refine ex_putFR (pc' := 115) dX11_init_112 fl_X11_43 rfl coX11 rfl rfl rfl rfl ?_
    show Ex G mX11_init rmcX11_init (RetQ G none cX274 cI182 cL18 (38, 14358)) (11, 363) cX220 cI119 cL12 115 [(0, .ref (gB G + 99))] []
    refine ex_aload_n 0 (pc' := 116) dX11_init_115 rfl rfl rfl ?_
    refine ex_bipush (v := 80) (pc' := 118) dX11_init_116 bp_80 rfl ?_
    refine ex_newI (N := 80) (pc' := 120) dX11_init_118 acI (by decide) (by decide) (Nat.le_of_ble_eq_true rfl) ⟨Nat.le_of_ble_eq_true rfl, Nat.le_of_ble_eq_true rfl⟩ rfl ?_
    show Ex G mX11_init rmcX11_init (RetQ G none cX274 cI182 cL18 (38, 14358)) (12, 443) cX221 cI120 cL12 120 [(0, .ref (gB G + 99))] [.ref (gB G + 111), .ref (gB G + 99)]
    refine ex_putFR (pc' := 123) dX11_init_120 fl_X11_46 rfl coX11 rfl rfl rfl rfl ?_
    show Ex G mX11_init rmcX11_init (RetQ G none cX274 cI182 cL18 (38, 14358)) (12, 443) cX222 cI120 cL12 123 [(0, .ref (gB G + 99))] []
    refine ex_aload_n 0 (pc' := 124) dX11_init_123 rfl rfl rfl ?_
    refine ex_bipush (v := 24) (pc' := 126) dX11_init_124 bp_24 rfl ?_
    refine ex_newI (N := 24) (pc' := 128) dX11_init_126 acI (by decide) (by decide) (Nat.le_of_ble_eq_true rfl) ⟨Nat.le_of_ble_eq_true rfl, Nat.le_of_ble_eq_true rfl⟩ rfl ?_
    show Ex G mX11_init rmcX11_init (RetQ G none cX274 cI182 cL18 (38, 14358)) (13, 467) cX223 cI121 cL12 128 [(0, .ref (gB G + 99))] [.ref (gB G + 112), .ref (gB G + 99)]
    refine ex_putFR (pc' := 131) dX11_init_128 fl_X11_49 rfl coX11 rfl rfl rfl rfl ?_
    show Ex G mX11_init rmcX11_init (RetQ G none cX274 cI182 cL18 (38, 14358)) (13, 467) cX224 cI121 cL12 131 [(0, .ref (gB G + 99))] []
    refine ex_aload_n 0 (pc' := 132) dX11_init_131 rfl rfl rfl ?_
    refine ex_bipush (v := 6) (pc' := 134) dX11_init_132 bp_6 rfl ?_
    refine ex_newI (N := 6) (pc' := 136) dX11_init_134 acI (by decide) (by decide) (Nat.le_of_ble_eq_true rfl) ⟨Nat.le_of_ble_eq_true rfl, Nat.le_of_ble_eq_true rfl⟩ rfl ?_
    show Ex G mX11_init rmcX11_init (RetQ G none cX274 cI182 cL18 (38, 14358)) (14, 473) cX225 cI122 cL12 136 [(0, .ref (gB G + 99))] [.ref (gB G + 113), .ref (gB G + 99)]
    refine ex_dup (pc' := 137) dX11_init_136 rfl rfl ?_
    refine ex_iconst (v := 0) (pc' := 138) dX11_init_137 ic_0 rfl ?_
    refine ex_iconst (v := (-1)) (pc' := 139) dX11_init_138 ic_m1 rfl ?_
    refine ex_iast (n := 6) (pc' := 140) dX11_init_139 rfl (inb_in rfl) rfl ?_
    show Ex G mX11_init rmcX11_init (RetQ G none cX274 cI182 cL18 (38, 14358)) (14, 473) cX225 cI123 cL12 140 [(0, .ref (gB G + 99))] [.ref (gB G + 113), .ref (gB G + 99)]
    refine ex_dup (pc' := 141) dX11_init_140 rfl rfl ?_
    refine ex_iconst (v := 1) (pc' := 142) dX11_init_141 ic_1 rfl ?_
    refine ex_iconst (v := (-1)) (pc' := 143) dX11_init_142 ic_m1 rfl ?_
    refine ex_iast (n := 6) (pc' := 144) dX11_init_143 rfl (inb_in rfl) rfl ?_
    show Ex G mX11_init rmcX11_init (RetQ G none cX274 cI182 cL18 (38, 14358)) (14, 473) cX225 cI124 cL12 144 [(0, .ref (gB G + 99))] [.ref (gB G + 113), .ref (gB G + 99)]
    refine ex_dup (pc' := 145) dX11_init_144 rfl rfl ?_
    refine ex_iconst (v := 2) (pc' := 146) dX11_init_145 ic_2 rfl ?_
    refine ex_iconst (v := (-1)) (pc' := 147) dX11_init_146 ic_m1 rfl ?_
    refine ex_iast (n := 6) (pc' := 148) dX11_init_147 rfl (inb_in rfl) rfl ?_
    show Ex G mX11_init rmcX11_init (RetQ G none cX274 cI182 cL18 (38, 14358)) (14, 473) cX225 cI125 cL12 148 [(0, .ref (gB G + 99))] [.ref (gB G + 113), .ref (gB G + 99)]
    refine ex_dup (pc' := 149) dX11_init_148 rfl rfl ?_
    refine ex_iconst (v := 3) (pc' := 150) dX11_init_149 ic_3 rfl ?_
    refine ex_iconst (v := (-1)) (pc' := 151) dX11_init_150 ic_m1 rfl ?_
    refine ex_iast (n := 6) (pc' := 152) dX11_init_151 rfl (inb_in rfl) rfl ?_
    show Ex G mX11_init rmcX11_init (RetQ G none cX274 cI182 cL18 (38, 14358)) (14, 473) cX225 cI126 cL12 152 [(0, .ref (gB G + 99))] [.ref (gB G + 113), .ref (gB G + 99)]
    refine ex_dup (pc' := 153) dX11_init_152 rfl rfl ?_
    refine ex_iconst (v := 4) (pc' := 154) dX11_init_153 ic_4 rfl ?_
    refine ex_iconst (v := (-1)) (pc' := 155) dX11_init_154 ic_m1 rfl ?_
    refine ex_iast (n := 6) (pc' := 156) dX11_init_155 rfl (inb_in rfl) rfl ?_
    show Ex G mX11_init rmcX11_init (RetQ G none cX274 cI182 cL18 (38, 14358)) (14, 473) cX225 cI127 cL12 156 [(0, .ref (gB G + 99))] [.ref (gB G + 113), .ref (gB G + 99)]
    refine ex_dup (pc' := 157) dX11_init_156 rfl rfl ?_
    refine ex_iconst (v := 5) (pc' := 158) dX11_init_157 ic_5 rfl ?_
    refine ex_iconst (v := (-1)) (pc' := 159) dX11_init_158 ic_m1 rfl ?_
    refine ex_iast (n := 6) (pc' := 160) dX11_init_159 rfl (inb_in rfl) rfl ?_
    show Ex G mX11_init rmcX11_init (RetQ G none cX274 cI182 cL18 (38, 14358)) (14, 473) cX225 cI128 cL12 160 [(0, .ref (gB G + 99))] [.ref (gB G + 113), .ref (gB G + 99)]
    refine ex_putFR (pc' := 163) dX11_init_160 fl_X11_52 rfl coX11 rfl rfl rfl rfl ?_
    show Ex G mX11_init rmcX11_init (RetQ G none cX274 cI182 cL18 (38, 14358)) (14, 473) cX226 cI128 cL12 163 [(0, .ref (gB G + 99))] []
    refine ex_aload_n 0 (pc' := 164) dX11_init_163 rfl rfl rfl ?_
    refine ex_bipush (v := 6) (pc' := 166) dX11_init_164 bp_6 rfl ?_
    refine ex_newI (N := 6) (pc' := 168) dX11_init_166 acI (by decide) (by decide) (Nat.le_of_ble_eq_true rfl) ⟨Nat.le_of_ble_eq_true rfl, Nat.le_of_ble_eq_true rfl⟩ rfl ?_
    show Ex G mX11_init rmcX11_init (RetQ G none cX274 cI182 cL18 (38, 14358)) (15, 479) cX227 cI129 cL12 168 [(0, .ref (gB G + 99))] [.ref (gB G + 114), .ref (gB G + 99)]
    refine ex_putFR (pc' := 171) dX11_init_168 fl_X11_55 rfl coX11 rfl rfl rfl rfl ?_
    show Ex G mX11_init rmcX11_init (RetQ G none cX274 cI182 cL18 (38, 14358)) (15, 479) cX228 cI129 cL12 171 [(0, .ref (gB G + 99))] []
    refine ex_aload_n 0 (pc' := 172) dX11_init_171 rfl rfl rfl ?_
    refine ex_sipush (v := 360) (pc' := 175) dX11_init_172 sp_360 rfl ?_
    refine ex_newL (N := 360) (pc' := 177) dX11_init_175 acL (by decide) (by decide) (Nat.le_of_ble_eq_true rfl) ⟨Nat.le_of_ble_eq_true rfl, Nat.le_of_ble_eq_true rfl⟩ rfl ?_
    show Ex G mX11_init rmcX11_init (RetQ G none cX274 cI182 cL18 (38, 14358)) (16, 839) cX229 cI129 cL13 177 [(0, .ref (gB G + 99))] [.ref (gB G + 115), .ref (gB G + 99)]
    refine ex_putFR (pc' := 180) dX11_init_177 fl_X11_58 rfl coX11 rfl rfl rfl rfl ?_
    show Ex G mX11_init rmcX11_init (RetQ G none cX274 cI182 cL18 (38, 14358)) (16, 839) cX230 cI129 cL13 180 [(0, .ref (gB G + 99))] []
    refine ex_aload_n 0 (pc' := 181) dX11_init_180 rfl rfl rfl ?_
    refine ex_bipush (v := 6) (pc' := 183) dX11_init_181 bp_6 rfl ?_
    refine ex_newI (N := 6) (pc' := 185) dX11_init_183 acI (by decide) (by decide) (Nat.le_of_ble_eq_true rfl) ⟨Nat.le_of_ble_eq_true rfl, Nat.le_of_ble_eq_true rfl⟩ rfl ?_
    show Ex G mX11_init rmcX11_init (RetQ G none cX274 cI182 cL18 (38, 14358)) (17, 845) cX231 cI130 cL13 185 [(0, .ref (gB G + 99))] [.ref (gB G + 116), .ref (gB G + 99)]
    refine ex_putFR (pc' := 188) dX11_init_185 fl_X11_61 rfl coX11 rfl rfl rfl rfl ?_
    show Ex G mX11_init rmcX11_init (RetQ G none cX274 cI182 cL18 (38, 14358)) (17, 845) cX232 cI130 cL13 188 [(0, .ref (gB G + 99))] []
    refine ex_aload_n 0 (pc' := 189) dX11_init_188 rfl rfl rfl ?_
    refine ex_bipush (v := 72) (pc' := 191) dX11_init_189 bp_72 rfl ?_
    refine ex_newI (N := 72) (pc' := 193) dX11_init_191 acI (by decide) (by decide) (Nat.le_of_ble_eq_true rfl) ⟨Nat.le_of_ble_eq_true rfl, Nat.le_of_ble_eq_true rfl⟩ rfl ?_
    show Ex G mX11_init rmcX11_init (RetQ G none cX274 cI182 cL18 (38, 14358)) (18, 917) cX233 cI131 cL13 193 [(0, .ref (gB G + 99))] [.ref (gB G + 117), .ref (gB G + 99)]
    refine ex_putFR (pc' := 196) dX11_init_193 fl_X11_64 rfl coX11 rfl rfl rfl rfl ?_
    show Ex G mX11_init rmcX11_init (RetQ G none cX274 cI182 cL18 (38, 14358)) (18, 917) cX234 cI131 cL13 196 [(0, .ref (gB G + 99))] []
    refine ex_aload_n 0 (pc' := 197) dX11_init_196 rfl rfl rfl ?_
    refine ex_sipush (v := 169) (pc' := 200) dX11_init_197 sp_169 rfl ?_
    refine ex_newL (N := 169) (pc' := 202) dX11_init_200 acL (by decide) (by decide) (Nat.le_of_ble_eq_true rfl) ⟨Nat.le_of_ble_eq_true rfl, Nat.le_of_ble_eq_true rfl⟩ rfl ?_
    show Ex G mX11_init rmcX11_init (RetQ G none cX274 cI182 cL18 (38, 14358)) (19, 1086) cX235 cI131 cL14 202 [(0, .ref (gB G + 99))] [.ref (gB G + 118), .ref (gB G + 99)]
    refine ex_putFR (pc' := 205) dX11_init_202 fl_X11_67 rfl coX11 rfl rfl rfl rfl ?_
    show Ex G mX11_init rmcX11_init (RetQ G none cX274 cI182 cL18 (38, 14358)) (19, 1086) cX236 cI131 cL14 205 [(0, .ref (gB G + 99))] []
    refine ex_aload_n 0 (pc' := 206) dX11_init_205 rfl rfl rfl ?_
    refine ex_bipush (v := 6) (pc' := 208) dX11_init_206 bp_6 rfl ?_
    refine ex_newI (N := 6) (pc' := 210) dX11_init_208 acI (by decide) (by decide) (Nat.le_of_ble_eq_true rfl) ⟨Nat.le_of_ble_eq_true rfl, Nat.le_of_ble_eq_true rfl⟩ rfl ?_
    show Ex G mX11_init rmcX11_init (RetQ G none cX274 cI182 cL18 (38, 14358)) (20, 1092) cX237 cI132 cL14 210 [(0, .ref (gB G + 99))] [.ref (gB G + 119), .ref (gB G + 99)]
    refine ex_putFR (pc' := 213) dX11_init_210 fl_X11_70 rfl coX11 rfl rfl rfl rfl ?_
    show Ex G mX11_init rmcX11_init (RetQ G none cX274 cI182 cL18 (38, 14358)) (20, 1092) cX238 cI132 cL14 213 [(0, .ref (gB G + 99))] []
    refine ex_aload_n 0 (pc' := 214) dX11_init_213 rfl rfl rfl ?_
    refine ex_bipush (v := 36) (pc' := 216) dX11_init_214 bp_36 rfl ?_
    refine ex_newI (N := 36) (pc' := 218) dX11_init_216 acI (by decide) (by decide) (Nat.le_of_ble_eq_true rfl) ⟨Nat.le_of_ble_eq_true rfl, Nat.le_of_ble_eq_true rfl⟩ rfl ?_
    show Ex G mX11_init rmcX11_init (RetQ G none cX274 cI182 cL18 (38, 14358)) (21, 1128) cX239 cI133 cL14 218 [(0, .ref (gB G + 99))] [.ref (gB G + 120), .ref (gB G + 99)]
    refine ex_putFR (pc' := 221) dX11_init_218 fl_X11_73 rfl coX11 rfl rfl rfl rfl ?_
    show Ex G mX11_init rmcX11_init (RetQ G none cX274 cI182 cL18 (38, 14358)) (21, 1128) cX240 cI133 cL14 221 [(0, .ref (gB G + 99))] []
    refine ex_aload_n 0 (pc' := 222) dX11_init_221 rfl rfl rfl ?_
    refine ex_bipush (v := 36) (pc' := 224) dX11_init_222 bp_36 rfl ?_
    refine ex_newI (N := 36) (pc' := 226) dX11_init_224 acI (by decide) (by decide) (Nat.le_of_ble_eq_true rfl) ⟨Nat.le_of_ble_eq_true rfl, Nat.le_of_ble_eq_true rfl⟩ rfl ?_
    show Ex G mX11_init rmcX11_init (RetQ G none cX274 cI182 cL18 (38, 14358)) (22, 1164) cX241 cI134 cL14 226 [(0, .ref (gB G + 99))] [.ref (gB G + 121), .ref (gB G + 99)]
    refine ex_putFR (pc' := 229) dX11_init_226 fl_X11_76 rfl coX11 rfl rfl rfl rfl ?_
    show Ex G mX11_init rmcX11_init (RetQ G none cX274 cI182 cL18 (38, 14358)) (22, 1164) cX242 cI134 cL14 229 [(0, .ref (gB G + 99))] []
    refine ex_aload_n 0 (pc' := 230) dX11_init_229 rfl rfl rfl ?_
    refine ex_iconst (v := 4) (pc' := 231) dX11_init_230 ic_4 rfl ?_
    refine ex_newI (N := 4) (pc' := 233) dX11_init_231 acI (by decide) (by decide) (Nat.le_of_ble_eq_true rfl) ⟨Nat.le_of_ble_eq_true rfl, Nat.le_of_ble_eq_true rfl⟩ rfl ?_
    show Ex G mX11_init rmcX11_init (RetQ G none cX274 cI182 cL18 (38, 14358)) (23, 1168) cX243 cI135 cL14 233 [(0, .ref (gB G + 99))] [.ref (gB G + 122), .ref (gB G + 99)]
    refine ex_putFR (pc' := 236) dX11_init_233 fl_X11_79 rfl coX11 rfl rfl rfl rfl ?_
    show Ex G mX11_init rmcX11_init (RetQ G none cX274 cI182 cL18 (38, 14358)) (23, 1168) cX244 cI135 cL14 236 [(0, .ref (gB G + 99))] []
    refine ex_aload_n 0 (pc' := 237) dX11_init_236 rfl rfl rfl ?_
    refine ex_iconst (v := 4) (pc' := 238) dX11_init_237 ic_4 rfl ?_
    refine ex_newI (N := 4) (pc' := 240) dX11_init_238 acI (by decide) (by decide) (Nat.le_of_ble_eq_true rfl) ⟨Nat.le_of_ble_eq_true rfl, Nat.le_of_ble_eq_true rfl⟩ rfl ?_
    show Ex G mX11_init rmcX11_init (RetQ G none cX274 cI182 cL18 (38, 14358)) (24, 1172) cX245 cI136 cL14 240 [(0, .ref (gB G + 99))] [.ref (gB G + 123), .ref (gB G + 99)]
    refine ex_putFR (pc' := 243) dX11_init_240 fl_X11_82 rfl coX11 rfl rfl rfl rfl ?_
    show Ex G mX11_init rmcX11_init (RetQ G none cX274 cI182 cL18 (38, 14358)) (24, 1172) cX246 cI136 cL14 243 [(0, .ref (gB G + 99))] []
    refine ex_aload_n 0 (pc' := 244) dX11_init_243 rfl rfl rfl ?_
    refine ex_bipush (v := 14) (pc' := 246) dX11_init_244 bp_14 rfl ?_
    refine ex_newL (N := 14) (pc' := 248) dX11_init_246 acL (by decide) (by decide) (Nat.le_of_ble_eq_true rfl) ⟨Nat.le_of_ble_eq_true rfl, Nat.le_of_ble_eq_true rfl⟩ rfl ?_
    show Ex G mX11_init rmcX11_init (RetQ G none cX274 cI182 cL18 (38, 14358)) (25, 1186) cX247 cI136 cL15 248 [(0, .ref (gB G + 99))] [.ref (gB G + 124), .ref (gB G + 99)]
    refine ex_putFR (pc' := 251) dX11_init_248 fl_X11_85 rfl coX11 rfl rfl rfl rfl ?_
    show Ex G mX11_init rmcX11_init (RetQ G none cX274 cI182 cL18 (38, 14358)) (25, 1186) cX248 cI136 cL15 251 [(0, .ref (gB G + 99))] []
    refine ex_aload_n 0 (pc' := 252) dX11_init_251 rfl rfl rfl ?_
    refine ex_sipush (v := 196) (pc' := 255) dX11_init_252 sp_196 rfl ?_
    refine ex_newL (N := 196) (pc' := 257) dX11_init_255 acL (by decide) (by decide) (Nat.le_of_ble_eq_true rfl) ⟨Nat.le_of_ble_eq_true rfl, Nat.le_of_ble_eq_true rfl⟩ rfl ?_
    show Ex G mX11_init rmcX11_init (RetQ G none cX274 cI182 cL18 (38, 14358)) (26, 1382) cX249 cI136 cL16 257 [(0, .ref (gB G + 99))] [.ref (gB G + 125), .ref (gB G + 99)]
    refine ex_putFR (pc' := 260) dX11_init_257 fl_X11_88 rfl coX11 rfl rfl rfl rfl ?_
    show Ex G mX11_init rmcX11_init (RetQ G none cX274 cI182 cL18 (38, 14358)) (26, 1382) cX250 cI136 cL16 260 [(0, .ref (gB G + 99))] []
    refine ex_aload_n 0 (pc' := 261) dX11_init_260 rfl rfl rfl ?_
    refine ex_sipush (v := 196) (pc' := 264) dX11_init_261 sp_196 rfl ?_
    refine ex_newL (N := 196) (pc' := 266) dX11_init_264 acL (by decide) (by decide) (Nat.le_of_ble_eq_true rfl) ⟨Nat.le_of_ble_eq_true rfl, Nat.le_of_ble_eq_true rfl⟩ rfl ?_
    show Ex G mX11_init rmcX11_init (RetQ G none cX274 cI182 cL18 (38, 14358)) (27, 1578) cX251 cI136 cL17 266 [(0, .ref (gB G + 99))] [.ref (gB G + 126), .ref (gB G + 99)]
    refine ex_putFR (pc' := 269) dX11_init_266 fl_X11_91 rfl coX11 rfl rfl rfl rfl ?_
    show Ex G mX11_init rmcX11_init (RetQ G none cX274 cI182 cL18 (38, 14358)) (27, 1578) cX252 cI136 cL17 269 [(0, .ref (gB G + 99))] []
    refine ex_aload_n 0 (pc' := 270) dX11_init_269 rfl rfl rfl ?_
    refine ex_bipush (v := 6) (pc' := 272) dX11_init_270 bp_6 rfl ?_
    refine ex_newI (N := 6) (pc' := 274) dX11_init_272 acI (by decide) (by decide) (Nat.le_of_ble_eq_true rfl) ⟨Nat.le_of_ble_eq_true rfl, Nat.le_of_ble_eq_true rfl⟩ rfl ?_
    show Ex G mX11_init rmcX11_init (RetQ G none cX274 cI182 cL18 (38, 14358)) (28, 1584) cX253 cI137 cL17 274 [(0, .ref (gB G + 99))] [.ref (gB G + 127), .ref (gB G + 99)]
    refine ex_putFR (pc' := 277) dX11_init_274 fl_X11_94 rfl coX11 rfl rfl rfl rfl ?_
    show Ex G mX11_init rmcX11_init (RetQ G none cX274 cI182 cL18 (38, 14358)) (28, 1584) cX254 cI137 cL17 277 [(0, .ref (gB G + 99))] []
    refine ex_aload_n 0 (pc' := 278) dX11_init_277 rfl rfl rfl ?_
    refine ex_bipush (v := 12) (pc' := 280) dX11_init_278 bp_12 rfl ?_
    refine ex_newI (N := 12) (pc' := 282) dX11_init_280 acI (by decide) (by decide) (Nat.le_of_ble_eq_true rfl) ⟨Nat.le_of_ble_eq_true rfl, Nat.le_of_ble_eq_true rfl⟩ rfl ?_
    show Ex G mX11_init rmcX11_init (RetQ G none cX274 cI182 cL18 (38, 14358)) (29, 1596) cX255 cI138 cL17 282 [(0, .ref (gB G + 99))] [.ref (gB G + 128), .ref (gB G + 99)]
    refine ex_putFR (pc' := 285) dX11_init_282 fl_X11_97 rfl coX11 rfl rfl rfl rfl ?_
    show Ex G mX11_init rmcX11_init (RetQ G none cX274 cI182 cL18 (38, 14358)) (29, 1596) cX256 cI138 cL17 285 [(0, .ref (gB G + 99))] []
    refine ex_aload_n 0 (pc' := 286) dX11_init_285 rfl rfl rfl ?_
    refine ex_bipush (v := 64) (pc' := 288) dX11_init_286 bp_64 rfl ?_
    refine ex_newI (N := 64) (pc' := 290) dX11_init_288 acI (by decide) (by decide) (Nat.le_of_ble_eq_true rfl) ⟨Nat.le_of_ble_eq_true rfl, Nat.le_of_ble_eq_true rfl⟩ rfl ?_
    show Ex G mX11_init rmcX11_init (RetQ G none cX274 cI182 cL18 (38, 14358)) (30, 1660) cX257 cI139 cL17 290 [(0, .ref (gB G + 99))] [.ref (gB G + 129), .ref (gB G + 99)]
    refine ex_putFR (pc' := 293) dX11_init_290 fl_X11_100 rfl coX11 rfl rfl rfl rfl ?_
    show Ex G mX11_init rmcX11_init (RetQ G none cX274 cI182 cL18 (38, 14358)) (30, 1660) cX258 cI139 cL17 293 [(0, .ref (gB G + 99))] []
    refine ex_aload_n 0 (pc' := 294) dX11_init_293 rfl rfl rfl ?_
    refine ex_bipush (v := 7) (pc' := 296) dX11_init_294 bp_7 rfl ?_
    refine ex_newI (N := 7) (pc' := 298) dX11_init_296 acI (by decide) (by decide) (Nat.le_of_ble_eq_true rfl) ⟨Nat.le_of_ble_eq_true rfl, Nat.le_of_ble_eq_true rfl⟩ rfl ?_
    show Ex G mX11_init rmcX11_init (RetQ G none cX274 cI182 cL18 (38, 14358)) (31, 1667) cX259 cI140 cL17 298 [(0, .ref (gB G + 99))] [.ref (gB G + 130), .ref (gB G + 99)]
    refine ex_putFR (pc' := 301) dX11_init_298 fl_X11_103 rfl coX11 rfl rfl rfl rfl ?_
    show Ex G mX11_init rmcX11_init (RetQ G none cX274 cI182 cL18 (38, 14358)) (31, 1667) cX260 cI140 cL17 301 [(0, .ref (gB G + 99))] []
    refine ex_aload_n 0 (pc' := 302) dX11_init_301 rfl rfl rfl ?_
    refine ex_sipush (v := 448) (pc' := 305) dX11_init_302 sp_448 rfl ?_
    refine ex_newI (N := 448) (pc' := 307) dX11_init_305 acI (by decide) (by decide) (Nat.le_of_ble_eq_true rfl) ⟨Nat.le_of_ble_eq_true rfl, Nat.le_of_ble_eq_true rfl⟩ rfl ?_
    show Ex G mX11_init rmcX11_init (RetQ G none cX274 cI182 cL18 (38, 14358)) (32, 2115) cX261 cI141 cL17 307 [(0, .ref (gB G + 99))] [.ref (gB G + 131), .ref (gB G + 99)]
    refine ex_putFR (pc' := 310) dX11_init_307 fl_X11_106 rfl coX11 rfl rfl rfl rfl ?_
    show Ex G mX11_init rmcX11_init (RetQ G none cX274 cI182 cL18 (38, 14358)) (32, 2115) cX262 cI141 cL17 310 [(0, .ref (gB G + 99))] []
    refine ex_aload_n 0 (pc' := 311) dX11_init_310 rfl rfl rfl ?_
    refine ex_sipush (v := 5544) (pc' := 314) dX11_init_311 sp_5544 rfl ?_
    refine ex_newI (N := 5544) (pc' := 316) dX11_init_314 acI (by decide) (by decide) (Nat.le_of_ble_eq_true rfl) ⟨Nat.le_of_ble_eq_true rfl, Nat.le_of_ble_eq_true rfl⟩ rfl ?_
    show Ex G mX11_init rmcX11_init (RetQ G none cX274 cI182 cL18 (38, 14358)) (33, 7659) cX263 cI142 cL17 316 [(0, .ref (gB G + 99))] [.ref (gB G + 132), .ref (gB G + 99)]
    refine ex_putFR (pc' := 319) dX11_init_316 fl_X11_109 rfl coX11 rfl rfl rfl rfl ?_
    show Ex G mX11_init rmcX11_init (RetQ G none cX274 cI182 cL18 (38, 14358)) (33, 7659) cX264 cI142 cL17 319 [(0, .ref (gB G + 99))] []
    refine ex_aload_n 0 (pc' := 320) dX11_init_319 rfl rfl rfl ?_
    refine ex_sipush (v := 6468) (pc' := 323) dX11_init_320 sp_6468 rfl ?_
    refine ex_newI (N := 6468) (pc' := 325) dX11_init_323 acI (by decide) (by decide) (Nat.le_of_ble_eq_true rfl) ⟨Nat.le_of_ble_eq_true rfl, Nat.le_of_ble_eq_true rfl⟩ rfl ?_
    show Ex G mX11_init rmcX11_init (RetQ G none cX274 cI182 cL18 (38, 14358)) (34, 14127) cX265 cI143 cL17 325 [(0, .ref (gB G + 99))] [.ref (gB G + 133), .ref (gB G + 99)]
    refine ex_putFR (pc' := 328) dX11_init_325 fl_X11_112 rfl coX11 rfl rfl rfl rfl ?_
    show Ex G mX11_init rmcX11_init (RetQ G none cX274 cI182 cL18 (38, 14358)) (34, 14127) cX266 cI143 cL17 328 [(0, .ref (gB G + 99))] []
    refine ex_aload_n 0 (pc' := 329) dX11_init_328 rfl rfl rfl ?_
    refine ex_bipush (v := 6) (pc' := 331) dX11_init_329 bp_6 rfl ?_
    refine ex_newI (N := 6) (pc' := 333) dX11_init_331 acI (by decide) (by decide) (Nat.le_of_ble_eq_true rfl) ⟨Nat.le_of_ble_eq_true rfl, Nat.le_of_ble_eq_true rfl⟩ rfl ?_
    show Ex G mX11_init rmcX11_init (RetQ G none cX274 cI182 cL18 (38, 14358)) (35, 14133) cX267 cI144 cL17 333 [(0, .ref (gB G + 99))] [.ref (gB G + 134), .ref (gB G + 99)]
    refine ex_putFR (pc' := 336) dX11_init_333 fl_X11_115 rfl coX11 rfl rfl rfl rfl ?_
    show Ex G mX11_init rmcX11_init (RetQ G none cX274 cI182 cL18 (38, 14358)) (35, 14133) cX268 cI144 cL17 336 [(0, .ref (gB G + 99))] []
    refine ex_aload_n 0 (pc' := 337) dX11_init_336 rfl rfl rfl ?_
    refine ex_sipush (v := 160) (pc' := 340) dX11_init_337 sp_160 rfl ?_
    refine ex_newI (N := 160) (pc' := 342) dX11_init_340 acI (by decide) (by decide) (Nat.le_of_ble_eq_true rfl) ⟨Nat.le_of_ble_eq_true rfl, Nat.le_of_ble_eq_true rfl⟩ rfl ?_
    show Ex G mX11_init rmcX11_init (RetQ G none cX274 cI182 cL18 (38, 14358)) (36, 14293) cX269 cI145 cL17 342 [(0, .ref (gB G + 99))] [.ref (gB G + 135), .ref (gB G + 99)]
    refine ex_putFR (pc' := 345) dX11_init_342 fl_X11_118 rfl coX11 rfl rfl rfl rfl ?_
    show Ex G mX11_init rmcX11_init (RetQ G none cX274 cI182 cL18 (38, 14358)) (36, 14293) cX270 cI145 cL17 345 [(0, .ref (gB G + 99))] []
    refine ex_aload_n 0 (pc' := 346) dX11_init_345 rfl rfl rfl ?_
    refine ex_iconst (v := 5) (pc' := 347) dX11_init_346 ic_5 rfl ?_
    refine ex_newI (N := 5) (pc' := 349) dX11_init_347 acI (by decide) (by decide) (Nat.le_of_ble_eq_true rfl) ⟨Nat.le_of_ble_eq_true rfl, Nat.le_of_ble_eq_true rfl⟩ rfl ?_
    show Ex G mX11_init rmcX11_init (RetQ G none cX274 cI182 cL18 (38, 14358)) (37, 14298) cX271 cI146 cL17 349 [(0, .ref (gB G + 99))] [.ref (gB G + 136), .ref (gB G + 99)]
    refine ex_putFR (pc' := 352) dX11_init_349 fl_X11_121 rfl coX11 rfl rfl rfl rfl ?_
    show Ex G mX11_init rmcX11_init (RetQ G none cX274 cI182 cL18 (38, 14358)) (37, 14298) cX272 cI146 cL17 352 [(0, .ref (gB G + 99))] []
    refine ex_aload_n 0 (pc' := 353) dX11_init_352 rfl rfl rfl ?_
    refine ex_bipush (v := 60) (pc' := 355) dX11_init_353 bp_60 rfl ?_
    refine ex_newL (N := 60) (pc' := 357) dX11_init_355 acL (by decide) (by decide) (Nat.le_of_ble_eq_true rfl) ⟨Nat.le_of_ble_eq_true rfl, Nat.le_of_ble_eq_true rfl⟩ rfl ?_
    show Ex G mX11_init rmcX11_init (RetQ G none cX274 cI182 cL18 (38, 14358)) (38, 14358) cX273 cI146 cL18 357 [(0, .ref (gB G + 99))] [.ref (gB G + 137), .ref (gB G + 99)]
    refine ex_putFR (pc' := 360) dX11_init_357 fl_X11_124 rfl coX11 rfl rfl rfl rfl ?_
    show Ex G mX11_init rmcX11_init (RetQ G none cX274 cI182 cL18 (38, 14358)) (38, 14358) cX274 cI146 cL18 360 [(0, .ref (gB G + 99))] []
    refine ex_iconst (v := 0) (pc' := 361) dX11_init_360 ic_0 rfl ?_
    refine ex_istore_n (lv' := [(1, .int 0), (0, .ref (gB G + 99))]) (pc' := 362) dX11_init_361 rfl (Nat.le_of_ble_eq_true rfl) rfl rfl ?_
    refine ex_iload_n 0 (pc' := 363) dX11_init_362 rfl rfl rfl ?_
    refine ex_bipush (v := 36) (pc' := 365) dX11_init_363 bp_36 rfl ?_
    refine ex_icmpge (tgt := 381) (pc' := 368) dX11_init_365 (by decide) rfl (fun hc => ?_) (fun hc => absurd (by decide) hc)
    refine ex_aload_n 1 (pc' := 369) dX11_init_368 rfl rfl rfl ?_
    refine ex_getR (a' := 105) (pc' := 372) dX11_init_369 fl_X11_28 rfl rfl rfl rfl ?_
    refine ex_iload_n 0 (pc' := 373) dX11_init_372 rfl rfl rfl ?_
    refine ex_iconst (v := 1) (pc' := 374) dX11_init_373 ic_1 rfl ?_
    refine ex_iast (n := 36) (pc' := 375) dX11_init_374 rfl (inb_in rfl) rfl ?_
    show Ex G mX11_init rmcX11_init (RetQ G none cX274 cI182 cL18 (38, 14358)) (38, 14358) cX274 cI147 cL18 375 [(1, .int 0), (0, .ref (gB G + 99))] []
    refine ex_iinc (v := 1) (lv' := [(1, .int 1), (0, .ref (gB G + 99))]) 0 (pc' := 378) dX11_init_375 rfl (by decide) (Nat.le_of_ble_eq_true rfl) rfl rfl ?_
    refine ex_goto (tgt := 362) dX11_init_378 (by decide) ?_
    refine ex_iload_n 0 (pc' := 363) dX11_init_362 rfl rfl rfl ?_
    refine ex_bipush (v := 36) (pc' := 365) dX11_init_363 bp_36 rfl ?_
    refine ex_icmpge (tgt := 381) (pc' := 368) dX11_init_365 (by decide) rfl (fun hc => ?_) (fun hc => absurd (by decide) hc)
    refine ex_aload_n 1 (pc' := 369) dX11_init_368 rfl rfl rfl ?_
    refine ex_getR (a' := 105) (pc' := 372) dX11_init_369 fl_X11_28 rfl rfl rfl rfl ?_
    refine ex_iload_n 0 (pc' := 373) dX11_init_372 rfl rfl rfl ?_
    refine ex_iconst (v := 1) (pc' := 374) dX11_init_373 ic_1 rfl ?_
    refine ex_iast (n := 36) (pc' := 375) dX11_init_374 rfl (inb_in rfl) rfl ?_
    show Ex G mX11_init rmcX11_init (RetQ G none cX274 cI182 cL18 (38, 14358)) (38, 14358) cX274 cI148 cL18 375 [(1, .int 1), (0, .ref (gB G + 99))] []
    refine ex_iinc (v := 2) (lv' := [(1, .int 2), (0, .ref (gB G + 99))]) 0 (pc' := 378) dX11_init_375 rfl (by decide) (Nat.le_of_ble_eq_true rfl) rfl rfl ?_
    refine ex_goto (tgt := 362) dX11_init_378 (by decide) ?_
    refine ex_iload_n 0 (pc' := 363) dX11_init_362 rfl rfl rfl ?_
    refine ex_bipush (v := 36) (pc' := 365) dX11_init_363 bp_36 rfl ?_
    refine ex_icmpge (tgt := 381) (pc' := 368) dX11_init_365 (by decide) rfl (fun hc => ?_) (fun hc => absurd (by decide) hc)
    refine ex_aload_n 1 (pc' := 369) dX11_init_368 rfl rfl rfl ?_
    refine ex_getR (a' := 105) (pc' := 372) dX11_init_369 fl_X11_28 rfl rfl rfl rfl ?_
    refine ex_iload_n 0 (pc' := 373) dX11_init_372 rfl rfl rfl ?_
    refine ex_iconst (v := 1) (pc' := 374) dX11_init_373 ic_1 rfl ?_
    refine ex_iast (n := 36) (pc' := 375) dX11_init_374 rfl (inb_in rfl) rfl ?_
    show Ex G mX11_init rmcX11_init (RetQ G none cX274 cI182 cL18 (38, 14358)) (38, 14358) cX274 cI149 cL18 375 [(1, .int 2), (0, .ref (gB G + 99))] []
    refine ex_iinc (v := 3) (lv' := [(1, .int 3), (0, .ref (gB G + 99))]) 0 (pc' := 378) dX11_init_375 rfl (by decide) (Nat.le_of_ble_eq_true rfl) rfl rfl ?_
    refine ex_goto (tgt := 362) dX11_init_378 (by decide) ?_
    refine ex_iload_n 0 (pc' := 363) dX11_init_362 rfl rfl rfl ?_
    refine ex_bipush (v := 36) (pc' := 365) dX11_init_363 bp_36 rfl ?_
    refine ex_icmpge (tgt := 381) (pc' := 368) dX11_init_365 (by decide) rfl (fun hc => ?_) (fun hc => absurd (by decide) hc)
    refine ex_aload_n 1 (pc' := 369) dX11_init_368 rfl rfl rfl ?_
    refine ex_getR (a' := 105) (pc' := 372) dX11_init_369 fl_X11_28 rfl rfl rfl rfl ?_
    refine ex_iload_n 0 (pc' := 373) dX11_init_372 rfl rfl rfl ?_
    refine ex_iconst (v := 1) (pc' := 374) dX11_init_373 ic_1 rfl ?_
    refine ex_iast (n := 36) (pc' := 375) dX11_init_374 rfl (inb_in rfl) rfl ?_
    show Ex G mX11_init rmcX11_init (RetQ G none cX274 cI182 cL18 (38, 14358)) (38, 14358) cX274 cI150 cL18 375 [(1, .int 3), (0, .ref (gB G + 99))] []
    refine ex_iinc (v := 4) (lv' := [(1, .int 4), (0, .ref (gB G + 99))]) 0 (pc' := 378) dX11_init_375 rfl (by decide) (Nat.le_of_ble_eq_true rfl) rfl rfl ?_
    refine ex_goto (tgt := 362) dX11_init_378 (by decide) ?_
    refine ex_iload_n 0 (pc' := 363) dX11_init_362 rfl rfl rfl ?_
    refine ex_bipush (v := 36) (pc' := 365) dX11_init_363 bp_36 rfl ?_
    refine ex_icmpge (tgt := 381) (pc' := 368) dX11_init_365 (by decide) rfl (fun hc => ?_) (fun hc => absurd (by decide) hc)
    refine ex_aload_n 1 (pc' := 369) dX11_init_368 rfl rfl rfl ?_
    refine ex_getR (a' := 105) (pc' := 372) dX11_init_369 fl_X11_28 rfl rfl rfl rfl ?_
    refine ex_iload_n 0 (pc' := 373) dX11_init_372 rfl rfl rfl ?_
    refine ex_iconst (v := 1) (pc' := 374) dX11_init_373 ic_1 rfl ?_
    refine ex_iast (n := 36) (pc' := 375) dX11_init_374 rfl (inb_in rfl) rfl ?_
    show Ex G mX11_init rmcX11_init (RetQ G none cX274 cI182 cL18 (38, 14358)) (38, 14358) cX274 cI151 cL18 375 [(1, .int 4), (0, .ref (gB G + 99))] []
    refine ex_iinc (v := 5) (lv' := [(1, .int 5), (0, .ref (gB G + 99))]) 0 (pc' := 378) dX11_init_375 rfl (by decide) (Nat.le_of_ble_eq_true rfl) rfl rfl ?_
    refine ex_goto (tgt := 362) dX11_init_378 (by decide) ?_
    refine ex_iload_n 0 (pc' := 363) dX11_init_362 rfl rfl rfl ?_
    refine ex_bipush (v := 36) (pc' := 365) dX11_init_363 bp_36 rfl ?_
    refine ex_icmpge (tgt := 381) (pc' := 368) dX11_init_365 (by decide) rfl (fun hc => ?_) (fun hc => absurd (by decide) hc)
    refine ex_aload_n 1 (pc' := 369) dX11_init_368 rfl rfl rfl ?_
    refine ex_getR (a' := 105) (pc' := 372) dX11_init_369 fl_X11_28 rfl rfl rfl rfl ?_
    refine ex_iload_n 0 (pc' := 373) dX11_init_372 rfl rfl rfl ?_
    refine ex_iconst (v := 1) (pc' := 374) dX11_init_373 ic_1 rfl ?_
    refine ex_iast (n := 36) (pc' := 375) dX11_init_374 rfl (inb_in rfl) rfl ?_
    show Ex G mX11_init rmcX11_init (RetQ G none cX274 cI182 cL18 (38, 14358)) (38, 14358) cX274 cI152 cL18 375 [(1, .int 5), (0, .ref (gB G + 99))] []
    refine ex_iinc (v := 6) (lv' := [(1, .int 6), (0, .ref (gB G + 99))]) 0 (pc' := 378) dX11_init_375 rfl (by decide) (Nat.le_of_ble_eq_true rfl) rfl rfl ?_
    refine ex_goto (tgt := 362) dX11_init_378 (by decide) ?_
    refine ex_iload_n 0 (pc' := 363) dX11_init_362 rfl rfl rfl ?_
    refine ex_bipush (v := 36) (pc' := 365) dX11_init_363 bp_36 rfl ?_
    refine ex_icmpge (tgt := 381) (pc' := 368) dX11_init_365 (by decide) rfl (fun hc => ?_) (fun hc => absurd (by decide) hc)
    refine ex_aload_n 1 (pc' := 369) dX11_init_368 rfl rfl rfl ?_
    refine ex_getR (a' := 105) (pc' := 372) dX11_init_369 fl_X11_28 rfl rfl rfl rfl ?_
    refine ex_iload_n 0 (pc' := 373) dX11_init_372 rfl rfl rfl ?_
    refine ex_iconst (v := 1) (pc' := 374) dX11_init_373 ic_1 rfl ?_
    refine ex_iast (n := 36) (pc' := 375) dX11_init_374 rfl (inb_in rfl) rfl ?_
    show Ex G mX11_init rmcX11_init (RetQ G none cX274 cI182 cL18 (38, 14358)) (38, 14358) cX274 cI153 cL18 375 [(1, .int 6), (0, .ref (gB G + 99))] []
    refine ex_iinc (v := 7) (lv' := [(1, .int 7), (0, .ref (gB G + 99))]) 0 (pc' := 378) dX11_init_375 rfl (by decide) (Nat.le_of_ble_eq_true rfl) rfl rfl ?_
    refine ex_goto (tgt := 362) dX11_init_378 (by decide) ?_
    refine ex_iload_n 0 (pc' := 363) dX11_init_362 rfl rfl rfl ?_
    refine ex_bipush (v := 36) (pc' := 365) dX11_init_363 bp_36 rfl ?_
    refine ex_icmpge (tgt := 381) (pc' := 368) dX11_init_365 (by decide) rfl (fun hc => ?_) (fun hc => absurd (by decide) hc)
    refine ex_aload_n 1 (pc' := 369) dX11_init_368 rfl rfl rfl ?_
    refine ex_getR (a' := 105) (pc' := 372) dX11_init_369 fl_X11_28 rfl rfl rfl rfl ?_
    refine ex_iload_n 0 (pc' := 373) dX11_init_372 rfl rfl rfl ?_
    refine ex_iconst (v := 1) (pc' := 374) dX11_init_373 ic_1 rfl ?_
    refine ex_iast (n := 36) (pc' := 375) dX11_init_374 rfl (inb_in rfl) rfl ?_
    show Ex G mX11_init rmcX11_init (RetQ G none cX274 cI182 cL18 (38, 14358)) (38, 14358) cX274 cI154 cL18 375 [(1, .int 7), (0, .ref (gB G + 99))] []
    refine ex_iinc (v := 8) (lv' := [(1, .int 8), (0, .ref (gB G + 99))]) 0 (pc' := 378) dX11_init_375 rfl (by decide) (Nat.le_of_ble_eq_true rfl) rfl rfl ?_
    refine ex_goto (tgt := 362) dX11_init_378 (by decide) ?_
    refine ex_iload_n 0 (pc' := 363) dX11_init_362 rfl rfl rfl ?_
    refine ex_bipush (v := 36) (pc' := 365) dX11_init_363 bp_36 rfl ?_
    refine ex_icmpge (tgt := 381) (pc' := 368) dX11_init_365 (by decide) rfl (fun hc => ?_) (fun hc => absurd (by decide) hc)
    refine ex_aload_n 1 (pc' := 369) dX11_init_368 rfl rfl rfl ?_
    refine ex_getR (a' := 105) (pc' := 372) dX11_init_369 fl_X11_28 rfl rfl rfl rfl ?_
    refine ex_iload_n 0 (pc' := 373) dX11_init_372 rfl rfl rfl ?_
    refine ex_iconst (v := 1) (pc' := 374) dX11_init_373 ic_1 rfl ?_
    refine ex_iast (n := 36) (pc' := 375) dX11_init_374 rfl (inb_in rfl) rfl ?_
    show Ex G mX11_init rmcX11_init (RetQ G none cX274 cI182 cL18 (38, 14358)) (38, 14358) cX274 cI155 cL18 375 [(1, .int 8), (0, .ref (gB G + 99))] []
    refine ex_iinc (v := 9) (lv' := [(1, .int 9), (0, .ref (gB G + 99))]) 0 (pc' := 378) dX11_init_375 rfl (by decide) (Nat.le_of_ble_eq_true rfl) rfl rfl ?_
    refine ex_goto (tgt := 362) dX11_init_378 (by decide) ?_
    refine ex_iload_n 0 (pc' := 363) dX11_init_362 rfl rfl rfl ?_
    refine ex_bipush (v := 36) (pc' := 365) dX11_init_363 bp_36 rfl ?_
    refine ex_icmpge (tgt := 381) (pc' := 368) dX11_init_365 (by decide) rfl (fun hc => ?_) (fun hc => absurd (by decide) hc)
    refine ex_aload_n 1 (pc' := 369) dX11_init_368 rfl rfl rfl ?_
    refine ex_getR (a' := 105) (pc' := 372) dX11_init_369 fl_X11_28 rfl rfl rfl rfl ?_
    refine ex_iload_n 0 (pc' := 373) dX11_init_372 rfl rfl rfl ?_
    refine ex_iconst (v := 1) (pc' := 374) dX11_init_373 ic_1 rfl ?_
    refine ex_iast (n := 36) (pc' := 375) dX11_init_374 rfl (inb_in rfl) rfl ?_
    show Ex G mX11_init rmcX11_init (RetQ G none cX274 cI182 cL18 (38, 14358)) (38, 14358) cX274 cI156 cL18 375 [(1, .int 9), (0, .ref (gB G + 99))] []
    refine ex_iinc (v := 10) (lv' := [(1, .int 10), (0, .ref (gB G + 99))]) 0 (pc' := 378) dX11_init_375 rfl (by decide) (Nat.le_of_ble_eq_true rfl) rfl rfl ?_
    refine ex_goto (tgt := 362) dX11_init_378 (by decide) ?_
    refine ex_iload_n 0 (pc' := 363) dX11_init_362 rfl rfl rfl ?_
    refine ex_bipush (v := 36) (pc' := 365) dX11_init_363 bp_36 rfl ?_
    refine ex_icmpge (tgt := 381) (pc' := 368) dX11_init_365 (by decide) rfl (fun hc => ?_) (fun hc => absurd (by decide) hc)
    refine ex_aload_n 1 (pc' := 369) dX11_init_368 rfl rfl rfl ?_
    refine ex_getR (a' := 105) (pc' := 372) dX11_init_369 fl_X11_28 rfl rfl rfl rfl ?_
    refine ex_iload_n 0 (pc' := 373) dX11_init_372 rfl rfl rfl ?_
    refine ex_iconst (v := 1) (pc' := 374) dX11_init_373 ic_1 rfl ?_
    refine ex_iast (n := 36) (pc' := 375) dX11_init_374 rfl (inb_in rfl) rfl ?_
    show Ex G mX11_init rmcX11_init (RetQ G none cX274 cI182 cL18 (38, 14358)) (38, 14358) cX274 cI157 cL18 375 [(1, .int 10), (0, .ref (gB G + 99))] []
    refine ex_iinc (v := 11) (lv' := [(1, .int 11), (0, .ref (gB G + 99))]) 0 (pc' := 378) dX11_init_375 rfl (by decide) (Nat.le_of_ble_eq_true rfl) rfl rfl ?_
    refine ex_goto (tgt := 362) dX11_init_378 (by decide) ?_
    refine ex_iload_n 0 (pc' := 363) dX11_init_362 rfl rfl rfl ?_
    refine ex_bipush (v := 36) (pc' := 365) dX11_init_363 bp_36 rfl ?_
    refine ex_icmpge (tgt := 381) (pc' := 368) dX11_init_365 (by decide) rfl (fun hc => ?_) (fun hc => absurd (by decide) hc)
    refine ex_aload_n 1 (pc' := 369) dX11_init_368 rfl rfl rfl ?_
    refine ex_getR (a' := 105) (pc' := 372) dX11_init_369 fl_X11_28 rfl rfl rfl rfl ?_
    refine ex_iload_n 0 (pc' := 373) dX11_init_372 rfl rfl rfl ?_
    refine ex_iconst (v := 1) (pc' := 374) dX11_init_373 ic_1 rfl ?_
    refine ex_iast (n := 36) (pc' := 375) dX11_init_374 rfl (inb_in rfl) rfl ?_
    show Ex G mX11_init rmcX11_init (RetQ G none cX274 cI182 cL18 (38, 14358)) (38, 14358) cX274 cI158 cL18 375 [(1, .int 11), (0, .ref (gB G + 99))] []
    refine ex_iinc (v := 12) (lv' := [(1, .int 12), (0, .ref (gB G + 99))]) 0 (pc' := 378) dX11_init_375 rfl (by decide) (Nat.le_of_ble_eq_true rfl) rfl rfl ?_
    refine ex_goto (tgt := 362) dX11_init_378 (by decide) ?_
    refine ex_iload_n 0 (pc' := 363) dX11_init_362 rfl rfl rfl ?_
    refine ex_bipush (v := 36) (pc' := 365) dX11_init_363 bp_36 rfl ?_
    refine ex_icmpge (tgt := 381) (pc' := 368) dX11_init_365 (by decide) rfl (fun hc => ?_) (fun hc => absurd (by decide) hc)
    refine ex_aload_n 1 (pc' := 369) dX11_init_368 rfl rfl rfl ?_
    refine ex_getR (a' := 105) (pc' := 372) dX11_init_369 fl_X11_28 rfl rfl rfl rfl ?_
    refine ex_iload_n 0 (pc' := 373) dX11_init_372 rfl rfl rfl ?_
    refine ex_iconst (v := 1) (pc' := 374) dX11_init_373 ic_1 rfl ?_
    refine ex_iast (n := 36) (pc' := 375) dX11_init_374 rfl (inb_in rfl) rfl ?_
    show Ex G mX11_init rmcX11_init (RetQ G none cX274 cI182 cL18 (38, 14358)) (38, 14358) cX274 cI159 cL18 375 [(1, .int 12), (0, .ref (gB G + 99))] []
    refine ex_iinc (v := 13) (lv' := [(1, .int 13), (0, .ref (gB G + 99))]) 0 (pc' := 378) dX11_init_375 rfl (by decide) (Nat.le_of_ble_eq_true rfl) rfl rfl ?_
    refine ex_goto (tgt := 362) dX11_init_378 (by decide) ?_
    refine ex_iload_n 0 (pc' := 363) dX11_init_362 rfl rfl rfl ?_
    refine ex_bipush (v := 36) (pc' := 365) dX11_init_363 bp_36 rfl ?_
    refine ex_icmpge (tgt := 381) (pc' := 368) dX11_init_365 (by decide) rfl (fun hc => ?_) (fun hc => absurd (by decide) hc)
    refine ex_aload_n 1 (pc' := 369) dX11_init_368 rfl rfl rfl ?_
    refine ex_getR (a' := 105) (pc' := 372) dX11_init_369 fl_X11_28 rfl rfl rfl rfl ?_
    refine ex_iload_n 0 (pc' := 373) dX11_init_372 rfl rfl rfl ?_
    refine ex_iconst (v := 1) (pc' := 374) dX11_init_373 ic_1 rfl ?_
    refine ex_iast (n := 36) (pc' := 375) dX11_init_374 rfl (inb_in rfl) rfl ?_
    show Ex G mX11_init rmcX11_init (RetQ G none cX274 cI182 cL18 (38, 14358)) (38, 14358) cX274 cI160 cL18 375 [(1, .int 13), (0, .ref (gB G + 99))] []
    refine ex_iinc (v := 14) (lv' := [(1, .int 14), (0, .ref (gB G + 99))]) 0 (pc' := 378) dX11_init_375 rfl (by decide) (Nat.le_of_ble_eq_true rfl) rfl rfl ?_
    refine ex_goto (tgt := 362) dX11_init_378 (by decide) ?_
    refine ex_iload_n 0 (pc' := 363) dX11_init_362 rfl rfl rfl ?_
    refine ex_bipush (v := 36) (pc' := 365) dX11_init_363 bp_36 rfl ?_
    refine ex_icmpge (tgt := 381) (pc' := 368) dX11_init_365 (by decide) rfl (fun hc => ?_) (fun hc => absurd (by decide) hc)
    refine ex_aload_n 1 (pc' := 369) dX11_init_368 rfl rfl rfl ?_
    refine ex_getR (a' := 105) (pc' := 372) dX11_init_369 fl_X11_28 rfl rfl rfl rfl ?_
    refine ex_iload_n 0 (pc' := 373) dX11_init_372 rfl rfl rfl ?_
    refine ex_iconst (v := 1) (pc' := 374) dX11_init_373 ic_1 rfl ?_
    refine ex_iast (n := 36) (pc' := 375) dX11_init_374 rfl (inb_in rfl) rfl ?_
    show Ex G mX11_init rmcX11_init (RetQ G none cX274 cI182 cL18 (38, 14358)) (38, 14358) cX274 cI161 cL18 375 [(1, .int 14), (0, .ref (gB G + 99))] []
    refine ex_iinc (v := 15) (lv' := [(1, .int 15), (0, .ref (gB G + 99))]) 0 (pc' := 378) dX11_init_375 rfl (by decide) (Nat.le_of_ble_eq_true rfl) rfl rfl ?_
    refine ex_goto (tgt := 362) dX11_init_378 (by decide) ?_
    refine ex_iload_n 0 (pc' := 363) dX11_init_362 rfl rfl rfl ?_
    refine ex_bipush (v := 36) (pc' := 365) dX11_init_363 bp_36 rfl ?_
    refine ex_icmpge (tgt := 381) (pc' := 368) dX11_init_365 (by decide) rfl (fun hc => ?_) (fun hc => absurd (by decide) hc)
    refine ex_aload_n 1 (pc' := 369) dX11_init_368 rfl rfl rfl ?_
    refine ex_getR (a' := 105) (pc' := 372) dX11_init_369 fl_X11_28 rfl rfl rfl rfl ?_
    refine ex_iload_n 0 (pc' := 373) dX11_init_372 rfl rfl rfl ?_
    refine ex_iconst (v := 1) (pc' := 374) dX11_init_373 ic_1 rfl ?_
    refine ex_iast (n := 36) (pc' := 375) dX11_init_374 rfl (inb_in rfl) rfl ?_
    show Ex G mX11_init rmcX11_init (RetQ G none cX274 cI182 cL18 (38, 14358)) (38, 14358) cX274 cI162 cL18 375 [(1, .int 15), (0, .ref (gB G + 99))] []
    refine ex_iinc (v := 16) (lv' := [(1, .int 16), (0, .ref (gB G + 99))]) 0 (pc' := 378) dX11_init_375 rfl (by decide) (Nat.le_of_ble_eq_true rfl) rfl rfl ?_
    refine ex_goto (tgt := 362) dX11_init_378 (by decide) ?_
    refine ex_iload_n 0 (pc' := 363) dX11_init_362 rfl rfl rfl ?_
    refine ex_bipush (v := 36) (pc' := 365) dX11_init_363 bp_36 rfl ?_
    refine ex_icmpge (tgt := 381) (pc' := 368) dX11_init_365 (by decide) rfl (fun hc => ?_) (fun hc => absurd (by decide) hc)
    refine ex_aload_n 1 (pc' := 369) dX11_init_368 rfl rfl rfl ?_
    refine ex_getR (a' := 105) (pc' := 372) dX11_init_369 fl_X11_28 rfl rfl rfl rfl ?_
    refine ex_iload_n 0 (pc' := 373) dX11_init_372 rfl rfl rfl ?_
    refine ex_iconst (v := 1) (pc' := 374) dX11_init_373 ic_1 rfl ?_
    refine ex_iast (n := 36) (pc' := 375) dX11_init_374 rfl (inb_in rfl) rfl ?_
    show Ex G mX11_init rmcX11_init (RetQ G none cX274 cI182 cL18 (38, 14358)) (38, 14358) cX274 cI163 cL18 375 [(1, .int 16), (0, .ref (gB G + 99))] []
    refine ex_iinc (v := 17) (lv' := [(1, .int 17), (0, .ref (gB G + 99))]) 0 (pc' := 378) dX11_init_375 rfl (by decide) (Nat.le_of_ble_eq_true rfl) rfl rfl ?_
    refine ex_goto (tgt := 362) dX11_init_378 (by decide) ?_
    refine ex_iload_n 0 (pc' := 363) dX11_init_362 rfl rfl rfl ?_
    refine ex_bipush (v := 36) (pc' := 365) dX11_init_363 bp_36 rfl ?_
    refine ex_icmpge (tgt := 381) (pc' := 368) dX11_init_365 (by decide) rfl (fun hc => ?_) (fun hc => absurd (by decide) hc)
    refine ex_aload_n 1 (pc' := 369) dX11_init_368 rfl rfl rfl ?_
    refine ex_getR (a' := 105) (pc' := 372) dX11_init_369 fl_X11_28 rfl rfl rfl rfl ?_
    refine ex_iload_n 0 (pc' := 373) dX11_init_372 rfl rfl rfl ?_
    refine ex_iconst (v := 1) (pc' := 374) dX11_init_373 ic_1 rfl ?_
    refine ex_iast (n := 36) (pc' := 375) dX11_init_374 rfl (inb_in rfl) rfl ?_
    show Ex G mX11_init rmcX11_init (RetQ G none cX274 cI182 cL18 (38, 14358)) (38, 14358) cX274 cI164 cL18 375 [(1, .int 17), (0, .ref (gB G + 99))] []
    refine ex_iinc (v := 18) (lv' := [(1, .int 18), (0, .ref (gB G + 99))]) 0 (pc' := 378) dX11_init_375 rfl (by decide) (Nat.le_of_ble_eq_true rfl) rfl rfl ?_
    refine ex_goto (tgt := 362) dX11_init_378 (by decide) ?_
    refine ex_iload_n 0 (pc' := 363) dX11_init_362 rfl rfl rfl ?_
    refine ex_bipush (v := 36) (pc' := 365) dX11_init_363 bp_36 rfl ?_
    refine ex_icmpge (tgt := 381) (pc' := 368) dX11_init_365 (by decide) rfl (fun hc => ?_) (fun hc => absurd (by decide) hc)
    refine ex_aload_n 1 (pc' := 369) dX11_init_368 rfl rfl rfl ?_
    refine ex_getR (a' := 105) (pc' := 372) dX11_init_369 fl_X11_28 rfl rfl rfl rfl ?_
    refine ex_iload_n 0 (pc' := 373) dX11_init_372 rfl rfl rfl ?_
    refine ex_iconst (v := 1) (pc' := 374) dX11_init_373 ic_1 rfl ?_
    refine ex_iast (n := 36) (pc' := 375) dX11_init_374 rfl (inb_in rfl) rfl ?_
    show Ex G mX11_init rmcX11_init (RetQ G none cX274 cI182 cL18 (38, 14358)) (38, 14358) cX274 cI165 cL18 375 [(1, .int 18), (0, .ref (gB G + 99))] []
    refine ex_iinc (v := 19) (lv' := [(1, .int 19), (0, .ref (gB G + 99))]) 0 (pc' := 378) dX11_init_375 rfl (by decide) (Nat.le_of_ble_eq_true rfl) rfl rfl ?_
    refine ex_goto (tgt := 362) dX11_init_378 (by decide) ?_
    refine ex_iload_n 0 (pc' := 363) dX11_init_362 rfl rfl rfl ?_
    refine ex_bipush (v := 36) (pc' := 365) dX11_init_363 bp_36 rfl ?_
    refine ex_icmpge (tgt := 381) (pc' := 368) dX11_init_365 (by decide) rfl (fun hc => ?_) (fun hc => absurd (by decide) hc)
    refine ex_aload_n 1 (pc' := 369) dX11_init_368 rfl rfl rfl ?_
    refine ex_getR (a' := 105) (pc' := 372) dX11_init_369 fl_X11_28 rfl rfl rfl rfl ?_
    refine ex_iload_n 0 (pc' := 373) dX11_init_372 rfl rfl rfl ?_
    refine ex_iconst (v := 1) (pc' := 374) dX11_init_373 ic_1 rfl ?_
    refine ex_iast (n := 36) (pc' := 375) dX11_init_374 rfl (inb_in rfl) rfl ?_
    show Ex G mX11_init rmcX11_init (RetQ G none cX274 cI182 cL18 (38, 14358)) (38, 14358) cX274 cI166 cL18 375 [(1, .int 19), (0, .ref (gB G + 99))] []
    refine ex_iinc (v := 20) (lv' := [(1, .int 20), (0, .ref (gB G + 99))]) 0 (pc' := 378) dX11_init_375 rfl (by decide) (Nat.le_of_ble_eq_true rfl) rfl rfl ?_
    refine ex_goto (tgt := 362) dX11_init_378 (by decide) ?_
    refine ex_iload_n 0 (pc' := 363) dX11_init_362 rfl rfl rfl ?_
    refine ex_bipush (v := 36) (pc' := 365) dX11_init_363 bp_36 rfl ?_
    refine ex_icmpge (tgt := 381) (pc' := 368) dX11_init_365 (by decide) rfl (fun hc => ?_) (fun hc => absurd (by decide) hc)
    refine ex_aload_n 1 (pc' := 369) dX11_init_368 rfl rfl rfl ?_
    refine ex_getR (a' := 105) (pc' := 372) dX11_init_369 fl_X11_28 rfl rfl rfl rfl ?_
    refine ex_iload_n 0 (pc' := 373) dX11_init_372 rfl rfl rfl ?_
    refine ex_iconst (v := 1) (pc' := 374) dX11_init_373 ic_1 rfl ?_
    refine ex_iast (n := 36) (pc' := 375) dX11_init_374 rfl (inb_in rfl) rfl ?_
    show Ex G mX11_init rmcX11_init (RetQ G none cX274 cI182 cL18 (38, 14358)) (38, 14358) cX274 cI167 cL18 375 [(1, .int 20), (0, .ref (gB G + 99))] []
    refine ex_iinc (v := 21) (lv' := [(1, .int 21), (0, .ref (gB G + 99))]) 0 (pc' := 378) dX11_init_375 rfl (by decide) (Nat.le_of_ble_eq_true rfl) rfl rfl ?_
    refine ex_goto (tgt := 362) dX11_init_378 (by decide) ?_
    refine ex_iload_n 0 (pc' := 363) dX11_init_362 rfl rfl rfl ?_
    refine ex_bipush (v := 36) (pc' := 365) dX11_init_363 bp_36 rfl ?_
    refine ex_icmpge (tgt := 381) (pc' := 368) dX11_init_365 (by decide) rfl (fun hc => ?_) (fun hc => absurd (by decide) hc)
    refine ex_aload_n 1 (pc' := 369) dX11_init_368 rfl rfl rfl ?_
    refine ex_getR (a' := 105) (pc' := 372) dX11_init_369 fl_X11_28 rfl rfl rfl rfl ?_
    refine ex_iload_n 0 (pc' := 373) dX11_init_372 rfl rfl rfl ?_
    refine ex_iconst (v := 1) (pc' := 374) dX11_init_373 ic_1 rfl ?_
    refine ex_iast (n := 36) (pc' := 375) dX11_init_374 rfl (inb_in rfl) rfl ?_
    show Ex G mX11_init rmcX11_init (RetQ G none cX274 cI182 cL18 (38, 14358)) (38, 14358) cX274 cI168 cL18 375 [(1, .int 21), (0, .ref (gB G + 99))] []
    refine ex_iinc (v := 22) (lv' := [(1, .int 22), (0, .ref (gB G + 99))]) 0 (pc' := 378) dX11_init_375 rfl (by decide) (Nat.le_of_ble_eq_true rfl) rfl rfl ?_
    refine ex_goto (tgt := 362) dX11_init_378 (by decide) ?_
    refine ex_iload_n 0 (pc' := 363) dX11_init_362 rfl rfl rfl ?_
    refine ex_bipush (v := 36) (pc' := 365) dX11_init_363 bp_36 rfl ?_
    refine ex_icmpge (tgt := 381) (pc' := 368) dX11_init_365 (by decide) rfl (fun hc => ?_) (fun hc => absurd (by decide) hc)
    refine ex_aload_n 1 (pc' := 369) dX11_init_368 rfl rfl rfl ?_
    refine ex_getR (a' := 105) (pc' := 372) dX11_init_369 fl_X11_28 rfl rfl rfl rfl ?_
    refine ex_iload_n 0 (pc' := 373) dX11_init_372 rfl rfl rfl ?_
    refine ex_iconst (v := 1) (pc' := 374) dX11_init_373 ic_1 rfl ?_
    refine ex_iast (n := 36) (pc' := 375) dX11_init_374 rfl (inb_in rfl) rfl ?_
    show Ex G mX11_init rmcX11_init (RetQ G none cX274 cI182 cL18 (38, 14358)) (38, 14358) cX274 cI169 cL18 375 [(1, .int 22), (0, .ref (gB G + 99))] []
    refine ex_iinc (v := 23) (lv' := [(1, .int 23), (0, .ref (gB G + 99))]) 0 (pc' := 378) dX11_init_375 rfl (by decide) (Nat.le_of_ble_eq_true rfl) rfl rfl ?_
    refine ex_goto (tgt := 362) dX11_init_378 (by decide) ?_
    refine ex_iload_n 0 (pc' := 363) dX11_init_362 rfl rfl rfl ?_
    refine ex_bipush (v := 36) (pc' := 365) dX11_init_363 bp_36 rfl ?_
    refine ex_icmpge (tgt := 381) (pc' := 368) dX11_init_365 (by decide) rfl (fun hc => ?_) (fun hc => absurd (by decide) hc)
    refine ex_aload_n 1 (pc' := 369) dX11_init_368 rfl rfl rfl ?_
    refine ex_getR (a' := 105) (pc' := 372) dX11_init_369 fl_X11_28 rfl rfl rfl rfl ?_
    refine ex_iload_n 0 (pc' := 373) dX11_init_372 rfl rfl rfl ?_
    refine ex_iconst (v := 1) (pc' := 374) dX11_init_373 ic_1 rfl ?_
    refine ex_iast (n := 36) (pc' := 375) dX11_init_374 rfl (inb_in rfl) rfl ?_
    show Ex G mX11_init rmcX11_init (RetQ G none cX274 cI182 cL18 (38, 14358)) (38, 14358) cX274 cI170 cL18 375 [(1, .int 23), (0, .ref (gB G + 99))] []
    refine ex_iinc (v := 24) (lv' := [(1, .int 24), (0, .ref (gB G + 99))]) 0 (pc' := 378) dX11_init_375 rfl (by decide) (Nat.le_of_ble_eq_true rfl) rfl rfl ?_
    refine ex_goto (tgt := 362) dX11_init_378 (by decide) ?_
    refine ex_iload_n 0 (pc' := 363) dX11_init_362 rfl rfl rfl ?_
    refine ex_bipush (v := 36) (pc' := 365) dX11_init_363 bp_36 rfl ?_
    refine ex_icmpge (tgt := 381) (pc' := 368) dX11_init_365 (by decide) rfl (fun hc => ?_) (fun hc => absurd (by decide) hc)
    refine ex_aload_n 1 (pc' := 369) dX11_init_368 rfl rfl rfl ?_
    refine ex_getR (a' := 105) (pc' := 372) dX11_init_369 fl_X11_28 rfl rfl rfl rfl ?_
    refine ex_iload_n 0 (pc' := 373) dX11_init_372 rfl rfl rfl ?_
    refine ex_iconst (v := 1) (pc' := 374) dX11_init_373 ic_1 rfl ?_
    refine ex_iast (n := 36) (pc' := 375) dX11_init_374 rfl (inb_in rfl) rfl ?_
    show Ex G mX11_init rmcX11_init (RetQ G none cX274 cI182 cL18 (38, 14358)) (38, 14358) cX274 cI171 cL18 375 [(1, .int 24), (0, .ref (gB G + 99))] []
    refine ex_iinc (v := 25) (lv' := [(1, .int 25), (0, .ref (gB G + 99))]) 0 (pc' := 378) dX11_init_375 rfl (by decide) (Nat.le_of_ble_eq_true rfl) rfl rfl ?_
    refine ex_goto (tgt := 362) dX11_init_378 (by decide) ?_
    refine ex_iload_n 0 (pc' := 363) dX11_init_362 rfl rfl rfl ?_
    refine ex_bipush (v := 36) (pc' := 365) dX11_init_363 bp_36 rfl ?_
    refine ex_icmpge (tgt := 381) (pc' := 368) dX11_init_365 (by decide) rfl (fun hc => ?_) (fun hc => absurd (by decide) hc)
    refine ex_aload_n 1 (pc' := 369) dX11_init_368 rfl rfl rfl ?_
    refine ex_getR (a' := 105) (pc' := 372) dX11_init_369 fl_X11_28 rfl rfl rfl rfl ?_
    refine ex_iload_n 0 (pc' := 373) dX11_init_372 rfl rfl rfl ?_
    refine ex_iconst (v := 1) (pc' := 374) dX11_init_373 ic_1 rfl ?_
    refine ex_iast (n := 36) (pc' := 375) dX11_init_374 rfl (inb_in rfl) rfl ?_
    show Ex G mX11_init rmcX11_init (RetQ G none cX274 cI182 cL18 (38, 14358)) (38, 14358) cX274 cI172 cL18 375 [(1, .int 25), (0, .ref (gB G + 99))] []
    refine ex_iinc (v := 26) (lv' := [(1, .int 26), (0, .ref (gB G + 99))]) 0 (pc' := 378) dX11_init_375 rfl (by decide) (Nat.le_of_ble_eq_true rfl) rfl rfl ?_
    refine ex_goto (tgt := 362) dX11_init_378 (by decide) ?_
    refine ex_iload_n 0 (pc' := 363) dX11_init_362 rfl rfl rfl ?_
    refine ex_bipush (v := 36) (pc' := 365) dX11_init_363 bp_36 rfl ?_
    refine ex_icmpge (tgt := 381) (pc' := 368) dX11_init_365 (by decide) rfl (fun hc => ?_) (fun hc => absurd (by decide) hc)
    refine ex_aload_n 1 (pc' := 369) dX11_init_368 rfl rfl rfl ?_
    refine ex_getR (a' := 105) (pc' := 372) dX11_init_369 fl_X11_28 rfl rfl rfl rfl ?_
    refine ex_iload_n 0 (pc' := 373) dX11_init_372 rfl rfl rfl ?_
    refine ex_iconst (v := 1) (pc' := 374) dX11_init_373 ic_1 rfl ?_
    refine ex_iast (n := 36) (pc' := 375) dX11_init_374 rfl (inb_in rfl) rfl ?_
    show Ex G mX11_init rmcX11_init (RetQ G none cX274 cI182 cL18 (38, 14358)) (38, 14358) cX274 cI173 cL18 375 [(1, .int 26), (0, .ref (gB G + 99))] []
    refine ex_iinc (v := 27) (lv' := [(1, .int 27), (0, .ref (gB G + 99))]) 0 (pc' := 378) dX11_init_375 rfl (by decide) (Nat.le_of_ble_eq_true rfl) rfl rfl ?_
    refine ex_goto (tgt := 362) dX11_init_378 (by decide) ?_
    refine ex_iload_n 0 (pc' := 363) dX11_init_362 rfl rfl rfl ?_
    refine ex_bipush (v := 36) (pc' := 365) dX11_init_363 bp_36 rfl ?_
    refine ex_icmpge (tgt := 381) (pc' := 368) dX11_init_365 (by decide) rfl (fun hc => ?_) (fun hc => absurd (by decide) hc)
    refine ex_aload_n 1 (pc' := 369) dX11_init_368 rfl rfl rfl ?_
    refine ex_getR (a' := 105) (pc' := 372) dX11_init_369 fl_X11_28 rfl rfl rfl rfl ?_
    refine ex_iload_n 0 (pc' := 373) dX11_init_372 rfl rfl rfl ?_
    refine ex_iconst (v := 1) (pc' := 374) dX11_init_373 ic_1 rfl ?_
    refine ex_iast (n := 36) (pc' := 375) dX11_init_374 rfl (inb_in rfl) rfl ?_
    show Ex G mX11_init rmcX11_init (RetQ G none cX274 cI182 cL18 (38, 14358)) (38, 14358) cX274 cI174 cL18 375 [(1, .int 27), (0, .ref (gB G + 99))] []
    refine ex_iinc (v := 28) (lv' := [(1, .int 28), (0, .ref (gB G + 99))]) 0 (pc' := 378) dX11_init_375 rfl (by decide) (Nat.le_of_ble_eq_true rfl) rfl rfl ?_
    refine ex_goto (tgt := 362) dX11_init_378 (by decide) ?_
    refine ex_iload_n 0 (pc' := 363) dX11_init_362 rfl rfl rfl ?_
    refine ex_bipush (v := 36) (pc' := 365) dX11_init_363 bp_36 rfl ?_
    refine ex_icmpge (tgt := 381) (pc' := 368) dX11_init_365 (by decide) rfl (fun hc => ?_) (fun hc => absurd (by decide) hc)
    refine ex_aload_n 1 (pc' := 369) dX11_init_368 rfl rfl rfl ?_
    refine ex_getR (a' := 105) (pc' := 372) dX11_init_369 fl_X11_28 rfl rfl rfl rfl ?_
    refine ex_iload_n 0 (pc' := 373) dX11_init_372 rfl rfl rfl ?_
    refine ex_iconst (v := 1) (pc' := 374) dX11_init_373 ic_1 rfl ?_
    refine ex_iast (n := 36) (pc' := 375) dX11_init_374 rfl (inb_in rfl) rfl ?_
    show Ex G mX11_init rmcX11_init (RetQ G none cX274 cI182 cL18 (38, 14358)) (38, 14358) cX274 cI175 cL18 375 [(1, .int 28), (0, .ref (gB G + 99))] []
    refine ex_iinc (v := 29) (lv' := [(1, .int 29), (0, .ref (gB G + 99))]) 0 (pc' := 378) dX11_init_375 rfl (by decide) (Nat.le_of_ble_eq_true rfl) rfl rfl ?_
    refine ex_goto (tgt := 362) dX11_init_378 (by decide) ?_
    refine ex_iload_n 0 (pc' := 363) dX11_init_362 rfl rfl rfl ?_
    refine ex_bipush (v := 36) (pc' := 365) dX11_init_363 bp_36 rfl ?_
    refine ex_icmpge (tgt := 381) (pc' := 368) dX11_init_365 (by decide) rfl (fun hc => ?_) (fun hc => absurd (by decide) hc)
    refine ex_aload_n 1 (pc' := 369) dX11_init_368 rfl rfl rfl ?_
    refine ex_getR (a' := 105) (pc' := 372) dX11_init_369 fl_X11_28 rfl rfl rfl rfl ?_
    refine ex_iload_n 0 (pc' := 373) dX11_init_372 rfl rfl rfl ?_
    refine ex_iconst (v := 1) (pc' := 374) dX11_init_373 ic_1 rfl ?_
    refine ex_iast (n := 36) (pc' := 375) dX11_init_374 rfl (inb_in rfl) rfl ?_
    show Ex G mX11_init rmcX11_init (RetQ G none cX274 cI182 cL18 (38, 14358)) (38, 14358) cX274 cI176 cL18 375 [(1, .int 29), (0, .ref (gB G + 99))] []
    refine ex_iinc (v := 30) (lv' := [(1, .int 30), (0, .ref (gB G + 99))]) 0 (pc' := 378) dX11_init_375 rfl (by decide) (Nat.le_of_ble_eq_true rfl) rfl rfl ?_
    refine ex_goto (tgt := 362) dX11_init_378 (by decide) ?_
    refine ex_iload_n 0 (pc' := 363) dX11_init_362 rfl rfl rfl ?_
    refine ex_bipush (v := 36) (pc' := 365) dX11_init_363 bp_36 rfl ?_
    refine ex_icmpge (tgt := 381) (pc' := 368) dX11_init_365 (by decide) rfl (fun hc => ?_) (fun hc => absurd (by decide) hc)
    refine ex_aload_n 1 (pc' := 369) dX11_init_368 rfl rfl rfl ?_
    refine ex_getR (a' := 105) (pc' := 372) dX11_init_369 fl_X11_28 rfl rfl rfl rfl ?_
    refine ex_iload_n 0 (pc' := 373) dX11_init_372 rfl rfl rfl ?_
    refine ex_iconst (v := 1) (pc' := 374) dX11_init_373 ic_1 rfl ?_
    refine ex_iast (n := 36) (pc' := 375) dX11_init_374 rfl (inb_in rfl) rfl ?_
    show Ex G mX11_init rmcX11_init (RetQ G none cX274 cI182 cL18 (38, 14358)) (38, 14358) cX274 cI177 cL18 375 [(1, .int 30), (0, .ref (gB G + 99))] []
    refine ex_iinc (v := 31) (lv' := [(1, .int 31), (0, .ref (gB G + 99))]) 0 (pc' := 378) dX11_init_375 rfl (by decide) (Nat.le_of_ble_eq_true rfl) rfl rfl ?_
    refine ex_goto (tgt := 362) dX11_init_378 (by decide) ?_
    refine ex_iload_n 0 (pc' := 363) dX11_init_362 rfl rfl rfl ?_
    refine ex_bipush (v := 36) (pc' := 365) dX11_init_363 bp_36 rfl ?_
    refine ex_icmpge (tgt := 381) (pc' := 368) dX11_init_365 (by decide) rfl (fun hc => ?_) (fun hc => absurd (by decide) hc)
    refine ex_aload_n 1 (pc' := 369) dX11_init_368 rfl rfl rfl ?_
    refine ex_getR (a' := 105) (pc' := 372) dX11_init_369 fl_X11_28 rfl rfl rfl rfl ?_
    refine ex_iload_n 0 (pc' := 373) dX11_init_372 rfl rfl rfl ?_
    refine ex_iconst (v := 1) (pc' := 374) dX11_init_373 ic_1 rfl ?_
    refine ex_iast (n := 36) (pc' := 375) dX11_init_374 rfl (inb_in rfl) rfl ?_
    show Ex G mX11_init rmcX11_init (RetQ G none cX274 cI182 cL18 (38, 14358)) (38, 14358) cX274 cI178 cL18 375 [(1, .int 31), (0, .ref (gB G + 99))] []
    refine ex_iinc (v := 32) (lv' := [(1, .int 32), (0, .ref (gB G + 99))]) 0 (pc' := 378) dX11_init_375 rfl (by decide) (Nat.le_of_ble_eq_true rfl) rfl rfl ?_
    refine ex_goto (tgt := 362) dX11_init_378 (by decide) ?_
    refine ex_iload_n 0 (pc' := 363) dX11_init_362 rfl rfl rfl ?_
    refine ex_bipush (v := 36) (pc' := 365) dX11_init_363 bp_36 rfl ?_
    refine ex_icmpge (tgt := 381) (pc' := 368) dX11_init_365 (by decide) rfl (fun hc => ?_) (fun hc => absurd (by decide) hc)
    refine ex_aload_n 1 (pc' := 369) dX11_init_368 rfl rfl rfl ?_
    refine ex_getR (a' := 105) (pc' := 372) dX11_init_369 fl_X11_28 rfl rfl rfl rfl ?_
    refine ex_iload_n 0 (pc' := 373) dX11_init_372 rfl rfl rfl ?_
    refine ex_iconst (v := 1) (pc' := 374) dX11_init_373 ic_1 rfl ?_
    refine ex_iast (n := 36) (pc' := 375) dX11_init_374 rfl (inb_in rfl) rfl ?_
    show Ex G mX11_init rmcX11_init (RetQ G none cX274 cI182 cL18 (38, 14358)) (38, 14358) cX274 cI179 cL18 375 [(1, .int 32), (0, .ref (gB G + 99))] []
    refine ex_iinc (v := 33) (lv' := [(1, .int 33), (0, .ref (gB G + 99))]) 0 (pc' := 378) dX11_init_375 rfl (by decide) (Nat.le_of_ble_eq_true rfl) rfl rfl ?_
    refine ex_goto (tgt := 362) dX11_init_378 (by decide) ?_
    refine ex_iload_n 0 (pc' := 363) dX11_init_362 rfl rfl rfl ?_
    refine ex_bipush (v := 36) (pc' := 365) dX11_init_363 bp_36 rfl ?_
    refine ex_icmpge (tgt := 381) (pc' := 368) dX11_init_365 (by decide) rfl (fun hc => ?_) (fun hc => absurd (by decide) hc)
    refine ex_aload_n 1 (pc' := 369) dX11_init_368 rfl rfl rfl ?_
    refine ex_getR (a' := 105) (pc' := 372) dX11_init_369 fl_X11_28 rfl rfl rfl rfl ?_
    refine ex_iload_n 0 (pc' := 373) dX11_init_372 rfl rfl rfl ?_
    refine ex_iconst (v := 1) (pc' := 374) dX11_init_373 ic_1 rfl ?_
    refine ex_iast (n := 36) (pc' := 375) dX11_init_374 rfl (inb_in rfl) rfl ?_
    show Ex G mX11_init rmcX11_init (RetQ G none cX274 cI182 cL18 (38, 14358)) (38, 14358) cX274 cI180 cL18 375 [(1, .int 33), (0, .ref (gB G + 99))] []
    refine ex_iinc (v := 34) (lv' := [(1, .int 34), (0, .ref (gB G + 99))]) 0 (pc' := 378) dX11_init_375 rfl (by decide) (Nat.le_of_ble_eq_true rfl) rfl rfl ?_
    refine ex_goto (tgt := 362) dX11_init_378 (by decide) ?_
    refine ex_iload_n 0 (pc' := 363) dX11_init_362 rfl rfl rfl ?_
    refine ex_bipush (v := 36) (pc' := 365) dX11_init_363 bp_36 rfl ?_
    refine ex_icmpge (tgt := 381) (pc' := 368) dX11_init_365 (by decide) rfl (fun hc => ?_) (fun hc => absurd (by decide) hc)
    refine ex_aload_n 1 (pc' := 369) dX11_init_368 rfl rfl rfl ?_
    refine ex_getR (a' := 105) (pc' := 372) dX11_init_369 fl_X11_28 rfl rfl rfl rfl ?_
    refine ex_iload_n 0 (pc' := 373) dX11_init_372 rfl rfl rfl ?_
    refine ex_iconst (v := 1) (pc' := 374) dX11_init_373 ic_1 rfl ?_
    refine ex_iast (n := 36) (pc' := 375) dX11_init_374 rfl (inb_in rfl) rfl ?_
    show Ex G mX11_init rmcX11_init (RetQ G none cX274 cI182 cL18 (38, 14358)) (38, 14358) cX274 cI181 cL18 375 [(1, .int 34), (0, .ref (gB G + 99))] []
    refine ex_iinc (v := 35) (lv' := [(1, .int 35), (0, .ref (gB G + 99))]) 0 (pc' := 378) dX11_init_375 rfl (by decide) (Nat.le_of_ble_eq_true rfl) rfl rfl ?_
    refine ex_goto (tgt := 362) dX11_init_378 (by decide) ?_
    refine ex_iload_n 0 (pc' := 363) dX11_init_362 rfl rfl rfl ?_
    refine ex_bipush (v := 36) (pc' := 365) dX11_init_363 bp_36 rfl ?_
    refine ex_icmpge (tgt := 381) (pc' := 368) dX11_init_365 (by decide) rfl (fun hc => ?_) (fun hc => absurd (by decide) hc)
    refine ex_aload_n 1 (pc' := 369) dX11_init_368 rfl rfl rfl ?_
    refine ex_getR (a' := 105) (pc' := 372) dX11_init_369 fl_X11_28 rfl rfl rfl rfl ?_
    refine ex_iload_n 0 (pc' := 373) dX11_init_372 rfl rfl rfl ?_
    refine ex_iconst (v := 1) (pc' := 374) dX11_init_373 ic_1 rfl ?_
    refine ex_iast (n := 36) (pc' := 375) dX11_init_374 rfl (inb_in rfl) rfl ?_
    show Ex G mX11_init rmcX11_init (RetQ G none cX274 cI182 cL18 (38, 14358)) (38, 14358) cX274 cI182 cL18 375 [(1, .int 35), (0, .ref (gB G + 99))] []
    refine ex_iinc (v := 36) (lv' := [(1, .int 36), (0, .ref (gB G + 99))]) 0 (pc' := 378) dX11_init_375 rfl (by decide) (Nat.le_of_ble_eq_true rfl) rfl rfl ?_
    refine ex_goto (tgt := 362) dX11_init_378 (by decide) ?_
    refine ex_iload_n 0 (pc' := 363) dX11_init_362 rfl rfl rfl ?_
    refine ex_bipush (v := 36) (pc' := 365) dX11_init_363 bp_36 rfl ?_
    refine ex_icmpge (tgt := 381) (pc' := 368) dX11_init_365 (by decide) rfl (fun hc => absurd hc (by decide)) (fun hc => ?_)
    exact ex_vret dX11_init_381 rfl rfl)
def cXe : MX := cX274
def cIe : MI := cI182
def cLe : ML := cL18
theorem lad97 (i : Nat) : cXe.2.1 97 i = none := rfl
theorem sp0 : ∀ b, 138 ≤ b → cX0.1 b = (0, 0) := fun _ _ => rfl
theorem sp1 : ∀ b, 138 ≤ b → cX1.1 b = (0, 0) := fun b hb => (nwK_ne (by omega)).trans (sp0 b hb)
theorem sp2 : ∀ b, 138 ≤ b → cX2.1 b = (0, 0) := fun b hb => (nwK_ne (by omega)).trans (sp1 b hb)
theorem sp3 : ∀ b, 138 ≤ b → cX3.1 b = (0, 0) := fun b hb => (nwK_ne (by omega)).trans (sp2 b hb)
theorem sp4 : ∀ b, 138 ≤ b → cX4.1 b = (0, 0) := sp3
theorem sp5 : ∀ b, 138 ≤ b → cX5.1 b = (0, 0) := fun b hb => (nwK_ne (by omega)).trans (sp4 b hb)
theorem sp6 : ∀ b, 138 ≤ b → cX6.1 b = (0, 0) := fun b hb => (nwK_ne (by omega)).trans (sp5 b hb)
theorem sp7 : ∀ b, 138 ≤ b → cX7.1 b = (0, 0) := sp6
theorem sp8 : ∀ b, 138 ≤ b → cX8.1 b = (0, 0) := fun b hb => (nwK_ne (by omega)).trans (sp7 b hb)
theorem sp9 : ∀ b, 138 ≤ b → cX9.1 b = (0, 0) := sp8
theorem sp10 : ∀ b, 138 ≤ b → cX10.1 b = (0, 0) := sp9
theorem sp11 : ∀ b, 138 ≤ b → cX11.1 b = (0, 0) := fun b hb => (nwK_ne (by omega)).trans (sp10 b hb)
theorem sp12 : ∀ b, 138 ≤ b → cX12.1 b = (0, 0) := sp11
theorem sp13 : ∀ b, 138 ≤ b → cX13.1 b = (0, 0) := fun b hb => (nwK_ne (by omega)).trans (sp12 b hb)
theorem sp14 : ∀ b, 138 ≤ b → cX14.1 b = (0, 0) := sp13
theorem sp15 : ∀ b, 138 ≤ b → cX15.1 b = (0, 0) := fun b hb => (nwK_ne (by omega)).trans (sp14 b hb)
theorem sp16 : ∀ b, 138 ≤ b → cX16.1 b = (0, 0) := sp15
theorem sp17 : ∀ b, 138 ≤ b → cX17.1 b = (0, 0) := fun b hb => (nwK_ne (by omega)).trans (sp16 b hb)
theorem sp18 : ∀ b, 138 ≤ b → cX18.1 b = (0, 0) := sp17
theorem sp19 : ∀ b, 138 ≤ b → cX19.1 b = (0, 0) := fun b hb => (nwK_ne (by omega)).trans (sp18 b hb)
theorem sp20 : ∀ b, 138 ≤ b → cX20.1 b = (0, 0) := fun b hb => (nwK_ne (by omega)).trans (sp19 b hb)
theorem sp21 : ∀ b, 138 ≤ b → cX21.1 b = (0, 0) := sp20
theorem sp22 : ∀ b, 138 ≤ b → cX22.1 b = (0, 0) := sp21
theorem sp23 : ∀ b, 138 ≤ b → cX23.1 b = (0, 0) := fun b hb => (nwK_ne (by omega)).trans (sp22 b hb)
theorem sp24 : ∀ b, 138 ≤ b → cX24.1 b = (0, 0) := fun b hb => (nwK_ne (by omega)).trans (sp23 b hb)
theorem sp25 : ∀ b, 138 ≤ b → cX25.1 b = (0, 0) := sp24
theorem sp26 : ∀ b, 138 ≤ b → cX26.1 b = (0, 0) := sp25
theorem sp27 : ∀ b, 138 ≤ b → cX27.1 b = (0, 0) := fun b hb => (nwK_ne (by omega)).trans (sp26 b hb)
theorem sp28 : ∀ b, 138 ≤ b → cX28.1 b = (0, 0) := fun b hb => (nwK_ne (by omega)).trans (sp27 b hb)
theorem sp29 : ∀ b, 138 ≤ b → cX29.1 b = (0, 0) := sp28
theorem sp30 : ∀ b, 138 ≤ b → cX30.1 b = (0, 0) := sp29
theorem sp31 : ∀ b, 138 ≤ b → cX31.1 b = (0, 0) := fun b hb => (nwK_ne (by omega)).trans (sp30 b hb)
theorem sp32 : ∀ b, 138 ≤ b → cX32.1 b = (0, 0) := fun b hb => (nwK_ne (by omega)).trans (sp31 b hb)
theorem sp33 : ∀ b, 138 ≤ b → cX33.1 b = (0, 0) := sp32
theorem sp34 : ∀ b, 138 ≤ b → cX34.1 b = (0, 0) := sp33
theorem sp35 : ∀ b, 138 ≤ b → cX35.1 b = (0, 0) := fun b hb => (nwK_ne (by omega)).trans (sp34 b hb)
theorem sp36 : ∀ b, 138 ≤ b → cX36.1 b = (0, 0) := fun b hb => (nwK_ne (by omega)).trans (sp35 b hb)
theorem sp37 : ∀ b, 138 ≤ b → cX37.1 b = (0, 0) := sp36
theorem sp38 : ∀ b, 138 ≤ b → cX38.1 b = (0, 0) := sp37
theorem sp39 : ∀ b, 138 ≤ b → cX39.1 b = (0, 0) := fun b hb => (nwK_ne (by omega)).trans (sp38 b hb)
theorem sp40 : ∀ b, 138 ≤ b → cX40.1 b = (0, 0) := fun b hb => (nwK_ne (by omega)).trans (sp39 b hb)
theorem sp41 : ∀ b, 138 ≤ b → cX41.1 b = (0, 0) := sp40
theorem sp42 : ∀ b, 138 ≤ b → cX42.1 b = (0, 0) := sp41
theorem sp43 : ∀ b, 138 ≤ b → cX43.1 b = (0, 0) := fun b hb => (nwK_ne (by omega)).trans (sp42 b hb)
theorem sp44 : ∀ b, 138 ≤ b → cX44.1 b = (0, 0) := fun b hb => (nwK_ne (by omega)).trans (sp43 b hb)
theorem sp45 : ∀ b, 138 ≤ b → cX45.1 b = (0, 0) := sp44
theorem sp46 : ∀ b, 138 ≤ b → cX46.1 b = (0, 0) := sp45
theorem sp47 : ∀ b, 138 ≤ b → cX47.1 b = (0, 0) := fun b hb => (nwK_ne (by omega)).trans (sp46 b hb)
theorem sp48 : ∀ b, 138 ≤ b → cX48.1 b = (0, 0) := fun b hb => (nwK_ne (by omega)).trans (sp47 b hb)
theorem sp49 : ∀ b, 138 ≤ b → cX49.1 b = (0, 0) := sp48
theorem sp50 : ∀ b, 138 ≤ b → cX50.1 b = (0, 0) := sp49
theorem sp51 : ∀ b, 138 ≤ b → cX51.1 b = (0, 0) := fun b hb => (nwK_ne (by omega)).trans (sp50 b hb)
theorem sp52 : ∀ b, 138 ≤ b → cX52.1 b = (0, 0) := fun b hb => (nwK_ne (by omega)).trans (sp51 b hb)
theorem sp53 : ∀ b, 138 ≤ b → cX53.1 b = (0, 0) := sp52
theorem sp54 : ∀ b, 138 ≤ b → cX54.1 b = (0, 0) := sp53
theorem sp55 : ∀ b, 138 ≤ b → cX55.1 b = (0, 0) := fun b hb => (nwK_ne (by omega)).trans (sp54 b hb)
theorem sp56 : ∀ b, 138 ≤ b → cX56.1 b = (0, 0) := fun b hb => (nwK_ne (by omega)).trans (sp55 b hb)
theorem sp57 : ∀ b, 138 ≤ b → cX57.1 b = (0, 0) := sp56
theorem sp58 : ∀ b, 138 ≤ b → cX58.1 b = (0, 0) := sp57
theorem sp59 : ∀ b, 138 ≤ b → cX59.1 b = (0, 0) := fun b hb => (nwK_ne (by omega)).trans (sp58 b hb)
theorem sp60 : ∀ b, 138 ≤ b → cX60.1 b = (0, 0) := fun b hb => (nwK_ne (by omega)).trans (sp59 b hb)
theorem sp61 : ∀ b, 138 ≤ b → cX61.1 b = (0, 0) := sp60
theorem sp62 : ∀ b, 138 ≤ b → cX62.1 b = (0, 0) := sp61
theorem sp63 : ∀ b, 138 ≤ b → cX63.1 b = (0, 0) := fun b hb => (nwK_ne (by omega)).trans (sp62 b hb)
theorem sp64 : ∀ b, 138 ≤ b → cX64.1 b = (0, 0) := fun b hb => (nwK_ne (by omega)).trans (sp63 b hb)
theorem sp65 : ∀ b, 138 ≤ b → cX65.1 b = (0, 0) := sp64
theorem sp66 : ∀ b, 138 ≤ b → cX66.1 b = (0, 0) := sp65
theorem sp67 : ∀ b, 138 ≤ b → cX67.1 b = (0, 0) := sp66
theorem sp68 : ∀ b, 138 ≤ b → cX68.1 b = (0, 0) := fun b hb => (nwK_ne (by omega)).trans (sp67 b hb)
theorem sp69 : ∀ b, 138 ≤ b → cX69.1 b = (0, 0) := fun b hb => (nwK_ne (by omega)).trans (sp68 b hb)
theorem sp70 : ∀ b, 138 ≤ b → cX70.1 b = (0, 0) := sp69
theorem sp71 : ∀ b, 138 ≤ b → cX71.1 b = (0, 0) := fun b hb => (nwK_ne (by omega)).trans (sp70 b hb)
theorem sp72 : ∀ b, 138 ≤ b → cX72.1 b = (0, 0) := fun b hb => (nwK_ne (by omega)).trans (sp71 b hb)
theorem sp73 : ∀ b, 138 ≤ b → cX73.1 b = (0, 0) := sp72
theorem sp74 : ∀ b, 138 ≤ b → cX74.1 b = (0, 0) := fun b hb => (nwK_ne (by omega)).trans (sp73 b hb)
theorem sp75 : ∀ b, 138 ≤ b → cX75.1 b = (0, 0) := sp74
theorem sp76 : ∀ b, 138 ≤ b → cX76.1 b = (0, 0) := sp75
theorem sp77 : ∀ b, 138 ≤ b → cX77.1 b = (0, 0) := fun b hb => (nwK_ne (by omega)).trans (sp76 b hb)
theorem sp78 : ∀ b, 138 ≤ b → cX78.1 b = (0, 0) := sp77
theorem sp79 : ∀ b, 138 ≤ b → cX79.1 b = (0, 0) := fun b hb => (nwK_ne (by omega)).trans (sp78 b hb)
theorem sp80 : ∀ b, 138 ≤ b → cX80.1 b = (0, 0) := sp79
theorem sp81 : ∀ b, 138 ≤ b → cX81.1 b = (0, 0) := fun b hb => (nwK_ne (by omega)).trans (sp80 b hb)
theorem sp82 : ∀ b, 138 ≤ b → cX82.1 b = (0, 0) := sp81
theorem sp83 : ∀ b, 138 ≤ b → cX83.1 b = (0, 0) := fun b hb => (nwK_ne (by omega)).trans (sp82 b hb)
theorem sp84 : ∀ b, 138 ≤ b → cX84.1 b = (0, 0) := sp83
theorem sp85 : ∀ b, 138 ≤ b → cX85.1 b = (0, 0) := fun b hb => (nwK_ne (by omega)).trans (sp84 b hb)
theorem sp86 : ∀ b, 138 ≤ b → cX86.1 b = (0, 0) := fun b hb => (nwK_ne (by omega)).trans (sp85 b hb)
theorem sp87 : ∀ b, 138 ≤ b → cX87.1 b = (0, 0) := sp86
theorem sp88 : ∀ b, 138 ≤ b → cX88.1 b = (0, 0) := sp87
theorem sp89 : ∀ b, 138 ≤ b → cX89.1 b = (0, 0) := fun b hb => (nwK_ne (by omega)).trans (sp88 b hb)
theorem sp90 : ∀ b, 138 ≤ b → cX90.1 b = (0, 0) := fun b hb => (nwK_ne (by omega)).trans (sp89 b hb)
theorem sp91 : ∀ b, 138 ≤ b → cX91.1 b = (0, 0) := sp90
theorem sp92 : ∀ b, 138 ≤ b → cX92.1 b = (0, 0) := sp91
theorem sp93 : ∀ b, 138 ≤ b → cX93.1 b = (0, 0) := fun b hb => (nwK_ne (by omega)).trans (sp92 b hb)
theorem sp94 : ∀ b, 138 ≤ b → cX94.1 b = (0, 0) := fun b hb => (nwK_ne (by omega)).trans (sp93 b hb)
theorem sp95 : ∀ b, 138 ≤ b → cX95.1 b = (0, 0) := sp94
theorem sp96 : ∀ b, 138 ≤ b → cX96.1 b = (0, 0) := sp95
theorem sp97 : ∀ b, 138 ≤ b → cX97.1 b = (0, 0) := fun b hb => (nwK_ne (by omega)).trans (sp96 b hb)
theorem sp98 : ∀ b, 138 ≤ b → cX98.1 b = (0, 0) := fun b hb => (nwK_ne (by omega)).trans (sp97 b hb)
theorem sp99 : ∀ b, 138 ≤ b → cX99.1 b = (0, 0) := sp98
theorem sp100 : ∀ b, 138 ≤ b → cX100.1 b = (0, 0) := sp99
theorem sp101 : ∀ b, 138 ≤ b → cX101.1 b = (0, 0) := fun b hb => (nwK_ne (by omega)).trans (sp100 b hb)
theorem sp102 : ∀ b, 138 ≤ b → cX102.1 b = (0, 0) := fun b hb => (nwK_ne (by omega)).trans (sp101 b hb)
theorem sp103 : ∀ b, 138 ≤ b → cX103.1 b = (0, 0) := sp102
theorem sp104 : ∀ b, 138 ≤ b → cX104.1 b = (0, 0) := sp103
theorem sp105 : ∀ b, 138 ≤ b → cX105.1 b = (0, 0) := fun b hb => (nwK_ne (by omega)).trans (sp104 b hb)
theorem sp106 : ∀ b, 138 ≤ b → cX106.1 b = (0, 0) := fun b hb => (nwK_ne (by omega)).trans (sp105 b hb)
theorem sp107 : ∀ b, 138 ≤ b → cX107.1 b = (0, 0) := sp106
theorem sp108 : ∀ b, 138 ≤ b → cX108.1 b = (0, 0) := sp107
theorem sp109 : ∀ b, 138 ≤ b → cX109.1 b = (0, 0) := fun b hb => (nwK_ne (by omega)).trans (sp108 b hb)
theorem sp110 : ∀ b, 138 ≤ b → cX110.1 b = (0, 0) := fun b hb => (nwK_ne (by omega)).trans (sp109 b hb)
theorem sp111 : ∀ b, 138 ≤ b → cX111.1 b = (0, 0) := sp110
theorem sp112 : ∀ b, 138 ≤ b → cX112.1 b = (0, 0) := sp111
theorem sp113 : ∀ b, 138 ≤ b → cX113.1 b = (0, 0) := fun b hb => (nwK_ne (by omega)).trans (sp112 b hb)
theorem sp114 : ∀ b, 138 ≤ b → cX114.1 b = (0, 0) := fun b hb => (nwK_ne (by omega)).trans (sp113 b hb)
theorem sp115 : ∀ b, 138 ≤ b → cX115.1 b = (0, 0) := sp114
theorem sp116 : ∀ b, 138 ≤ b → cX116.1 b = (0, 0) := sp115
theorem sp117 : ∀ b, 138 ≤ b → cX117.1 b = (0, 0) := fun b hb => (nwK_ne (by omega)).trans (sp116 b hb)
theorem sp118 : ∀ b, 138 ≤ b → cX118.1 b = (0, 0) := fun b hb => (nwK_ne (by omega)).trans (sp117 b hb)
theorem sp119 : ∀ b, 138 ≤ b → cX119.1 b = (0, 0) := sp118
theorem sp120 : ∀ b, 138 ≤ b → cX120.1 b = (0, 0) := sp119
theorem sp121 : ∀ b, 138 ≤ b → cX121.1 b = (0, 0) := fun b hb => (nwK_ne (by omega)).trans (sp120 b hb)
theorem sp122 : ∀ b, 138 ≤ b → cX122.1 b = (0, 0) := fun b hb => (nwK_ne (by omega)).trans (sp121 b hb)
theorem sp123 : ∀ b, 138 ≤ b → cX123.1 b = (0, 0) := sp122
theorem sp124 : ∀ b, 138 ≤ b → cX124.1 b = (0, 0) := sp123
theorem sp125 : ∀ b, 138 ≤ b → cX125.1 b = (0, 0) := fun b hb => (nwK_ne (by omega)).trans (sp124 b hb)
theorem sp126 : ∀ b, 138 ≤ b → cX126.1 b = (0, 0) := fun b hb => (nwK_ne (by omega)).trans (sp125 b hb)
theorem sp127 : ∀ b, 138 ≤ b → cX127.1 b = (0, 0) := sp126
theorem sp128 : ∀ b, 138 ≤ b → cX128.1 b = (0, 0) := sp127
theorem sp129 : ∀ b, 138 ≤ b → cX129.1 b = (0, 0) := fun b hb => (nwK_ne (by omega)).trans (sp128 b hb)
theorem sp130 : ∀ b, 138 ≤ b → cX130.1 b = (0, 0) := fun b hb => (nwK_ne (by omega)).trans (sp129 b hb)
theorem sp131 : ∀ b, 138 ≤ b → cX131.1 b = (0, 0) := sp130
theorem sp132 : ∀ b, 138 ≤ b → cX132.1 b = (0, 0) := sp131
theorem sp133 : ∀ b, 138 ≤ b → cX133.1 b = (0, 0) := sp132
theorem sp134 : ∀ b, 138 ≤ b → cX134.1 b = (0, 0) := fun b hb => (nwK_ne (by omega)).trans (sp133 b hb)
theorem sp135 : ∀ b, 138 ≤ b → cX135.1 b = (0, 0) := fun b hb => (nwK_ne (by omega)).trans (sp134 b hb)
theorem sp136 : ∀ b, 138 ≤ b → cX136.1 b = (0, 0) := sp135
theorem sp137 : ∀ b, 138 ≤ b → cX137.1 b = (0, 0) := fun b hb => (nwK_ne (by omega)).trans (sp136 b hb)
theorem sp138 : ∀ b, 138 ≤ b → cX138.1 b = (0, 0) := sp137
theorem sp139 : ∀ b, 138 ≤ b → cX139.1 b = (0, 0) := fun b hb => (nwK_ne (by omega)).trans (sp138 b hb)
theorem sp140 : ∀ b, 138 ≤ b → cX140.1 b = (0, 0) := sp139
theorem sp141 : ∀ b, 138 ≤ b → cX141.1 b = (0, 0) := fun b hb => (nwK_ne (by omega)).trans (sp140 b hb)
theorem sp142 : ∀ b, 138 ≤ b → cX142.1 b = (0, 0) := sp141
theorem sp143 : ∀ b, 138 ≤ b → cX143.1 b = (0, 0) := sp142
theorem sp144 : ∀ b, 138 ≤ b → cX144.1 b = (0, 0) := fun b hb => (nwK_ne (by omega)).trans (sp143 b hb)
theorem sp145 : ∀ b, 138 ≤ b → cX145.1 b = (0, 0) := fun b hb => (nwK_ne (by omega)).trans (sp144 b hb)
theorem sp146 : ∀ b, 138 ≤ b → cX146.1 b = (0, 0) := sp145
theorem sp147 : ∀ b, 138 ≤ b → cX147.1 b = (0, 0) := fun b hb => (nwK_ne (by omega)).trans (sp146 b hb)
theorem sp148 : ∀ b, 138 ≤ b → cX148.1 b = (0, 0) := sp147
theorem sp149 : ∀ b, 138 ≤ b → cX149.1 b = (0, 0) := fun b hb => (nwK_ne (by omega)).trans (sp148 b hb)
theorem sp150 : ∀ b, 138 ≤ b → cX150.1 b = (0, 0) := sp149
theorem sp151 : ∀ b, 138 ≤ b → cX151.1 b = (0, 0) := sp150
theorem sp152 : ∀ b, 138 ≤ b → cX152.1 b = (0, 0) := fun b hb => (nwK_ne (by omega)).trans (sp151 b hb)
theorem sp153 : ∀ b, 138 ≤ b → cX153.1 b = (0, 0) := fun b hb => (nwK_ne (by omega)).trans (sp152 b hb)
theorem sp154 : ∀ b, 138 ≤ b → cX154.1 b = (0, 0) := sp153
theorem sp155 : ∀ b, 138 ≤ b → cX155.1 b = (0, 0) := sp154
theorem sp156 : ∀ b, 138 ≤ b → cX156.1 b = (0, 0) := fun b hb => (nwK_ne (by omega)).trans (sp155 b hb)
theorem sp157 : ∀ b, 138 ≤ b → cX157.1 b = (0, 0) := sp156
theorem sp158 : ∀ b, 138 ≤ b → cX158.1 b = (0, 0) := fun b hb => (nwK_ne (by omega)).trans (sp157 b hb)
theorem sp159 : ∀ b, 138 ≤ b → cX159.1 b = (0, 0) := fun b hb => (nwK_ne (by omega)).trans (sp158 b hb)
theorem sp160 : ∀ b, 138 ≤ b → cX160.1 b = (0, 0) := sp159
theorem sp161 : ∀ b, 138 ≤ b → cX161.1 b = (0, 0) := sp160
theorem sp162 : ∀ b, 138 ≤ b → cX162.1 b = (0, 0) := fun b hb => (nwK_ne (by omega)).trans (sp161 b hb)
theorem sp163 : ∀ b, 138 ≤ b → cX163.1 b = (0, 0) := fun b hb => (nwK_ne (by omega)).trans (sp162 b hb)
theorem sp164 : ∀ b, 138 ≤ b → cX164.1 b = (0, 0) := sp163
theorem sp165 : ∀ b, 138 ≤ b → cX165.1 b = (0, 0) := sp164
theorem sp166 : ∀ b, 138 ≤ b → cX166.1 b = (0, 0) := fun b hb => (nwK_ne (by omega)).trans (sp165 b hb)
theorem sp167 : ∀ b, 138 ≤ b → cX167.1 b = (0, 0) := fun b hb => (nwK_ne (by omega)).trans (sp166 b hb)
theorem sp168 : ∀ b, 138 ≤ b → cX168.1 b = (0, 0) := sp167
theorem sp169 : ∀ b, 138 ≤ b → cX169.1 b = (0, 0) := sp168
theorem sp170 : ∀ b, 138 ≤ b → cX170.1 b = (0, 0) := fun b hb => (nwK_ne (by omega)).trans (sp169 b hb)
theorem sp171 : ∀ b, 138 ≤ b → cX171.1 b = (0, 0) := fun b hb => (nwK_ne (by omega)).trans (sp170 b hb)
theorem sp172 : ∀ b, 138 ≤ b → cX172.1 b = (0, 0) := sp171
theorem sp173 : ∀ b, 138 ≤ b → cX173.1 b = (0, 0) := sp172
theorem sp174 : ∀ b, 138 ≤ b → cX174.1 b = (0, 0) := fun b hb => (nwK_ne (by omega)).trans (sp173 b hb)
theorem sp175 : ∀ b, 138 ≤ b → cX175.1 b = (0, 0) := fun b hb => (nwK_ne (by omega)).trans (sp174 b hb)
theorem sp176 : ∀ b, 138 ≤ b → cX176.1 b = (0, 0) := sp175
theorem sp177 : ∀ b, 138 ≤ b → cX177.1 b = (0, 0) := sp176
theorem sp178 : ∀ b, 138 ≤ b → cX178.1 b = (0, 0) := fun b hb => (nwK_ne (by omega)).trans (sp177 b hb)
theorem sp179 : ∀ b, 138 ≤ b → cX179.1 b = (0, 0) := fun b hb => (nwK_ne (by omega)).trans (sp178 b hb)
theorem sp180 : ∀ b, 138 ≤ b → cX180.1 b = (0, 0) := sp179
theorem sp181 : ∀ b, 138 ≤ b → cX181.1 b = (0, 0) := sp180
theorem sp182 : ∀ b, 138 ≤ b → cX182.1 b = (0, 0) := fun b hb => (nwK_ne (by omega)).trans (sp181 b hb)
theorem sp183 : ∀ b, 138 ≤ b → cX183.1 b = (0, 0) := fun b hb => (nwK_ne (by omega)).trans (sp182 b hb)
theorem sp184 : ∀ b, 138 ≤ b → cX184.1 b = (0, 0) := sp183
theorem sp185 : ∀ b, 138 ≤ b → cX185.1 b = (0, 0) := fun b hb => (nwK_ne (by omega)).trans (sp184 b hb)
theorem sp186 : ∀ b, 138 ≤ b → cX186.1 b = (0, 0) := sp185
theorem sp187 : ∀ b, 138 ≤ b → cX187.1 b = (0, 0) := fun b hb => (nwK_ne (by omega)).trans (sp186 b hb)
theorem sp188 : ∀ b, 138 ≤ b → cX188.1 b = (0, 0) := sp187
theorem sp189 : ∀ b, 138 ≤ b → cX189.1 b = (0, 0) := fun b hb => (nwK_ne (by omega)).trans (sp188 b hb)
theorem sp190 : ∀ b, 138 ≤ b → cX190.1 b = (0, 0) := sp189
theorem sp191 : ∀ b, 138 ≤ b → cX191.1 b = (0, 0) := fun b hb => (nwK_ne (by omega)).trans (sp190 b hb)
theorem sp192 : ∀ b, 138 ≤ b → cX192.1 b = (0, 0) := sp191
theorem sp193 : ∀ b, 138 ≤ b → cX193.1 b = (0, 0) := sp192
theorem sp194 : ∀ b, 138 ≤ b → cX194.1 b = (0, 0) := fun b hb => (nwK_ne (by omega)).trans (sp193 b hb)
theorem sp195 : ∀ b, 138 ≤ b → cX195.1 b = (0, 0) := sp194
theorem sp196 : ∀ b, 138 ≤ b → cX196.1 b = (0, 0) := fun b hb => (nwK_ne (by omega)).trans (sp195 b hb)
theorem sp197 : ∀ b, 138 ≤ b → cX197.1 b = (0, 0) := sp196
theorem sp198 : ∀ b, 138 ≤ b → cX198.1 b = (0, 0) := fun b hb => (nwK_ne (by omega)).trans (sp197 b hb)
theorem sp199 : ∀ b, 138 ≤ b → cX199.1 b = (0, 0) := fun b hb => (nwK_ne (by omega)).trans (sp198 b hb)
theorem sp200 : ∀ b, 138 ≤ b → cX200.1 b = (0, 0) := sp199
theorem sp201 : ∀ b, 138 ≤ b → cX201.1 b = (0, 0) := fun b hb => (nwK_ne (by omega)).trans (sp200 b hb)
theorem sp202 : ∀ b, 138 ≤ b → cX202.1 b = (0, 0) := sp201
theorem sp203 : ∀ b, 138 ≤ b → cX203.1 b = (0, 0) := fun b hb => (nwK_ne (by omega)).trans (sp202 b hb)
theorem sp204 : ∀ b, 138 ≤ b → cX204.1 b = (0, 0) := sp203
theorem sp205 : ∀ b, 138 ≤ b → cX205.1 b = (0, 0) := fun b hb => (nwK_ne (by omega)).trans (sp204 b hb)
theorem sp206 : ∀ b, 138 ≤ b → cX206.1 b = (0, 0) := sp205
theorem sp207 : ∀ b, 138 ≤ b → cX207.1 b = (0, 0) := fun b hb => (nwK_ne (by omega)).trans (sp206 b hb)
theorem sp208 : ∀ b, 138 ≤ b → cX208.1 b = (0, 0) := sp207
theorem sp209 : ∀ b, 138 ≤ b → cX209.1 b = (0, 0) := fun b hb => (nwK_ne (by omega)).trans (sp208 b hb)
theorem sp210 : ∀ b, 138 ≤ b → cX210.1 b = (0, 0) := sp209
theorem sp211 : ∀ b, 138 ≤ b → cX211.1 b = (0, 0) := fun b hb => (nwK_ne (by omega)).trans (sp210 b hb)
theorem sp212 : ∀ b, 138 ≤ b → cX212.1 b = (0, 0) := sp211
theorem sp213 : ∀ b, 138 ≤ b → cX213.1 b = (0, 0) := fun b hb => (nwK_ne (by omega)).trans (sp212 b hb)
theorem sp214 : ∀ b, 138 ≤ b → cX214.1 b = (0, 0) := sp213
theorem sp215 : ∀ b, 138 ≤ b → cX215.1 b = (0, 0) := fun b hb => (nwK_ne (by omega)).trans (sp214 b hb)
theorem sp216 : ∀ b, 138 ≤ b → cX216.1 b = (0, 0) := sp215
theorem sp217 : ∀ b, 138 ≤ b → cX217.1 b = (0, 0) := fun b hb => (nwK_ne (by omega)).trans (sp216 b hb)
theorem sp218 : ∀ b, 138 ≤ b → cX218.1 b = (0, 0) := sp217
theorem sp219 : ∀ b, 138 ≤ b → cX219.1 b = (0, 0) := fun b hb => (nwK_ne (by omega)).trans (sp218 b hb)
theorem sp220 : ∀ b, 138 ≤ b → cX220.1 b = (0, 0) := sp219
theorem sp221 : ∀ b, 138 ≤ b → cX221.1 b = (0, 0) := fun b hb => (nwK_ne (by omega)).trans (sp220 b hb)
theorem sp222 : ∀ b, 138 ≤ b → cX222.1 b = (0, 0) := sp221
theorem sp223 : ∀ b, 138 ≤ b → cX223.1 b = (0, 0) := fun b hb => (nwK_ne (by omega)).trans (sp222 b hb)
theorem sp224 : ∀ b, 138 ≤ b → cX224.1 b = (0, 0) := sp223
theorem sp225 : ∀ b, 138 ≤ b → cX225.1 b = (0, 0) := fun b hb => (nwK_ne (by omega)).trans (sp224 b hb)
theorem sp226 : ∀ b, 138 ≤ b → cX226.1 b = (0, 0) := sp225
theorem sp227 : ∀ b, 138 ≤ b → cX227.1 b = (0, 0) := fun b hb => (nwK_ne (by omega)).trans (sp226 b hb)
theorem sp228 : ∀ b, 138 ≤ b → cX228.1 b = (0, 0) := sp227
theorem sp229 : ∀ b, 138 ≤ b → cX229.1 b = (0, 0) := fun b hb => (nwK_ne (by omega)).trans (sp228 b hb)
theorem sp230 : ∀ b, 138 ≤ b → cX230.1 b = (0, 0) := sp229
theorem sp231 : ∀ b, 138 ≤ b → cX231.1 b = (0, 0) := fun b hb => (nwK_ne (by omega)).trans (sp230 b hb)
theorem sp232 : ∀ b, 138 ≤ b → cX232.1 b = (0, 0) := sp231
theorem sp233 : ∀ b, 138 ≤ b → cX233.1 b = (0, 0) := fun b hb => (nwK_ne (by omega)).trans (sp232 b hb)
theorem sp234 : ∀ b, 138 ≤ b → cX234.1 b = (0, 0) := sp233
theorem sp235 : ∀ b, 138 ≤ b → cX235.1 b = (0, 0) := fun b hb => (nwK_ne (by omega)).trans (sp234 b hb)
theorem sp236 : ∀ b, 138 ≤ b → cX236.1 b = (0, 0) := sp235
theorem sp237 : ∀ b, 138 ≤ b → cX237.1 b = (0, 0) := fun b hb => (nwK_ne (by omega)).trans (sp236 b hb)
theorem sp238 : ∀ b, 138 ≤ b → cX238.1 b = (0, 0) := sp237
theorem sp239 : ∀ b, 138 ≤ b → cX239.1 b = (0, 0) := fun b hb => (nwK_ne (by omega)).trans (sp238 b hb)
theorem sp240 : ∀ b, 138 ≤ b → cX240.1 b = (0, 0) := sp239
theorem sp241 : ∀ b, 138 ≤ b → cX241.1 b = (0, 0) := fun b hb => (nwK_ne (by omega)).trans (sp240 b hb)
theorem sp242 : ∀ b, 138 ≤ b → cX242.1 b = (0, 0) := sp241
theorem sp243 : ∀ b, 138 ≤ b → cX243.1 b = (0, 0) := fun b hb => (nwK_ne (by omega)).trans (sp242 b hb)
theorem sp244 : ∀ b, 138 ≤ b → cX244.1 b = (0, 0) := sp243
theorem sp245 : ∀ b, 138 ≤ b → cX245.1 b = (0, 0) := fun b hb => (nwK_ne (by omega)).trans (sp244 b hb)
theorem sp246 : ∀ b, 138 ≤ b → cX246.1 b = (0, 0) := sp245
theorem sp247 : ∀ b, 138 ≤ b → cX247.1 b = (0, 0) := fun b hb => (nwK_ne (by omega)).trans (sp246 b hb)
theorem sp248 : ∀ b, 138 ≤ b → cX248.1 b = (0, 0) := sp247
theorem sp249 : ∀ b, 138 ≤ b → cX249.1 b = (0, 0) := fun b hb => (nwK_ne (by omega)).trans (sp248 b hb)
theorem sp250 : ∀ b, 138 ≤ b → cX250.1 b = (0, 0) := sp249
theorem sp251 : ∀ b, 138 ≤ b → cX251.1 b = (0, 0) := fun b hb => (nwK_ne (by omega)).trans (sp250 b hb)
theorem sp252 : ∀ b, 138 ≤ b → cX252.1 b = (0, 0) := sp251
theorem sp253 : ∀ b, 138 ≤ b → cX253.1 b = (0, 0) := fun b hb => (nwK_ne (by omega)).trans (sp252 b hb)
theorem sp254 : ∀ b, 138 ≤ b → cX254.1 b = (0, 0) := sp253
theorem sp255 : ∀ b, 138 ≤ b → cX255.1 b = (0, 0) := fun b hb => (nwK_ne (by omega)).trans (sp254 b hb)
theorem sp256 : ∀ b, 138 ≤ b → cX256.1 b = (0, 0) := sp255
theorem sp257 : ∀ b, 138 ≤ b → cX257.1 b = (0, 0) := fun b hb => (nwK_ne (by omega)).trans (sp256 b hb)
theorem sp258 : ∀ b, 138 ≤ b → cX258.1 b = (0, 0) := sp257
theorem sp259 : ∀ b, 138 ≤ b → cX259.1 b = (0, 0) := fun b hb => (nwK_ne (by omega)).trans (sp258 b hb)
theorem sp260 : ∀ b, 138 ≤ b → cX260.1 b = (0, 0) := sp259
theorem sp261 : ∀ b, 138 ≤ b → cX261.1 b = (0, 0) := fun b hb => (nwK_ne (by omega)).trans (sp260 b hb)
theorem sp262 : ∀ b, 138 ≤ b → cX262.1 b = (0, 0) := sp261
theorem sp263 : ∀ b, 138 ≤ b → cX263.1 b = (0, 0) := fun b hb => (nwK_ne (by omega)).trans (sp262 b hb)
theorem sp264 : ∀ b, 138 ≤ b → cX264.1 b = (0, 0) := sp263
theorem sp265 : ∀ b, 138 ≤ b → cX265.1 b = (0, 0) := fun b hb => (nwK_ne (by omega)).trans (sp264 b hb)
theorem sp266 : ∀ b, 138 ≤ b → cX266.1 b = (0, 0) := sp265
theorem sp267 : ∀ b, 138 ≤ b → cX267.1 b = (0, 0) := fun b hb => (nwK_ne (by omega)).trans (sp266 b hb)
theorem sp268 : ∀ b, 138 ≤ b → cX268.1 b = (0, 0) := sp267
theorem sp269 : ∀ b, 138 ≤ b → cX269.1 b = (0, 0) := fun b hb => (nwK_ne (by omega)).trans (sp268 b hb)
theorem sp270 : ∀ b, 138 ≤ b → cX270.1 b = (0, 0) := sp269
theorem sp271 : ∀ b, 138 ≤ b → cX271.1 b = (0, 0) := fun b hb => (nwK_ne (by omega)).trans (sp270 b hb)
theorem sp272 : ∀ b, 138 ≤ b → cX272.1 b = (0, 0) := sp271
theorem sp273 : ∀ b, 138 ≤ b → cX273.1 b = (0, 0) := fun b hb => (nwK_ne (by omega)).trans (sp272 b hb)
theorem sp274 : ∀ b, 138 ≤ b → cX274.1 b = (0, 0) := sp273
theorem supp138 : ∀ b, cXe.2.2 ≤ b → cXe.1 b = (0, 0) := fun b hb => sp274 b hb
set_option maxRecDepth 100000 in
set_option maxHeartbeats 8000000 in
theorem sh10_e : shX10 cXe := ⟨rfl, rfl, ⟨rfl, rfl, rfl, (fun i hi => match i, hi with | 0, _ => rfl | 1, _ => rfl | 2, _ => rfl | 3, _ => rfl | 4, _ => rfl | 5, _ => rfl), (fun i hi => match i, hi with | 0, _ => ⟨rfl, rfl, rfl⟩ | 1, _ => ⟨rfl, rfl, rfl⟩ | 2, _ => ⟨rfl, rfl, rfl⟩ | 3, _ => ⟨rfl, rfl, rfl⟩ | 4, _ => ⟨rfl, rfl, rfl⟩ | 5, _ => ⟨rfl, rfl, rfl⟩), rfl, ⟨rfl, rfl, rfl, rfl, rfl⟩, rfl, rfl, (fun i hi => match i, hi with | 0, _ => rfl | 1, _ => rfl | 2, _ => rfl | 3, _ => rfl | 4, _ => rfl | 5, _ => rfl), (fun i hi => match i, hi with | 0, _ => ⟨rfl, rfl, rfl⟩ | 1, _ => ⟨rfl, rfl, rfl⟩ | 2, _ => ⟨rfl, rfl, rfl⟩ | 3, _ => ⟨rfl, rfl, rfl⟩ | 4, _ => ⟨rfl, rfl, rfl⟩ | 5, _ => ⟨rfl, rfl, rfl⟩), rfl, rfl, rfl, rfl, rfl, rfl⟩, rfl, ⟨rfl, rfl, rfl, (fun i hi => match i, hi with | 0, _ => rfl | 1, _ => rfl | 2, _ => rfl | 3, _ => rfl | 4, _ => rfl | 5, _ => rfl), (fun i hi => match i, hi with | 0, _ => ⟨rfl, rfl, rfl⟩ | 1, _ => ⟨rfl, rfl, rfl⟩ | 2, _ => ⟨rfl, rfl, rfl⟩ | 3, _ => ⟨rfl, rfl, rfl⟩ | 4, _ => ⟨rfl, rfl, rfl⟩ | 5, _ => ⟨rfl, rfl, rfl⟩), rfl, ⟨rfl, rfl, rfl, rfl, rfl⟩, rfl, rfl, (fun i hi => match i, hi with | 0, _ => rfl | 1, _ => rfl | 2, _ => rfl | 3, _ => rfl | 4, _ => rfl | 5, _ => rfl), (fun i hi => match i, hi with | 0, _ => ⟨rfl, rfl, rfl⟩ | 1, _ => ⟨rfl, rfl, rfl⟩ | 2, _ => ⟨rfl, rfl, rfl⟩ | 3, _ => ⟨rfl, rfl, rfl⟩ | 4, _ => ⟨rfl, rfl, rfl⟩ | 5, _ => ⟨rfl, rfl, rfl⟩), rfl, rfl, rfl, rfl, rfl, rfl⟩, rfl, ⟨rfl, rfl, rfl, rfl, rfl, rfl, rfl, rfl, rfl⟩, rfl, ⟨rfl, rfl, rfl, rfl, rfl, rfl, rfl⟩, rfl, ⟨rfl, rfl, rfl⟩, rfl, rfl, (fun i hi => match i, hi with | 0, _ => rfl | 1, _ => rfl | 2, _ => rfl | 3, _ => rfl | 4, _ => rfl | 5, _ => rfl), (fun i hi => match i, hi with | 0, _ => ⟨rfl, rfl, rfl⟩ | 1, _ => ⟨rfl, rfl, rfl⟩ | 2, _ => ⟨rfl, rfl, rfl⟩ | 3, _ => ⟨rfl, rfl, rfl⟩ | 4, _ => ⟨rfl, rfl, rfl⟩ | 5, _ => ⟨rfl, rfl, rfl⟩), rfl, ⟨rfl, rfl, rfl, rfl, rfl, rfl, rfl, rfl, rfl, rfl, rfl⟩, rfl, rfl, (fun i q h => by rw [lad97] at h; cases h), rfl, rfl, by decide, supp138⟩
set_option maxRecDepth 100000 in
set_option maxHeartbeats 8000000 in
theorem sh11_e : shX11 cXe := ⟨rfl, rfl, rfl, rfl, rfl, rfl, rfl, rfl, rfl, rfl, rfl, rfl, rfl, rfl, rfl, rfl, rfl, rfl, rfl, rfl, rfl, rfl, rfl, rfl, rfl, rfl, rfl, rfl, rfl, rfl, rfl, rfl, rfl, rfl, rfl, rfl, rfl, rfl, rfl, rfl, rfl, rfl, rfl, rfl, rfl, rfl, rfl, rfl, rfl, rfl, rfl, rfl, rfl, rfl, rfl, rfl, rfl, rfl, rfl, rfl, rfl, rfl, rfl, rfl, rfl, rfl, rfl, rfl, rfl, rfl, rfl, rfl, rfl, rfl, rfl, rfl, rfl, by decide, supp138⟩
