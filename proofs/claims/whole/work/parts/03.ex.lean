/-! ===== the abstract memory: every cell that the law's run has made, by its number from B on ===== -/
abbrev MI : Type := Nat → Nat → Int32
abbrev ML : Type := Nat → Nat → Int64
abbrev MF : Type := Nat → Nat → Option Nat
/-- kinds of cells (tag, length or class number), references, how many cells -/
abbrev MX : Type := (Nat → Nat × Nat) × MF × Nat
/-- a method: its class's name, its bytes, its locals -/
abbrev MT : Type := String × ByteArray × Nat
def upI (I : MI) (a k : Nat) (v : Int32) : MI := fun b j => if b = a ∧ j = k then v else I b j
def upL (L : ML) (a k : Nat) (v : Int64) : ML := fun b j => if b = a ∧ j = k then v else L b j
def upF (F : MF) (a k : Nat) (v : Option Nat) : MF := fun b j => if b = a ∧ j = k then v else F b j
def jrem (x y : Int32) : Int32 := x - x / y * y
def jremL (x y : Int64) : Int64 := x - x / y * y
def jshr (x y : Int32) : Int32 := x >>> (y &&& 31)
def jshl (x y : Int32) : Int32 := x <<< (y &&& 31)
def jushr (x y : Int32) : Int32 := (x.toUInt32 >>> (y.toUInt32 &&& Int32.toUInt32 31)).toInt32
def jlshl (x : Int64) (y : Int32) : Int64 := x <<< (y.toInt64 &&& 63)
def jlushr (x : Int64) (y : Int32) : Int64 := (x.toUInt64 >>> (y.toInt64.toUInt64 &&& Int64.toUInt64 63)).toInt64
def fty (ci : Nat) : Nat → FieldType := match ci with
  | 0 => tyX0
  | 1 => tyX1
  | 2 => tyX2
  | 3 => tyX3
  | 4 => tyX4
  | 5 => tyX5
  | 6 => tyX6
  | 7 => tyX7
  | 8 => tyX8
  | 9 => tyX9
  | 10 => tyX10
  | _ => tyX11
def fval (B : Nat) (ty : FieldType) (i : Int32) (f : Option Nat) : Value := match ty with
  | .int => .int i
  | .boolean => .int i
  | _ => va_rf (f.map (B + ·))
def cellIs (D : va_G) (dA : Nat → ClassId) (B : Nat) (k : Nat × Nat) (a : Nat) (I : MI) (L : ML) (F : MF) (H : Heap) : Prop := match k with
  | (0, _) => True
  | (1, ci) => ∃ r : vw_C, vwCl[ci]? = some r ∧ t_OB (B + a) (D.1 ci) r.2.2 (D.2 ci) H (fun j => fval B (fty ci j) (I a j) (F a j))
  | (2, n) => H[B + a]? = some (arrV (dA 2) n (fun j => .int (I a j)))
  | (3, n) => H[B + a]? = some (arrV (dA 3) n (fun j => .long (L a j)))
  | (t, n) => H[B + a]? = some (arrV (dA t) n (fun j => va_rf ((F a j).map (B + ·))))
def Hold (D : va_G) (dA : Nat → ClassId) (B : Nat) (X : MX) (I : MI) (L : ML) (H : Heap) : Prop :=
  H.size = B + X.2.2 ∧ (∀ a, X.2.2 ≤ a → X.1 a = (0, 0)) ∧ ∀ a, cellIs D dA B (X.1 a) a I L X.2.1 H
theorem cellIs.kept {D : va_G} {dA : Nat → ClassId} {B a : Nat} {k : Nat × Nat} {I I' : MI} {L L' : ML} {F F' : MF} {H H' : Heap} (h : cellIs D dA B k a I L F H) (hq : H'[B + a]? = H[B + a]?) (hI : I' a = I a) (hL : L' a = L a) (hF : F' a = F a) : cellIs D dA B k a I' L' F' H' := by
  unfold cellIs at h ⊢
  rw [hI, hL, hF]
  split at h
  · trivial
  · obtain ⟨r, h1, h2⟩ := h
    exact ⟨r, h1, h2.kept hq⟩
  · rw [hq]; exact h
  · rw [hq]; exact h
  · rw [hq]; exact h
theorem upI_off {I : MI} {a k b : Nat} {v : Int32} (h : b ≠ a) : upI I a k v b = I b := by
  funext j; simp [upI, h]
theorem upL_off {L : ML} {a k b : Nat} {v : Int64} (h : b ≠ a) : upL L a k v b = L b := by
  funext j; simp [upL, h]
theorem upF_off {F : MF} {a k b : Nat} {v : Option Nat} (h : b ≠ a) : upF F a k v b = F b := by
  funext j; simp [upF, h]
theorem upI_at (I : MI) (a k : Nat) (v : Int32) (j : Nat) : upI I a k v a j = if j = k then v else I a j := by simp [upI]
theorem upL_at (L : ML) (a k : Nat) (v : Int64) (j : Nat) : upL L a k v a j = if j = k then v else L a j := by simp [upL]
theorem upF_at (F : MF) (a k : Nat) (v : Option Nat) (j : Nat) : upF F a k v a j = if j = k then v else F a j := by simp [upF]
/-- one cell moves, the others stay -/
theorem Hold.one {D : va_G} {dA : Nat → ClassId} {B : Nat} {X : MX} {I I' : MI} {L L' : ML} {F' : MF} {H H' : Heap} (h : Hold D dA B X I L H) (a : Nat) (hz : H'.size = H.size) (hq : ∀ q, q ≠ B + a → H'[q]? = H[q]?)
    (hI : ∀ b, b ≠ a → I' b = I b) (hL : ∀ b, b ≠ a → L' b = L b) (hF : ∀ b, b ≠ a → F' b = X.2.1 b) (hc : cellIs D dA B (X.1 a) a I' L' F' H') : Hold D dA B (X.1, F', X.2.2) I' L' H' := by
  obtain ⟨h1, h2, h3⟩ := h
  refine ⟨by rw [hz]; exact h1, h2, fun b => ?_⟩
  by_cases e : b = a
  · subst e; exact hc
  · exact (h3 b).kept (hq _ (by omega)) (hI b e) (hL b e) (hF b e)
/-- a new cell at the end -/
theorem Hold.new {D : va_G} {dA : Nat → ClassId} {B : Nat} {X : MX} {I I' : MI} {L L' : ML} {F' : MF} {H H' : Heap} (h : Hold D dA B X I L H) (k : Nat × Nat) (hz : H'.size = H.size + 1) (hq : ∀ q, q < H.size → H'[q]? = H[q]?)
    (hI : ∀ b, b ≠ X.2.2 → I' b = I b) (hL : ∀ b, b ≠ X.2.2 → L' b = L b) (hF : ∀ b, b ≠ X.2.2 → F' b = X.2.1 b) (hc : cellIs D dA B k X.2.2 I' L' F' H') :
    Hold D dA B ((fun b => if b = X.2.2 then k else X.1 b), F', X.2.2 + 1) I' L' H' := by
  obtain ⟨h1, h2, h3⟩ := h
  refine ⟨by rw [hz, h1]; simp only; omega, fun b hb => ?_, fun b => ?_⟩
  · simp only at hb ⊢
    rw [if_neg (by omega)]
    exact h2 b (by omega)
  · simp only
    by_cases e : b = X.2.2
    · subst e; rw [if_pos rfl]; exact hc
    · rw [if_neg e]
      by_cases g : b < X.2.2
      · exact (h3 b).kept (hq _ (by rw [h1]; omega)) (hI b e) (hL b e) (hF b e)
      · rw [h2 b (by omega)]; trivial
def tysOf (dA : Nat → ClassId) : List (ClassId × FieldType) := [(dA 2, .int), (dA 3, .long), (dA 4, .object RX9), (dA 5, .object RX0), (dA 6, .object RX7), (dA 7, .object RX2)]
def sNm (j : Nat) : String × String := match j with
  | 0 => ("RookWords$Rooks", "FACTORIALS")
  | 1 => ("RookWords$Ladder", "SHIFTS")
  | 2 => ("RookWords$Ladder", "MASKS")
  | _ => ("RookWords$Ladder", "SIZES")
def tabI (j k : Nat) : Int32 := (match j with
  | 0 => [1, 1, 2, 6, 24, 120, 720]
  | 1 => [63, 57, 48, 36, 23, 10, 0]
  | 2 => [0, 63, 511, 4095, 8191, 8191, 1023]
  | _ => [1, 2, 6, 20, 70, 252, 924] : List Int32).getD k 0
def lwn : List Cond := [(Jvm.Cond.methodLinkNest "RookWords$State" (19 : Nat) ({ cls := "RookWords$Sum", name := "<init>", desc := "()V" } : Jvm.MethodName) "RookWords"), (Jvm.Cond.methodLinkNest "RookWords$State" (40 : Nat) ({ cls := "RookWords$Word", name := "<init>", desc := "()V" } : Jvm.MethodName) "RookWords"), (Jvm.Cond.methodLinkNest "RookWords$State" (41 : Nat) ({ cls := "RookWords$Board", name := "<init>", desc := "()V" } : Jvm.MethodName) "RookWords"), (Jvm.Cond.methodLinkNest "RookWords" (23 : Nat) ({ cls := "RookWords$Changes", name := "<init>", desc := "()V" } : Jvm.MethodName) "RookWords"), (Jvm.Cond.methodLinkNest "RookWords" (30 : Nat) ({ cls := "RookWords$Text", name := "<init>", desc := "()V" } : Jvm.MethodName) "RookWords"), (Jvm.Cond.methodLinkNest "RookWords" (37 : Nat) ({ cls := "RookWords$Paper", name := "<init>", desc := "()V" } : Jvm.MethodName) "RookWords"), (Jvm.Cond.methodLinkNest "RookWords" (48 : Nat) ({ cls := "RookWords$Tape", name := "<init>", desc := "()V" } : Jvm.MethodName) "RookWords"), (Jvm.Cond.methodLinkNest "RookWords" (51 : Nat) ({ cls := "RookWords$Rooks", name := "<init>", desc := "()V" } : Jvm.MethodName) "RookWords"), (Jvm.Cond.methodLinkNest "RookWords$Board" (62 : Nat) ({ cls := "RookWords", name := "digit", desc := "(II)I" } : Jvm.MethodName) "RookWords"), (Jvm.Cond.methodLinkNest "RookWords$Ladder" (43 : Nat) ({ cls := "RookWords", name := "keyOf", desc := "([I)J" } : Jvm.MethodName) "RookWords")]
def World (D : va_G) (dA : Nat → ClassId) (B : Nat) (tS : Nat → Nat) (U : State) : Prop :=
  va_K D vwCl (tysOf dA) U ∧ (∀ j, j < 4 → va_Z (sNm j).1 (sNm j).2 "[I" (.ref (tS j)) (fun q => B ≤ q) U U.heap ∧ va_T .int (tS j) 7 (fun i => .int (tabI j i)) (fun q => B ≤ q) U U.heap) ∧ (∀ w ∈ lwn, va_Nw w U) ∧ (va_AO RX9 U ∧ va_AO RX0 U ∧ va_AO RX7 U ∧ va_AO RX2 U) ∧ B ≤ U.heap.size
theorem lwn_warm {s U : State} (hW : s.WarmedH U.vm) {w : Cond} (hw : w ∈ lwn) (h : va_Nw w s) : va_Nw w U := by
  simp only [lwn, List.mem_cons, List.not_mem_nil, or_false] at hw
  rcases hw with rfl | rfl | rfl | rfl | rfl | rfl | rfl | rfl | rfl | rfl <;> exact va_Nw.warmM hW h
theorem World.moved {D : va_G} {dA : Nat → ClassId} {B : Nat} {tS : Nat → Nat} {s U : State} (h : World D dA B tS s) (hW : s.WarmedH U.vm) (hz : s.heap.size ≤ U.heap.size) (hq : ∀ q : Nat, q < s.heap.size → ¬ B ≤ q → U.heap[q]? = s.heap[q]?) : World D dA B tS U := by
  obtain ⟨h1, h2, h3, ⟨h4, h5, h6, h7⟩, h8⟩ := h
  exact ⟨h1.moved hW.alike, fun j hj => ⟨((h2 j hj).1.moved hW.alike).kept hq, ((h2 j hj).2.moved hW.alike).kept hq⟩, fun w hw => lwn_warm hW hw (h3 w hw), ⟨h4.moved hW.alike, h5.moved hW.alike, h6.moved hW.alike, h7.moved hW.alike⟩, Nat.le_trans h8 hz⟩
/-- all that stands fast while a method runs -/
abbrev GX : Type := (Program × Launch × Env × Room × State) × (MethodId × Array Value × List Frame × Method × Code) × (va_G × (Nat → ClassId) × Nat × (Nat → Nat))
abbrev gB (G : GX) : Nat := G.2.2.2.2.1
abbrev gT (G : GX) (j : Nat) : Nat := G.2.2.2.2.2 j
/-- room (frames, words, cells, slots); is it a constructor; its answer's type -/
abbrev RM : Type := (Nat × Nat × Nat × Nat) × Bool × Option FieldType
def Cok (G : GX) (mt : MT) (rm : RM) : Prop := match G with
  | ((p, _, _, R, s), (m, args, _, meth, c), (D, dA, B, tS)) => p.tables.exec = Jvm.exec ∧ c.code = mt.2.1 ∧ c.maxLocals = mt.2.2 ∧ s.vm.findClass mt.1 = some m.cls ∧ (∀ w ∈ lwg, w.before args s = true) ∧ World D dA B tS s ∧ meth.locks = false ∧ ((R.frames = rm.1.1 ∧ R.locals = rm.1.2.1 ∧ R.cells = rm.1.2.2.1 ∧ R.slots = rm.1.2.2.2) ∧ (rm.2.1 = true → meth.name = "<init>") ∧ meth.sig.returnType = rm.2.2)
/-- the machine, at pc with locals lv, operands st, memory (X, I, L), kn cells and slots made: it comes to a state with Q -/
def Ex (G : GX) (mt : MT) (rm : RM) (Q : State → Prop) (kn : Nat × Nat) (X : MX) (I : MI) (L : ML) (pc : Nat) (lv : List (Nat × Value)) (st : List Value) : Prop := match G with
  | ((p, l, e, R, s), (m, args, below, meth, c), (D, dA, B, tS)) => Cok ((p, l, e, R, s), (m, args, below, meth, c), (D, dA, B, tS)) mt rm → ∀ (H : Heap) (locs : List Loc) (ls : Array Slot), Hold D dA B X I L H → va_S (fun q => B ≤ q) s.heap H locs → lv_has ls mt.2.2 lv → W p l e R s m args below meth c H locs kn.1 kn.2 Q (F0 m pc ls st)
section EX
variable {G : GX} {mt : MT} {rm : RM} {Q : State → Prop} {kn : Nat × Nat} {X : MX} {I : MI} {L : ML} {pc pc' : Nat} {lv lv' : List (Nat × Value)} {st : List Value}
theorem ex_iconst {n : Int} {v : Int32} (hd : decode mt.2.1 pc = .ok (.iconst n, 1)) (hv : Int32.ofInt n = v) (hp : pc + 1 = pc') (kk : Ex G mt rm Q kn X I L pc' lv (.int v :: st)) : Ex G mt rm Q kn X I L pc lv (st) := by
  obtain ⟨⟨p, l, e, R, s⟩, ⟨m, ar, below, meth, c⟩, ⟨D, dA, B, tS⟩⟩ := G
  intro hc H locs ls hH hS hl
  subst hp
  exact lv_iconst hc.1 hc.2.1 hd hv (kk hc H locs ls hH hS hl)
theorem ex_bipush {n : Int} {v : Int32} (hd : decode mt.2.1 pc = .ok (.bipush n, 2)) (hv : (Int8.ofInt n).toInt32 = v) (hp : pc + 2 = pc') (kk : Ex G mt rm Q kn X I L pc' lv (.int v :: st)) : Ex G mt rm Q kn X I L pc lv (st) := by
  obtain ⟨⟨p, l, e, R, s⟩, ⟨m, ar, below, meth, c⟩, ⟨D, dA, B, tS⟩⟩ := G
  intro hc H locs ls hH hS hl
  subst hp
  exact lv_bipush hc.1 hc.2.1 hd hv (kk hc H locs ls hH hS hl)
theorem ex_sipush {n : Int} {v : Int32} (hd : decode mt.2.1 pc = .ok (.sipush n, 3)) (hv : (Int16.ofInt n).toInt32 = v) (hp : pc + 3 = pc') (kk : Ex G mt rm Q kn X I L pc' lv (.int v :: st)) : Ex G mt rm Q kn X I L pc lv (st) := by
  obtain ⟨⟨p, l, e, R, s⟩, ⟨m, ar, below, meth, c⟩, ⟨D, dA, B, tS⟩⟩ := G
  intro hc H locs ls hH hS hl
  subst hp
  exact lv_sipush hc.1 hc.2.1 hd hv (kk hc H locs ls hH hS hl)
theorem ex_lconst {n : Fin 2} {v : Int64} (hd : decode mt.2.1 pc = .ok (.lconst n, 1)) (hv : Int64.ofNat (n : Nat) = v) (hp : pc + 1 = pc') (kk : Ex G mt rm Q kn X I L pc' lv (.long v :: st)) : Ex G mt rm Q kn X I L pc lv (st) := by
  obtain ⟨⟨p, l, e, R, s⟩, ⟨m, ar, below, meth, c⟩, ⟨D, dA, B, tS⟩⟩ := G
  intro hc H locs ls hH hS hl
  subst hp
  exact lv_lconst hc.1 hc.2.1 hd hv (kk hc H locs ls hH hS hl)
theorem ex_iload_n {k : Fin 4} {i : Nat} {x : Int32} (j : Nat) (hd : decode mt.2.1 pc = .ok (.iload_n k, 1)) (hk : (k : Nat) = i) (hj : lv[j]? = some (i, .int x)) (hp : pc + 1 = pc') (kk : Ex G mt rm Q kn X I L pc' lv (.int x :: st)) : Ex G mt rm Q kn X I L pc lv (st) := by
  obtain ⟨⟨p, l, e, R, s⟩, ⟨m, ar, below, meth, c⟩, ⟨D, dA, B, tS⟩⟩ := G
  intro hc H locs ls hH hS hl
  subst hp
  exact lv_iload_n hc.1 hc.2.1 hd hk (lv_at hl j hj) (kk hc H locs ls hH hS hl)
theorem ex_iload {i : Nat} {x : Int32} (j : Nat) (hd : decode mt.2.1 pc = .ok (.iload i, 2)) (hj : lv[j]? = some (i, .int x)) (hp : pc + 2 = pc') (kk : Ex G mt rm Q kn X I L pc' lv (.int x :: st)) : Ex G mt rm Q kn X I L pc lv (st) := by
  obtain ⟨⟨p, l, e, R, s⟩, ⟨m, ar, below, meth, c⟩, ⟨D, dA, B, tS⟩⟩ := G
  intro hc H locs ls hH hS hl
  subst hp
  exact lv_iload hc.1 hc.2.1 hd (lv_at hl j hj) (kk hc H locs ls hH hS hl)
theorem ex_istore_n {k : Fin 4} {i : Nat} {x : Int32} (hd : decode mt.2.1 pc = .ok (.istore_n k, 1)) (hk : (k : Nat) = i) (hn : i < mt.2.2) (hf : (i, Value.int x) :: lv.filter (fun q => !(q.1 == i) && !(q.1 + 1 == i && q.2.category == 2)) = lv') (hp : pc + 1 = pc') (kk : Ex G mt rm Q kn X I L pc' lv' st) : Ex G mt rm Q kn X I L pc lv (.int x :: st) := by
  obtain ⟨⟨p, l, e, R, s⟩, ⟨m, ar, below, meth, c⟩, ⟨D, dA, B, tS⟩⟩ := G
  intro hc H locs ls hH hS hl
  subst hp
  exact lv_istore_n hc.1 hc.2.1 hd hk hl hn hf (fun ls' hl' => kk hc H locs ls' hH hS hl')
theorem ex_istore {i : Nat} {x : Int32} (hd : decode mt.2.1 pc = .ok (.istore i, 2)) (hn : i < mt.2.2) (hf : (i, Value.int x) :: lv.filter (fun q => !(q.1 == i) && !(q.1 + 1 == i && q.2.category == 2)) = lv') (hp : pc + 2 = pc') (kk : Ex G mt rm Q kn X I L pc' lv' st) : Ex G mt rm Q kn X I L pc lv (.int x :: st) := by
  obtain ⟨⟨p, l, e, R, s⟩, ⟨m, ar, below, meth, c⟩, ⟨D, dA, B, tS⟩⟩ := G
  intro hc H locs ls hH hS hl
  subst hp
  exact lv_istore hc.1 hc.2.1 hd hl hn hf (fun ls' hl' => kk hc H locs ls' hH hS hl')
theorem ex_lload_n {k : Fin 4} {i : Nat} {x : Int64} (j : Nat) (hd : decode mt.2.1 pc = .ok (.lload_n k, 1)) (hk : (k : Nat) = i) (hj : lv[j]? = some (i, .long x)) (hp : pc + 1 = pc') (kk : Ex G mt rm Q kn X I L pc' lv (.long x :: st)) : Ex G mt rm Q kn X I L pc lv (st) := by
  obtain ⟨⟨p, l, e, R, s⟩, ⟨m, ar, below, meth, c⟩, ⟨D, dA, B, tS⟩⟩ := G
  intro hc H locs ls hH hS hl
  subst hp
  exact lv_lload_n hc.1 hc.2.1 hd hk (lv_at hl j hj) (kk hc H locs ls hH hS hl)
theorem ex_lload {i : Nat} {x : Int64} (j : Nat) (hd : decode mt.2.1 pc = .ok (.lload i, 2)) (hj : lv[j]? = some (i, .long x)) (hp : pc + 2 = pc') (kk : Ex G mt rm Q kn X I L pc' lv (.long x :: st)) : Ex G mt rm Q kn X I L pc lv (st) := by
  obtain ⟨⟨p, l, e, R, s⟩, ⟨m, ar, below, meth, c⟩, ⟨D, dA, B, tS⟩⟩ := G
  intro hc H locs ls hH hS hl
  subst hp
  exact lv_lload hc.1 hc.2.1 hd (lv_at hl j hj) (kk hc H locs ls hH hS hl)
theorem ex_lstore_n {k : Fin 4} {i : Nat} {x : Int64} (hd : decode mt.2.1 pc = .ok (.lstore_n k, 1)) (hk : (k : Nat) = i) (hn : i + 1 < mt.2.2) (hf : (i, Value.long x) :: lv.filter (fun q => !(q.1 == i) && (!(q.1 == i + 1) && !(q.1 + 1 == i && q.2.category == 2))) = lv') (hp : pc + 1 = pc') (kk : Ex G mt rm Q kn X I L pc' lv' st) : Ex G mt rm Q kn X I L pc lv (.long x :: st) := by
  obtain ⟨⟨p, l, e, R, s⟩, ⟨m, ar, below, meth, c⟩, ⟨D, dA, B, tS⟩⟩ := G
  intro hc H locs ls hH hS hl
  subst hp
  exact lv_lstore_n hc.1 hc.2.1 hd hk hl hn hf (fun ls' hl' => kk hc H locs ls' hH hS hl')
theorem ex_lstore {i : Nat} {x : Int64} (hd : decode mt.2.1 pc = .ok (.lstore i, 2)) (hn : i + 1 < mt.2.2) (hf : (i, Value.long x) :: lv.filter (fun q => !(q.1 == i) && (!(q.1 == i + 1) && !(q.1 + 1 == i && q.2.category == 2))) = lv') (hp : pc + 2 = pc') (kk : Ex G mt rm Q kn X I L pc' lv' st) : Ex G mt rm Q kn X I L pc lv (.long x :: st) := by
  obtain ⟨⟨p, l, e, R, s⟩, ⟨m, ar, below, meth, c⟩, ⟨D, dA, B, tS⟩⟩ := G
  intro hc H locs ls hH hS hl
  subst hp
  exact lv_lstore hc.1 hc.2.1 hd hl hn hf (fun ls' hl' => kk hc H locs ls' hH hS hl')
theorem ex_aload_n {k : Fin 4} {i : Nat} {x : Nat} (j : Nat) (hd : decode mt.2.1 pc = .ok (.aload_n k, 1)) (hk : (k : Nat) = i) (hj : lv[j]? = some (i, .ref x)) (hp : pc + 1 = pc') (kk : Ex G mt rm Q kn X I L pc' lv (.ref x :: st)) : Ex G mt rm Q kn X I L pc lv (st) := by
  obtain ⟨⟨p, l, e, R, s⟩, ⟨m, ar, below, meth, c⟩, ⟨D, dA, B, tS⟩⟩ := G
  intro hc H locs ls hH hS hl
  subst hp
  exact lv_aload_n hc.1 hc.2.1 hd hk (lv_at hl j hj) (kk hc H locs ls hH hS hl)
theorem ex_aload {i : Nat} {x : Nat} (j : Nat) (hd : decode mt.2.1 pc = .ok (.aload i, 2)) (hj : lv[j]? = some (i, .ref x)) (hp : pc + 2 = pc') (kk : Ex G mt rm Q kn X I L pc' lv (.ref x :: st)) : Ex G mt rm Q kn X I L pc lv (st) := by
  obtain ⟨⟨p, l, e, R, s⟩, ⟨m, ar, below, meth, c⟩, ⟨D, dA, B, tS⟩⟩ := G
  intro hc H locs ls hH hS hl
  subst hp
  exact lv_aload hc.1 hc.2.1 hd (lv_at hl j hj) (kk hc H locs ls hH hS hl)
theorem ex_astore_n {k : Fin 4} {i : Nat} {x : Nat} (hd : decode mt.2.1 pc = .ok (.astore_n k, 1)) (hk : (k : Nat) = i) (hn : i < mt.2.2) (hf : (i, Value.ref x) :: lv.filter (fun q => !(q.1 == i) && !(q.1 + 1 == i && q.2.category == 2)) = lv') (hp : pc + 1 = pc') (kk : Ex G mt rm Q kn X I L pc' lv' st) : Ex G mt rm Q kn X I L pc lv (.ref x :: st) := by
  obtain ⟨⟨p, l, e, R, s⟩, ⟨m, ar, below, meth, c⟩, ⟨D, dA, B, tS⟩⟩ := G
  intro hc H locs ls hH hS hl
  subst hp
  exact lv_astore_n hc.1 hc.2.1 hd hk hl hn hf (fun ls' hl' => kk hc H locs ls' hH hS hl')
theorem ex_astore {i : Nat} {x : Nat} (hd : decode mt.2.1 pc = .ok (.astore i, 2)) (hn : i < mt.2.2) (hf : (i, Value.ref x) :: lv.filter (fun q => !(q.1 == i) && !(q.1 + 1 == i && q.2.category == 2)) = lv') (hp : pc + 2 = pc') (kk : Ex G mt rm Q kn X I L pc' lv' st) : Ex G mt rm Q kn X I L pc lv (.ref x :: st) := by
  obtain ⟨⟨p, l, e, R, s⟩, ⟨m, ar, below, meth, c⟩, ⟨D, dA, B, tS⟩⟩ := G
  intro hc H locs ls hH hS hl
  subst hp
  exact lv_astore hc.1 hc.2.1 hd hl hn hf (fun ls' hl' => kk hc H locs ls' hH hS hl')
theorem ex_iinc {i : Nat} {n : Int} {x v : Int32} (j : Nat) (hd : decode mt.2.1 pc = .ok (.iinc i n, 3)) (hj : lv[j]? = some (i, .int x)) (hv : x + Int32.ofInt n = v) (hn : i < mt.2.2) (hf : (i, Value.int v) :: lv.filter (fun q => !(q.1 == i) && !(q.1 + 1 == i && q.2.category == 2)) = lv') (hp : pc + 3 = pc') (kk : Ex G mt rm Q kn X I L pc' lv' st) : Ex G mt rm Q kn X I L pc lv st := by
  obtain ⟨⟨p, l, e, R, s⟩, ⟨m, ar, below, meth, c⟩, ⟨D, dA, B, tS⟩⟩ := G
  intro hc H locs ls hH hS hl
  subst hp
  exact lv_iinc hc.1 hc.2.1 hd hl hj hv hn hf (fun ls' hl' => kk hc H locs ls' hH hS hl')
theorem ex_iadd {x y : Int32} (hd : decode mt.2.1 pc = .ok (.iadd, 1)) (hp : pc + 1 = pc') (kk : Ex G mt rm Q kn X I L pc' lv (.int (x + y) :: st)) : Ex G mt rm Q kn X I L pc lv (.int y :: .int x :: st) := by
  obtain ⟨⟨p, l, e, R, s⟩, ⟨m, ar, below, meth, c⟩, ⟨D, dA, B, tS⟩⟩ := G
  intro hc H locs ls hH hS hl
  subst hp
  exact lv_iadd hc.1 hc.2.1 hd (kk hc H locs ls hH hS hl)
theorem ex_isub {x y : Int32} (hd : decode mt.2.1 pc = .ok (.isub, 1)) (hp : pc + 1 = pc') (kk : Ex G mt rm Q kn X I L pc' lv (.int (x - y) :: st)) : Ex G mt rm Q kn X I L pc lv (.int y :: .int x :: st) := by
  obtain ⟨⟨p, l, e, R, s⟩, ⟨m, ar, below, meth, c⟩, ⟨D, dA, B, tS⟩⟩ := G
  intro hc H locs ls hH hS hl
  subst hp
  exact lv_isub hc.1 hc.2.1 hd (kk hc H locs ls hH hS hl)
theorem ex_imul {x y : Int32} (hd : decode mt.2.1 pc = .ok (.imul, 1)) (hp : pc + 1 = pc') (kk : Ex G mt rm Q kn X I L pc' lv (.int (x * y) :: st)) : Ex G mt rm Q kn X I L pc lv (.int y :: .int x :: st) := by
  obtain ⟨⟨p, l, e, R, s⟩, ⟨m, ar, below, meth, c⟩, ⟨D, dA, B, tS⟩⟩ := G
  intro hc H locs ls hH hS hl
  subst hp
  exact lv_imul hc.1 hc.2.1 hd (kk hc H locs ls hH hS hl)
theorem ex_iand {x y : Int32} (hd : decode mt.2.1 pc = .ok (.iand, 1)) (hp : pc + 1 = pc') (kk : Ex G mt rm Q kn X I L pc' lv (.int (x &&& y) :: st)) : Ex G mt rm Q kn X I L pc lv (.int y :: .int x :: st) := by
  obtain ⟨⟨p, l, e, R, s⟩, ⟨m, ar, below, meth, c⟩, ⟨D, dA, B, tS⟩⟩ := G
  intro hc H locs ls hH hS hl
  subst hp
  exact lv_iand hc.1 hc.2.1 hd (kk hc H locs ls hH hS hl)
theorem ex_ior {x y : Int32} (hd : decode mt.2.1 pc = .ok (.ior, 1)) (hp : pc + 1 = pc') (kk : Ex G mt rm Q kn X I L pc' lv (.int (x ||| y) :: st)) : Ex G mt rm Q kn X I L pc lv (.int y :: .int x :: st) := by
  obtain ⟨⟨p, l, e, R, s⟩, ⟨m, ar, below, meth, c⟩, ⟨D, dA, B, tS⟩⟩ := G
  intro hc H locs ls hH hS hl
  subst hp
  exact lv_ior hc.1 hc.2.1 hd (kk hc H locs ls hH hS hl)
theorem ex_ixor {x y : Int32} (hd : decode mt.2.1 pc = .ok (.ixor, 1)) (hp : pc + 1 = pc') (kk : Ex G mt rm Q kn X I L pc' lv (.int (x ^^^ y) :: st)) : Ex G mt rm Q kn X I L pc lv (.int y :: .int x :: st) := by
  obtain ⟨⟨p, l, e, R, s⟩, ⟨m, ar, below, meth, c⟩, ⟨D, dA, B, tS⟩⟩ := G
  intro hc H locs ls hH hS hl
  subst hp
  exact lv_ixor hc.1 hc.2.1 hd (kk hc H locs ls hH hS hl)
theorem ex_ishl {x y : Int32} (hd : decode mt.2.1 pc = .ok (.ishl, 1)) (hp : pc + 1 = pc') (kk : Ex G mt rm Q kn X I L pc' lv (.int (jshl x y) :: st)) : Ex G mt rm Q kn X I L pc lv (.int y :: .int x :: st) := by
  obtain ⟨⟨p, l, e, R, s⟩, ⟨m, ar, below, meth, c⟩, ⟨D, dA, B, tS⟩⟩ := G
  intro hc H locs ls hH hS hl
  subst hp
  exact lv_ishl hc.1 hc.2.1 hd (kk hc H locs ls hH hS hl)
theorem ex_ishr {x y : Int32} (hd : decode mt.2.1 pc = .ok (.ishr, 1)) (hp : pc + 1 = pc') (kk : Ex G mt rm Q kn X I L pc' lv (.int (jshr x y) :: st)) : Ex G mt rm Q kn X I L pc lv (.int y :: .int x :: st) := by
  obtain ⟨⟨p, l, e, R, s⟩, ⟨m, ar, below, meth, c⟩, ⟨D, dA, B, tS⟩⟩ := G
  intro hc H locs ls hH hS hl
  subst hp
  exact lv_ishr hc.1 hc.2.1 hd (kk hc H locs ls hH hS hl)
theorem ex_idiv {x y : Int32} (hd : decode mt.2.1 pc = .ok (.idiv, 1)) (hne : ¬ y = 0) (hp : pc + 1 = pc') (kk : Ex G mt rm Q kn X I L pc' lv (.int (x / y) :: st)) : Ex G mt rm Q kn X I L pc lv (.int y :: .int x :: st) := by
  obtain ⟨⟨p, l, e, R, s⟩, ⟨m, ar, below, meth, c⟩, ⟨D, dA, B, tS⟩⟩ := G
  intro hc H locs ls hH hS hl
  subst hp
  exact lv_idiv hc.1 hc.2.1 hd hne (kk hc H locs ls hH hS hl)
theorem ex_irem {x y : Int32} (hd : decode mt.2.1 pc = .ok (.irem, 1)) (hne : ¬ y = 0) (hp : pc + 1 = pc') (kk : Ex G mt rm Q kn X I L pc' lv (.int (jrem x y) :: st)) : Ex G mt rm Q kn X I L pc lv (.int y :: .int x :: st) := by
  obtain ⟨⟨p, l, e, R, s⟩, ⟨m, ar, below, meth, c⟩, ⟨D, dA, B, tS⟩⟩ := G
  intro hc H locs ls hH hS hl
  subst hp
  exact lv_irem hc.1 hc.2.1 hd hne (kk hc H locs ls hH hS hl)
theorem ex_ladd {x y : Int64} (hd : decode mt.2.1 pc = .ok (.ladd, 1)) (hp : pc + 1 = pc') (kk : Ex G mt rm Q kn X I L pc' lv (.long (x + y) :: st)) : Ex G mt rm Q kn X I L pc lv (.long y :: .long x :: st) := by
  obtain ⟨⟨p, l, e, R, s⟩, ⟨m, ar, below, meth, c⟩, ⟨D, dA, B, tS⟩⟩ := G
  intro hc H locs ls hH hS hl
  subst hp
  exact lv_ladd hc.1 hc.2.1 hd (kk hc H locs ls hH hS hl)
theorem ex_lsub {x y : Int64} (hd : decode mt.2.1 pc = .ok (.lsub, 1)) (hp : pc + 1 = pc') (kk : Ex G mt rm Q kn X I L pc' lv (.long (x - y) :: st)) : Ex G mt rm Q kn X I L pc lv (.long y :: .long x :: st) := by
  obtain ⟨⟨p, l, e, R, s⟩, ⟨m, ar, below, meth, c⟩, ⟨D, dA, B, tS⟩⟩ := G
  intro hc H locs ls hH hS hl
  subst hp
  exact lv_lsub hc.1 hc.2.1 hd (kk hc H locs ls hH hS hl)
theorem ex_lmul {x y : Int64} (hd : decode mt.2.1 pc = .ok (.lmul, 1)) (hp : pc + 1 = pc') (kk : Ex G mt rm Q kn X I L pc' lv (.long (x * y) :: st)) : Ex G mt rm Q kn X I L pc lv (.long y :: .long x :: st) := by
  obtain ⟨⟨p, l, e, R, s⟩, ⟨m, ar, below, meth, c⟩, ⟨D, dA, B, tS⟩⟩ := G
  intro hc H locs ls hH hS hl
  subst hp
  exact lv_lmul hc.1 hc.2.1 hd (kk hc H locs ls hH hS hl)
theorem ex_land {x y : Int64} (hd : decode mt.2.1 pc = .ok (.land, 1)) (hp : pc + 1 = pc') (kk : Ex G mt rm Q kn X I L pc' lv (.long (x &&& y) :: st)) : Ex G mt rm Q kn X I L pc lv (.long y :: .long x :: st) := by
  obtain ⟨⟨p, l, e, R, s⟩, ⟨m, ar, below, meth, c⟩, ⟨D, dA, B, tS⟩⟩ := G
  intro hc H locs ls hH hS hl
  subst hp
  exact lv_land hc.1 hc.2.1 hd (kk hc H locs ls hH hS hl)
theorem ex_lor {x y : Int64} (hd : decode mt.2.1 pc = .ok (.lor, 1)) (hp : pc + 1 = pc') (kk : Ex G mt rm Q kn X I L pc' lv (.long (x ||| y) :: st)) : Ex G mt rm Q kn X I L pc lv (.long y :: .long x :: st) := by
  obtain ⟨⟨p, l, e, R, s⟩, ⟨m, ar, below, meth, c⟩, ⟨D, dA, B, tS⟩⟩ := G
  intro hc H locs ls hH hS hl
  subst hp
  exact lv_lor hc.1 hc.2.1 hd (kk hc H locs ls hH hS hl)
theorem ex_ldiv {x y : Int64} (hd : decode mt.2.1 pc = .ok (.ldiv, 1)) (hne : ¬ y = 0) (hp : pc + 1 = pc') (kk : Ex G mt rm Q kn X I L pc' lv (.long (x / y) :: st)) : Ex G mt rm Q kn X I L pc lv (.long y :: .long x :: st) := by
  obtain ⟨⟨p, l, e, R, s⟩, ⟨m, ar, below, meth, c⟩, ⟨D, dA, B, tS⟩⟩ := G
  intro hc H locs ls hH hS hl
  subst hp
  exact lv_ldiv hc.1 hc.2.1 hd hne (kk hc H locs ls hH hS hl)
theorem ex_lrem {x y : Int64} (hd : decode mt.2.1 pc = .ok (.lrem, 1)) (hne : ¬ y = 0) (hp : pc + 1 = pc') (kk : Ex G mt rm Q kn X I L pc' lv (.long (jremL x y) :: st)) : Ex G mt rm Q kn X I L pc lv (.long y :: .long x :: st) := by
  obtain ⟨⟨p, l, e, R, s⟩, ⟨m, ar, below, meth, c⟩, ⟨D, dA, B, tS⟩⟩ := G
  intro hc H locs ls hH hS hl
  subst hp
  exact lv_lrem hc.1 hc.2.1 hd hne (kk hc H locs ls hH hS hl)
theorem ex_ineg {x : Int32} (hd : decode mt.2.1 pc = .ok (.ineg, 1)) (hp : pc + 1 = pc') (kk : Ex G mt rm Q kn X I L pc' lv (.int (-x) :: st)) : Ex G mt rm Q kn X I L pc lv (.int x :: st) := by
  obtain ⟨⟨p, l, e, R, s⟩, ⟨m, ar, below, meth, c⟩, ⟨D, dA, B, tS⟩⟩ := G
  intro hc H locs ls hH hS hl
  subst hp
  exact lv_ineg hc.1 hc.2.1 hd (kk hc H locs ls hH hS hl)
theorem ex_i2l {x : Int32} (hd : decode mt.2.1 pc = .ok (.i2l, 1)) (hp : pc + 1 = pc') (kk : Ex G mt rm Q kn X I L pc' lv (.long x.toInt64 :: st)) : Ex G mt rm Q kn X I L pc lv (.int x :: st) := by
  obtain ⟨⟨p, l, e, R, s⟩, ⟨m, ar, below, meth, c⟩, ⟨D, dA, B, tS⟩⟩ := G
  intro hc H locs ls hH hS hl
  subst hp
  exact lv_i2l hc.1 hc.2.1 hd rfl (kk hc H locs ls hH hS hl)
theorem ex_l2i {x : Int64} (hd : decode mt.2.1 pc = .ok (.l2i, 1)) (hp : pc + 1 = pc') (kk : Ex G mt rm Q kn X I L pc' lv (.int x.toInt32 :: st)) : Ex G mt rm Q kn X I L pc lv (.long x :: st) := by
  obtain ⟨⟨p, l, e, R, s⟩, ⟨m, ar, below, meth, c⟩, ⟨D, dA, B, tS⟩⟩ := G
  intro hc H locs ls hH hS hl
  subst hp
  exact lv_l2i hc.1 hc.2.1 hd rfl (kk hc H locs ls hH hS hl)
theorem ex_i2b {x : Int32} (hd : decode mt.2.1 pc = .ok (.i2b, 1)) (hp : pc + 1 = pc') (kk : Ex G mt rm Q kn X I L pc' lv (.int x.toInt8.toInt32 :: st)) : Ex G mt rm Q kn X I L pc lv (.int x :: st) := by
  obtain ⟨⟨p, l, e, R, s⟩, ⟨m, ar, below, meth, c⟩, ⟨D, dA, B, tS⟩⟩ := G
  intro hc H locs ls hH hS hl
  subst hp
  exact lv_i2b hc.1 hc.2.1 hd rfl (kk hc H locs ls hH hS hl)
theorem ex_i2s {x : Int32} (hd : decode mt.2.1 pc = .ok (.i2s, 1)) (hp : pc + 1 = pc') (kk : Ex G mt rm Q kn X I L pc' lv (.int x.toInt16.toInt32 :: st)) : Ex G mt rm Q kn X I L pc lv (.int x :: st) := by
  obtain ⟨⟨p, l, e, R, s⟩, ⟨m, ar, below, meth, c⟩, ⟨D, dA, B, tS⟩⟩ := G
  intro hc H locs ls hH hS hl
  subst hp
  exact lv_i2s hc.1 hc.2.1 hd rfl (kk hc H locs ls hH hS hl)
theorem ex_lshl {x : Int64} {y : Int32} (hd : decode mt.2.1 pc = .ok (.lshl, 1)) (hp : pc + 1 = pc') (kk : Ex G mt rm Q kn X I L pc' lv (.long (jlshl x y) :: st)) : Ex G mt rm Q kn X I L pc lv (.int y :: .long x :: st) := by
  obtain ⟨⟨p, l, e, R, s⟩, ⟨m, ar, below, meth, c⟩, ⟨D, dA, B, tS⟩⟩ := G
  intro hc H locs ls hH hS hl
  subst hp
  exact lv_lshl hc.1 hc.2.1 hd rfl (kk hc H locs ls hH hS hl)
theorem ex_lushr {x : Int64} {y : Int32} (hd : decode mt.2.1 pc = .ok (.lushr, 1)) (hp : pc + 1 = pc') (kk : Ex G mt rm Q kn X I L pc' lv (.long (jlushr x y) :: st)) : Ex G mt rm Q kn X I L pc lv (.int y :: .long x :: st) := by
  obtain ⟨⟨p, l, e, R, s⟩, ⟨m, ar, below, meth, c⟩, ⟨D, dA, B, tS⟩⟩ := G
  intro hc H locs ls hH hS hl
  subst hp
  exact lv_lushr hc.1 hc.2.1 hd rfl (kk hc H locs ls hH hS hl)
theorem ex_iushr {x y : Int32} (hd : decode mt.2.1 pc = .ok (.iushr, 1)) (hp : pc + 1 = pc') (kk : Ex G mt rm Q kn X I L pc' lv (.int (jushr x y) :: st)) : Ex G mt rm Q kn X I L pc lv (.int y :: .int x :: st) := by
  obtain ⟨⟨p, l, e, R, s⟩, ⟨m, ar, below, meth, c⟩, ⟨D, dA, B, tS⟩⟩ := G
  intro hc H locs ls hH hS hl
  subst hp
  exact lv_iushr hc.1 hc.2.1 hd rfl (kk hc H locs ls hH hS hl)
theorem ex_lcmp {x y : Int64} (hd : decode mt.2.1 pc = .ok (.lcmp, 1)) (hp : pc + 1 = pc') (kk : Ex G mt rm Q kn X I L pc' lv (.int (lg_cmp x y) :: st)) : Ex G mt rm Q kn X I L pc lv (.long y :: .long x :: st) := by
  obtain ⟨⟨p, l, e, R, s⟩, ⟨m, ar, below, meth, c⟩, ⟨D, dA, B, tS⟩⟩ := G
  intro hc H locs ls hH hS hl
  subst hp
  exact W.lcmp hc.1 hc.2.1 hd (kk hc H locs ls hH hS hl)
theorem ex_dup {va : Value} (hd : decode mt.2.1 pc = .ok (.dup, 1)) (h1 : va.category = 1) (hp : pc + 1 = pc') (kk : Ex G mt rm Q kn X I L pc' lv (va :: va :: st)) : Ex G mt rm Q kn X I L pc lv (va :: st) := by
  obtain ⟨⟨p, l, e, R, s⟩, ⟨m, ar, below, meth, c⟩, ⟨D, dA, B, tS⟩⟩ := G
  intro hc H locs ls hH hS hl
  subst hp
  exact lv_dup hc.1 hc.2.1 hd h1 (kk hc H locs ls hH hS hl)
theorem ex_pop {va : Value} (hd : decode mt.2.1 pc = .ok (.pop, 1)) (h1 : va.category = 1) (hp : pc + 1 = pc') (kk : Ex G mt rm Q kn X I L pc' lv (st)) : Ex G mt rm Q kn X I L pc lv (va :: st) := by
  obtain ⟨⟨p, l, e, R, s⟩, ⟨m, ar, below, meth, c⟩, ⟨D, dA, B, tS⟩⟩ := G
  intro hc H locs ls hH hS hl
  subst hp
  exact lv_pop hc.1 hc.2.1 hd h1 (kk hc H locs ls hH hS hl)
theorem ex_dup2 {va vb : Value} (hd : decode mt.2.1 pc = .ok (.dup2, 1)) (h1 : va.category = 1) (h2 : vb.category = 1) (hp : pc + 1 = pc') (kk : Ex G mt rm Q kn X I L pc' lv (va :: vb :: va :: vb :: st)) : Ex G mt rm Q kn X I L pc lv (va :: vb :: st) := by
  obtain ⟨⟨p, l, e, R, s⟩, ⟨m, ar, below, meth, c⟩, ⟨D, dA, B, tS⟩⟩ := G
  intro hc H locs ls hH hS hl
  subst hp
  exact lv_dup2_11 hc.1 hc.2.1 hd h1 h2 (kk hc H locs ls hH hS hl)
theorem ex_ldc {index : Nat} {v : Int32} (hd : decode mt.2.1 pc = .ok (.ldc index, 2)) (hw : Cond.constant mt.1 index v ∈ lwg) (hp : pc + 2 = pc') (kk : Ex G mt rm Q kn X I L pc' lv (.int v :: st)) : Ex G mt rm Q kn X I L pc lv (st) := by
  obtain ⟨⟨p, l, e, R, s⟩, ⟨m, ar, below, meth, c⟩, ⟨D, dA, B, tS⟩⟩ := G
  intro hc H locs ls hH hS hl
  subst hp
  exact lv_ldc hc.1 hc.2.1 hc.2.2.2.1 (hc.2.2.2.2.1 _ hw) hd (kk hc H locs ls hH hS hl)
theorem ex_ldc_w {index : Nat} {v : Int32} (hd : decode mt.2.1 pc = .ok (.ldc_w index, 3)) (hw : Cond.constant mt.1 index v ∈ lwg) (hp : pc + 3 = pc') (kk : Ex G mt rm Q kn X I L pc' lv (.int v :: st)) : Ex G mt rm Q kn X I L pc lv (st) := by
  obtain ⟨⟨p, l, e, R, s⟩, ⟨m, ar, below, meth, c⟩, ⟨D, dA, B, tS⟩⟩ := G
  intro hc H locs ls hH hS hl
  subst hp
  exact lv_ldcw hc.1 hc.2.1 hc.2.2.2.1 (hc.2.2.2.2.1 _ hw) hd (kk hc H locs ls hH hS hl)
theorem ex_ldc2 {index : Nat} {v : Int64} (hd : decode mt.2.1 pc = .ok (.ldc2_w index, 3)) (hw : Cond.constantLong mt.1 index v ∈ lwg) (hp : pc + 3 = pc') (kk : Ex G mt rm Q kn X I L pc' lv (.long v :: st)) : Ex G mt rm Q kn X I L pc lv (st) := by
  obtain ⟨⟨p, l, e, R, s⟩, ⟨m, ar, below, meth, c⟩, ⟨D, dA, B, tS⟩⟩ := G
  intro hc H locs ls hH hS hl
  subst hp
  exact lv_ldc2 hc.1 hc.2.1 hc.2.2.2.1 (hc.2.2.2.2.1 _ hw) hd (kk hc H locs ls hH hS hl)
theorem ex_ifeq {x : Int32} {off : Int} {tgt : Nat} (hd : decode mt.2.1 pc = .ok (.ifCond .eq off, 3)) (ht : (pc : Int) + off = (tgt : Int)) (hp : pc + 3 = pc') (kt : x = 0 → Ex G mt rm Q kn X I L tgt lv st) (kf : ¬ x = 0 → Ex G mt rm Q kn X I L pc' lv st) : Ex G mt rm Q kn X I L pc lv (.int x :: st) := by
  obtain ⟨⟨p, l, e, R, s⟩, ⟨m, ar, below, meth, c⟩, ⟨D, dA, B, tS⟩⟩ := G
  intro hc H locs ls hH hS hl
  subst hp
  exact lv_if_eq hc.1 hc.2.1 hd ht (fun h => kt h hc H locs ls hH hS hl) (fun h => kf h hc H locs ls hH hS hl)
theorem ex_ifne {x : Int32} {off : Int} {tgt : Nat} (hd : decode mt.2.1 pc = .ok (.ifCond .ne off, 3)) (ht : (pc : Int) + off = (tgt : Int)) (hp : pc + 3 = pc') (kt : x = 0 → Ex G mt rm Q kn X I L pc' lv st) (kf : ¬ x = 0 → Ex G mt rm Q kn X I L tgt lv st) : Ex G mt rm Q kn X I L pc lv (.int x :: st) := by
  obtain ⟨⟨p, l, e, R, s⟩, ⟨m, ar, below, meth, c⟩, ⟨D, dA, B, tS⟩⟩ := G
  intro hc H locs ls hH hS hl
  subst hp
  exact lv_if_ne hc.1 hc.2.1 hd ht (fun h => kf h hc H locs ls hH hS hl) (fun h => kt h hc H locs ls hH hS hl)
theorem ex_iflt {x : Int32} {off : Int} {tgt : Nat} (hd : decode mt.2.1 pc = .ok (.ifCond .lt off, 3)) (ht : (pc : Int) + off = (tgt : Int)) (hp : pc + 3 = pc') (kt : x < 0 → Ex G mt rm Q kn X I L tgt lv st) (kf : ¬ x < 0 → Ex G mt rm Q kn X I L pc' lv st) : Ex G mt rm Q kn X I L pc lv (.int x :: st) := by
  obtain ⟨⟨p, l, e, R, s⟩, ⟨m, ar, below, meth, c⟩, ⟨D, dA, B, tS⟩⟩ := G
  intro hc H locs ls hH hS hl
  subst hp
  exact lv_if_lt hc.1 hc.2.1 hd ht (fun h => kt h hc H locs ls hH hS hl) (fun h => kf h hc H locs ls hH hS hl)
theorem ex_ifge {x : Int32} {off : Int} {tgt : Nat} (hd : decode mt.2.1 pc = .ok (.ifCond .ge off, 3)) (ht : (pc : Int) + off = (tgt : Int)) (hp : pc + 3 = pc') (kt : x < 0 → Ex G mt rm Q kn X I L pc' lv st) (kf : ¬ x < 0 → Ex G mt rm Q kn X I L tgt lv st) : Ex G mt rm Q kn X I L pc lv (.int x :: st) := by
  obtain ⟨⟨p, l, e, R, s⟩, ⟨m, ar, below, meth, c⟩, ⟨D, dA, B, tS⟩⟩ := G
  intro hc H locs ls hH hS hl
  subst hp
  exact lv_if_ge hc.1 hc.2.1 hd ht (fun h => kf (Int32.not_lt.mpr h) hc H locs ls hH hS hl) (fun h => kt (Int32.not_le.mp h) hc H locs ls hH hS hl)
theorem ex_ifgt {x : Int32} {off : Int} {tgt : Nat} (hd : decode mt.2.1 pc = .ok (.ifCond .gt off, 3)) (ht : (pc : Int) + off = (tgt : Int)) (hp : pc + 3 = pc') (kt : 0 < x → Ex G mt rm Q kn X I L tgt lv st) (kf : ¬ 0 < x → Ex G mt rm Q kn X I L pc' lv st) : Ex G mt rm Q kn X I L pc lv (.int x :: st) := by
  obtain ⟨⟨p, l, e, R, s⟩, ⟨m, ar, below, meth, c⟩, ⟨D, dA, B, tS⟩⟩ := G
  intro hc H locs ls hH hS hl
  subst hp
  exact lv_if_gt hc.1 hc.2.1 hd ht (fun h => kt h hc H locs ls hH hS hl) (fun h => kf h hc H locs ls hH hS hl)
theorem ex_ifle {x : Int32} {off : Int} {tgt : Nat} (hd : decode mt.2.1 pc = .ok (.ifCond .le off, 3)) (ht : (pc : Int) + off = (tgt : Int)) (hp : pc + 3 = pc') (kt : 0 < x → Ex G mt rm Q kn X I L pc' lv st) (kf : ¬ 0 < x → Ex G mt rm Q kn X I L tgt lv st) : Ex G mt rm Q kn X I L pc lv (.int x :: st) := by
  obtain ⟨⟨p, l, e, R, s⟩, ⟨m, ar, below, meth, c⟩, ⟨D, dA, B, tS⟩⟩ := G
  intro hc H locs ls hH hS hl
  subst hp
  exact lv_if_le hc.1 hc.2.1 hd ht (fun h => kf (Int32.not_lt.mpr h) hc H locs ls hH hS hl) (fun h => kt (Int32.not_le.mp h) hc H locs ls hH hS hl)
theorem ex_icmpeq {x y : Int32} {off : Int} {tgt : Nat} (hd : decode mt.2.1 pc = .ok (.if_icmp .eq off, 3)) (ht : (pc : Int) + off = (tgt : Int)) (hp : pc + 3 = pc') (kt : x = y → Ex G mt rm Q kn X I L tgt lv st) (kf : ¬ x = y → Ex G mt rm Q kn X I L pc' lv st) : Ex G mt rm Q kn X I L pc lv (.int y :: .int x :: st) := by
  obtain ⟨⟨p, l, e, R, s⟩, ⟨m, ar, below, meth, c⟩, ⟨D, dA, B, tS⟩⟩ := G
  intro hc H locs ls hH hS hl
  subst hp
  exact lv_icmp_eq hc.1 hc.2.1 hd ht (fun h => kt h hc H locs ls hH hS hl) (fun h => kf h hc H locs ls hH hS hl)
theorem ex_icmpne {x y : Int32} {off : Int} {tgt : Nat} (hd : decode mt.2.1 pc = .ok (.if_icmp .ne off, 3)) (ht : (pc : Int) + off = (tgt : Int)) (hp : pc + 3 = pc') (kt : x = y → Ex G mt rm Q kn X I L pc' lv st) (kf : ¬ x = y → Ex G mt rm Q kn X I L tgt lv st) : Ex G mt rm Q kn X I L pc lv (.int y :: .int x :: st) := by
  obtain ⟨⟨p, l, e, R, s⟩, ⟨m, ar, below, meth, c⟩, ⟨D, dA, B, tS⟩⟩ := G
  intro hc H locs ls hH hS hl
  subst hp
  exact lv_icmp_ne hc.1 hc.2.1 hd ht (fun h => kf h hc H locs ls hH hS hl) (fun h => kt h hc H locs ls hH hS hl)
theorem ex_icmplt {x y : Int32} {off : Int} {tgt : Nat} (hd : decode mt.2.1 pc = .ok (.if_icmp .lt off, 3)) (ht : (pc : Int) + off = (tgt : Int)) (hp : pc + 3 = pc') (kt : x < y → Ex G mt rm Q kn X I L tgt lv st) (kf : ¬ x < y → Ex G mt rm Q kn X I L pc' lv st) : Ex G mt rm Q kn X I L pc lv (.int y :: .int x :: st) := by
  obtain ⟨⟨p, l, e, R, s⟩, ⟨m, ar, below, meth, c⟩, ⟨D, dA, B, tS⟩⟩ := G
  intro hc H locs ls hH hS hl
  subst hp
  exact lv_icmp_lt hc.1 hc.2.1 hd ht (fun h => kt h hc H locs ls hH hS hl) (fun h => kf h hc H locs ls hH hS hl)
theorem ex_icmpge {x y : Int32} {off : Int} {tgt : Nat} (hd : decode mt.2.1 pc = .ok (.if_icmp .ge off, 3)) (ht : (pc : Int) + off = (tgt : Int)) (hp : pc + 3 = pc') (kt : x < y → Ex G mt rm Q kn X I L pc' lv st) (kf : ¬ x < y → Ex G mt rm Q kn X I L tgt lv st) : Ex G mt rm Q kn X I L pc lv (.int y :: .int x :: st) := by
  obtain ⟨⟨p, l, e, R, s⟩, ⟨m, ar, below, meth, c⟩, ⟨D, dA, B, tS⟩⟩ := G
  intro hc H locs ls hH hS hl
  subst hp
  exact lv_icmp_ge hc.1 hc.2.1 hd ht (fun h => kf (Int32.not_lt.mpr h) hc H locs ls hH hS hl) (fun h => kt (Int32.not_le.mp h) hc H locs ls hH hS hl)
theorem ex_icmpgt {x y : Int32} {off : Int} {tgt : Nat} (hd : decode mt.2.1 pc = .ok (.if_icmp .gt off, 3)) (ht : (pc : Int) + off = (tgt : Int)) (hp : pc + 3 = pc') (kt : y < x → Ex G mt rm Q kn X I L tgt lv st) (kf : ¬ y < x → Ex G mt rm Q kn X I L pc' lv st) : Ex G mt rm Q kn X I L pc lv (.int y :: .int x :: st) := by
  obtain ⟨⟨p, l, e, R, s⟩, ⟨m, ar, below, meth, c⟩, ⟨D, dA, B, tS⟩⟩ := G
  intro hc H locs ls hH hS hl
  subst hp
  exact lv_icmp_gt hc.1 hc.2.1 hd ht (fun h => kt h hc H locs ls hH hS hl) (fun h => kf h hc H locs ls hH hS hl)
theorem ex_icmple {x y : Int32} {off : Int} {tgt : Nat} (hd : decode mt.2.1 pc = .ok (.if_icmp .le off, 3)) (ht : (pc : Int) + off = (tgt : Int)) (hp : pc + 3 = pc') (kt : y < x → Ex G mt rm Q kn X I L pc' lv st) (kf : ¬ y < x → Ex G mt rm Q kn X I L tgt lv st) : Ex G mt rm Q kn X I L pc lv (.int y :: .int x :: st) := by
  obtain ⟨⟨p, l, e, R, s⟩, ⟨m, ar, below, meth, c⟩, ⟨D, dA, B, tS⟩⟩ := G
  intro hc H locs ls hH hS hl
  subst hp
  exact lv_icmp_le hc.1 hc.2.1 hd ht (fun h => kf (Int32.not_lt.mpr h) hc H locs ls hH hS hl) (fun h => kt (Int32.not_le.mp h) hc H locs ls hH hS hl)
theorem ex_goto {off : Int} {tgt : Nat} (hd : decode mt.2.1 pc = .ok (.goto off, 3)) (ht : (pc : Int) + off = (tgt : Int)) (kk : Ex G mt rm Q kn X I L tgt lv st) : Ex G mt rm Q kn X I L pc lv st := by
  obtain ⟨⟨p, l, e, R, s⟩, ⟨m, ar, below, meth, c⟩, ⟨D, dA, B, tS⟩⟩ := G
  intro hc H locs ls hH hS hl
  exact lv_goto hc.1 hc.2.1 hd ht (kk hc H locs ls hH hS hl)
theorem ex_tableIn {dflt lo hi : Int} {offs : Array Int} {len : Nat} {x : Int32} {off : Int} {tgt : Nat} (hd : decode mt.2.1 pc = .ok (.tableswitch dflt lo hi offs, len)) (h1 : ¬ x.toInt < lo) (h2 : ¬ hi < x.toInt) (ho : offs[(x.toInt - lo).toNat]? = some off) (ht : (pc : Int) + off = (tgt : Int)) (kk : Ex G mt rm Q kn X I L tgt lv st) : Ex G mt rm Q kn X I L pc lv (.int x :: st) := by
  obtain ⟨⟨p, l, e, R, s⟩, ⟨m, ar, below, meth, c⟩, ⟨D, dA, B, tS⟩⟩ := G
  intro hc H locs ls hH hS hl
  exact lv_tableIn hc.1 hc.2.1 hd h1 h2 ho ht (kk hc H locs ls hH hS hl)
theorem ex_tableOut {dflt lo hi : Int} {offs : Array Int} {len : Nat} {x : Int32} {tgt : Nat} (hd : decode mt.2.1 pc = .ok (.tableswitch dflt lo hi offs, len)) (h : x.toInt < lo ∨ hi < x.toInt) (ht : (pc : Int) + dflt = (tgt : Int)) (kk : Ex G mt rm Q kn X I L tgt lv st) : Ex G mt rm Q kn X I L pc lv (.int x :: st) := by
  obtain ⟨⟨p, l, e, R, s⟩, ⟨m, ar, below, meth, c⟩, ⟨D, dA, B, tS⟩⟩ := G
  intro hc H locs ls hH hS hl
  exact lv_tableOut hc.1 hc.2.1 hd h ht (kk hc H locs ls hH hS hl)
theorem ex_ifnonnull {a : Nat} {off : Int} {tgt : Nat} (hd : decode mt.2.1 pc = .ok (.ifnonnull off, 3)) (ht : (pc : Int) + off = (tgt : Int)) (kk : Ex G mt rm Q kn X I L tgt lv st) : Ex G mt rm Q kn X I L pc lv (.ref a :: st) := by
  obtain ⟨⟨p, l, e, R, s⟩, ⟨m, ar, below, meth, c⟩, ⟨D, dA, B, tS⟩⟩ := G
  intro hc H locs ls hH hS hl
  exact lv_ifnonnull hc.1 hc.2.1 hd ht (kk hc H locs ls hH hS hl)
theorem ex_ifnonnullN {off : Int} (hd : decode mt.2.1 pc = .ok (.ifnonnull off, 3)) (hp : pc + 3 = pc') (kk : Ex G mt rm Q kn X I L pc' lv st) : Ex G mt rm Q kn X I L pc lv (.null :: st) := by
  obtain ⟨⟨p, l, e, R, s⟩, ⟨m, ar, below, meth, c⟩, ⟨D, dA, B, tS⟩⟩ := G
  intro hc H locs ls hH hS hl
  subst hp
  exact lv_ifnonnullN hc.1 hc.2.1 hd (kk hc H locs ls hH hS hl)
theorem ex_sub (ks : List Nat) (hk : lv_pick lv ks = lv') (kk : Ex G mt rm Q kn X I L pc lv' st) : Ex G mt rm Q kn X I L pc lv st := by
  obtain ⟨⟨p, l, e, R, s⟩, ⟨m, ar, below, meth, c⟩, ⟨D, dA, B, tS⟩⟩ := G
  intro hc H locs ls hH hS hl
  exact kk hc H locs ls hH hS (lv_sub hl ks hk)
end EX
