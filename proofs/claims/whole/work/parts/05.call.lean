/-! ===== contracts, calls, returns ===== -/
/-- from memory (X, I, L) with these arguments y answers o, and the memory is (X', I', L') -/
def Con (G : GX) (mt : MT) (y : MethodName) (rm : RM) (args : Nat → List Value) (X : MX) (I : MI) (L : ML) (o : Option Value) (X' : MX) (I' : MI) (L' : ML) : Prop := match G with
  | ((_, l, _, _, _), _, (D, dA, B, tS)) => Met l y (.code y mt.2.1 mt.2.2 rm.2.2 :: lwg) { frames := rm.1.1, cells := rm.1.2.2.1, slots := rm.1.2.2.2, locals := rm.1.2.1 } (fun v U => v = (args B).toArray ∧ Hold D dA B X I L U.heap ∧ World D dA B tS U) (fun _ st oc t => oc = .returned o ∧ Hold D dA B X' I' L' t.heap ∧ va_F (fun q => B ≤ q) st t) rm.1.2.2.1 rm.1.2.2.2 (fun q => B ≤ q)
def RetQ (G : GX) (o : Option Value) (X : MX) (I : MI) (L : ML) (kn : Nat × Nat) : State → Prop := match G with
  | ((_, _, _, _, s), (_, args, below, _, _), (D, dA, B, _)) => MQ below (fun _ st oc t => oc = .returned o ∧ Hold D dA B X I L t.heap ∧ va_F (fun q => B ≤ q) st t) args s kn.1 kn.2 (fun q => B ≤ q)
theorem Con.of {G : GX} {mt : MT} {y : MethodName} {rm : RM} {args : Nat → List Value} {X X' : MX} {I I' : MI} {L L' : ML} {o : Option Value} (hy : plainName y.cls = true) (hown : mt.1 = y.cls) (hinit : rm.2.1 = true → y.name = "<init>") (hlen : ∀ B, (lg_sl (args B)).length ≤ mt.2.2)
    (body : ∀ G' : GX, Ex G' mt rm (RetQ G' o X' I' L' (rm.1.2.2.1, rm.1.2.2.2)) (0, 0) X I L 0 (lv_args 0 (args (gB G'))) []) : Con G mt y rm args X I L o X' I' L' := by
  obtain ⟨⟨p0, l, e0, R0, s0⟩, z0, ⟨D, dA, B, tS⟩⟩ := G
  refine Met.ofW (cc := mt.2.1) (maxL := mt.2.2) (ret := rm.2.2) hy rfl ?_
  intro p e s m args' below meth c s₁ Bd hml hv
  obtain ⟨rfl, hH, hWd⟩ := hv
  have hts := atoms_spec Bd.pre
  have hw : s.vm.findClass mt.1 = some m.cls := by rw [hown]; exact findClass_of_methodNamed Bd.named
  have hl := lv_entry (args B) (n := mt.2.2) (hlen B)
  have hnm : meth.name = y.name := (name_of_methodNamed Bd.named Bd.method).1
  have hb := body ((p, l, e, { frames := rm.1.1, cells := rm.1.2.2.1, slots := rm.1.2.2.2, locals := rm.1.2.1 }, s), (m, (args B).toArray, below, meth, c), (D, dA, B, tS))
    ⟨Bd.exec, Bd.bytes, hml, hw, fun w h => hts w (List.mem_cons_of_mem _ h), hWd, Bd.notSynchronized, ⟨rfl, rfl, rfl, rfl⟩, fun h => hnm.trans (hinit h), Bd.returns⟩ s.heap [] _ hH va_S.rf hl
  rw [lg_entry_eq]
  exact hb
theorem Con.of2 {G : GX} {mt : MT} {y : MethodName} {rm : RM} {args : Nat → List Value} {X X' : MX} {I I' : MI} {L L' : ML} {o : Option Value} (hy : plainName y.cls = true) (hown : mt.1 = y.cls) (hinit : rm.2.1 = true → y.name = "<init>") (hlen : ∀ B, (lg_sl (args B)).length ≤ mt.2.2)
    (body : ∀ G' : GX, gB G' = gB G → Ex G' mt rm (RetQ G' o X' I' L' (rm.1.2.2.1, rm.1.2.2.2)) (0, 0) X I L 0 (lv_args 0 (args (gB G'))) []) : Con G mt y rm args X I L o X' I' L' := by
  obtain ⟨⟨p0, l, e0, R0, s0⟩, z0, ⟨D, dA, B, tS⟩⟩ := G
  refine Met.ofW (cc := mt.2.1) (maxL := mt.2.2) (ret := rm.2.2) hy rfl ?_
  intro p e s m args' below meth c s₁ Bd hml hv
  obtain ⟨rfl, hH, hWd⟩ := hv
  have hts := atoms_spec Bd.pre
  have hw : s.vm.findClass mt.1 = some m.cls := by rw [hown]; exact findClass_of_methodNamed Bd.named
  have hl := lv_entry (args B) (n := mt.2.2) (hlen B)
  have hnm : meth.name = y.name := (name_of_methodNamed Bd.named Bd.method).1
  have hb := body ((p, l, e, { frames := rm.1.1, cells := rm.1.2.2.1, slots := rm.1.2.2.2, locals := rm.1.2.1 }, s), (m, (args B).toArray, below, meth, c), (D, dA, B, tS)) rfl
    ⟨Bd.exec, Bd.bytes, hml, hw, fun w h => hts w (List.mem_cons_of_mem _ h), hWd, Bd.notSynchronized, ⟨rfl, rfl, rfl, rfl⟩, fun h => hnm.trans (hinit h), Bd.returns⟩ s.heap [] _ hH va_S.rf hl
  rw [lg_entry_eq]
  exact hb
section EC
variable {G : GX} {mt : MT} {rm : RM} {Q : State → Prop} {kn : Nat × Nat} {X X' : MX} {I I' : MI} {L L' : ML} {pc pc' : Nat} {lv lv' : List (Nat × Value)} {st stk : List Value}
theorem ex_iret {v : Int32} (hd : decode mt.2.1 pc = .ok (.ireturn, 1)) (hr : rm.2.2 = some .int) (hQ : Q = RetQ G (some (.int v)) X I L kn) : Ex G mt rm Q kn X I L pc lv [.int v] := by
  subst hQ
  obtain ⟨⟨p, l, e, R, s⟩, ⟨m, ar, below, meth, c⟩, ⟨D, dA, B, tS⟩⟩ := G
  intro hc H locs ls hH hS hl
  obtain ⟨hx, hb, hml, hown, hts, hWd, hlk, hrm⟩ := id hc
  unfold RetQ
  exact W.iret (Qc := fun _ st oc t => oc = .returned (some (.int v)) ∧ Hold D dA B X I L t.heap ∧ va_F (fun q => B ≤ q) st t) (free := fun q => B ≤ q) hx hb (hrm.2.2.trans hr) (fun t ht hW => ⟨rfl, by rw [ht]; exact hH, hS.F ht⟩) (fun q hq => hS.2.2 q hq) hd hlk
theorem ex_zret {v : Int32} (hd : decode mt.2.1 pc = .ok (.ireturn, 1)) (hr : rm.2.2 = some .boolean) (hv : v = 0 ∨ v = 1) (hQ : Q = RetQ G (some (.int v)) X I L kn) : Ex G mt rm Q kn X I L pc lv [.int v] := by
  subst hQ
  obtain ⟨⟨p, l, e, R, s⟩, ⟨m, ar, below, meth, c⟩, ⟨D, dA, B, tS⟩⟩ := G
  intro hc H locs ls hH hS hl
  obtain ⟨hx, hb, hml, hown, hts, hWd, hlk, hrm⟩ := id hc
  have hvv : narrow .boolean (.int v) = .int v := by rcases hv with rfl | rfl <;> rfl
  unfold RetQ
  exact W.zret (Qc := fun _ st oc t => oc = .returned (some (.int v)) ∧ Hold D dA B X I L t.heap ∧ va_F (fun q => B ≤ q) st t) (free := fun q => B ≤ q) hx hb (hrm.2.2.trans hr) hvv (fun t ht hW => ⟨rfl, by rw [ht]; exact hH, hS.F ht⟩) (fun q hq => hS.2.2 q hq) hd hlk
theorem ex_lret {v : Int64} (hd : decode mt.2.1 pc = .ok (.lreturn, 1)) (hr : rm.2.2 = some .long) (hQ : Q = RetQ G (some (.long v)) X I L kn) : Ex G mt rm Q kn X I L pc lv [.long v] := by
  subst hQ
  obtain ⟨⟨p, l, e, R, s⟩, ⟨m, ar, below, meth, c⟩, ⟨D, dA, B, tS⟩⟩ := G
  intro hc H locs ls hH hS hl
  obtain ⟨hx, hb, hml, hown, hts, hWd, hlk, hrm⟩ := id hc
  unfold RetQ
  exact W.lret (Qc := fun _ st oc t => oc = .returned (some (.long v)) ∧ Hold D dA B X I L t.heap ∧ va_F (fun q => B ≤ q) st t) (free := fun q => B ≤ q) hx hb (hrm.2.2.trans hr) (fun t ht hW => ⟨rfl, by rw [ht]; exact hH, hS.F ht⟩) (fun q hq => hS.2.2 q hq) hd hlk
theorem ex_vret (hd : decode mt.2.1 pc = .ok (.return_, 1)) (hr : rm.2.2 = none) (hQ : Q = RetQ G none X I L kn) : Ex G mt rm Q kn X I L pc lv [] := by
  subst hQ
  obtain ⟨⟨p, l, e, R, s⟩, ⟨m, ar, below, meth, c⟩, ⟨D, dA, B, tS⟩⟩ := G
  intro hc H locs ls hH hS hl
  obtain ⟨hx, hb, hml, hown, hts, hWd, hlk, hrm⟩ := id hc
  unfold RetQ
  exact W.vret (Qc := fun _ st oc t => oc = .returned (none) ∧ Hold D dA B X I L t.heap ∧ va_F (fun q => B ≤ q) st t) (free := fun q => B ≤ q) hx hb (hrm.2.2.trans hr) (fun t ht hW => ⟨rfl, by rw [ht]; exact hH, hS.F ht⟩) (fun q hq => hS.2.2 q hq) hd hlk
theorem ex_aret {a : Nat} {rt : FieldType} (hd : decode mt.2.1 pc = .ok (.areturn, 1)) (hr : rm.2.2 = some rt) (hrt : (∃ n, rt = .object n) ∨ ∃ t, rt = .array t) (hQ : Q = RetQ G (some (.ref (gB G + a))) X I L kn) : Ex G mt rm Q kn X I L pc lv [.ref (gB G + a)] := by
  subst hQ
  obtain ⟨⟨p, l, e, R, s⟩, ⟨m, ar, below, meth, c⟩, ⟨D, dA, B, tS⟩⟩ := G
  intro hc H locs ls hH hS hl
  obtain ⟨hx, hb, hml, hown, hts, hWd, hlk, hrm⟩ := id hc
  unfold RetQ
  exact W.aret (Qc := fun _ st oc t => oc = .returned (some (.ref (B + a))) ∧ Hold D dA B X I L t.heap ∧ va_F (fun q => B ≤ q) st t) (free := fun q => B ≤ q) hx hb (hrm.2.2.trans hr) hrt (Or.inr ⟨_, rfl⟩) (fun t ht hW => ⟨rfl, by rw [ht]; exact hH, hS.F ht⟩) (fun q hq => hS.2.2 q hq) hd hlk
/-- behind a call -/
theorem w_ofRun {p : Program} {l : Launch} {e : Env} {R : Room} {s : State} {m : MethodId} {args : Array Value} {below : List Frame} {meth : Method} {c : Code} {H : Heap} {locs : List Loc} {cells slots mc ms : Nat} {D : va_G} {dA : Nat → ClassId} {B : Nat} {o : Option Value} {ls : Array Slot} {rest st0 : List Value}
    (hr : va_Run p l e R s m args below meth c H locs cells slots mc ms (F0 m pc ls st0) rest (fun st oc t => oc = .returned o ∧ Hold D dA B X' I' L' t.heap ∧ va_F (fun q => B ≤ q) st t) (fun q => B ≤ q)) (hS : va_S (fun q => B ≤ q) s.heap H locs)
    (kk : ∀ (H1 : Heap) (locs1 : List Loc), Hold D dA B X' I' L' H1 → va_S (fun q => B ≤ q) s.heap H1 locs1 → W p l e R s m args below meth c H1 locs1 (cells + mc) (slots + ms) Q (F0 m (pc + 3) ls (o.toList ++ rest))) : W p l e R s m args below meth c H locs cells slots Q (F0 m pc ls st0) := by
  intro T hT X0
  obtain ⟨v, st₀, t, T', L0, h0, X1, hL, e1, e2, ⟨hv, hH1, hz, hk⟩, stp⟩ := hr T hT X0
  cases hv
  rw [h0] at hz hk
  obtain ⟨t2, a1, b1⟩ := kk t.heap (locs ++ L0) hH1 ⟨Nat.le_trans hS.1 hz, fun q h1 h2 => (hk q (Nat.lt_of_lt_of_le h1 hS.1) h2).trans (hS.2.1 q h1 h2), fun q hq => by
      rcases List.mem_append.mp hq with h | h
      · exact hS.2.2 q h
      · exact hL q h⟩ T' e1 X1
  exact ⟨t2, stp t2 a1, b1⟩
theorem con_blind {D : va_G} {dA : Nat → ClassId} {B : Nat} {tS : Nat → Nat} {av : Array Value} : FrameBlind (fun v U => v = av ∧ Hold D dA B X I L U.heap ∧ World D dA B tS U) :=
  fun _ U _ _ h => ⟨h.1, h.2.1, h.2.2.moved (State.WarmedH.refl U) (Nat.le_refl _) (fun _ _ _ => rfl)⟩
def DSC (y : MethodName) (n : Nat) : Prop := y.cls ≠ "java/lang/invoke/MethodHandle" ∧ y.cls ≠ "java/lang/invoke/VarHandle" ∧ (parseMethodDescriptor y.desc).map (fun d => d.parameters.length) = some n
def CLV (own : String) (index : Nat) (y : MethodName) (mt' : MT) (ret : Option FieldType) (n : Nat) : Prop :=
  (Cond.methodLink own index y ∈ lwg ∧ Cond.instanceMethod y ∈ lwg ∧ Cond.selects y.cls y y ∈ lwg ∧ Cond.initialized y.cls ∈ lwg) ∧ Cond.code y mt'.2.1 mt'.2.2 ret ∈ lwg ∧ DSC y n
def CLS (own : String) (index : Nat) (y : MethodName) (mt' : MT) (ret : Option FieldType) (n : Nat) : Prop :=
  (Cond.methodLink own index y ∈ lwg ∧ Cond.static y ∈ lwg ∧ Cond.initialized y.cls ∈ lwg) ∧ Cond.code y mt'.2.1 mt'.2.2 ret ∈ lwg ∧ DSC y n
def CLSN (own : String) (index : Nat) (y : MethodName) (mt' : MT) (ret : Option FieldType) (n : Nat) : Prop :=
  (∃ host, Cond.methodLinkNest own index y host ∈ lwn) ∧ (Cond.static y ∈ lwg ∧ Cond.initialized y.cls ∈ lwg) ∧ Cond.code y mt'.2.1 mt'.2.2 ret ∈ lwg ∧ DSC y n
def CLI (own : String) (index : Nat) (y : MethodName) (mt' : MT) (n : Nat) : Prop :=
  (Cond.methodLink own index y ∈ lwg ∧ Cond.instanceMethod y ∈ lwg ∧ Cond.initialized y.cls ∈ lwg) ∧ Cond.code y mt'.2.1 mt'.2.2 none ∈ lwg ∧ DSC y n ∧ y.name = "<init>"
def CLIN (own : String) (index : Nat) (y : MethodName) (mt' : MT) (n : Nat) : Prop :=
  (∃ host, Cond.methodLinkNest own index y host ∈ lwn) ∧ (Cond.instanceMethod y ∈ lwg ∧ Cond.initialized y.cls ∈ lwg) ∧ Cond.code y mt'.2.1 mt'.2.2 none ∈ lwg ∧ DSC y n ∧ y.name = "<init>"
/-- the room of a call, in numbers -/
def ROOM (rm rm' : RM) (mt' : MT) (kn : Nat × Nat) : Prop := (rm'.1.1 + 1 ≤ rm.1.1 ∧ 8 + (mt'.2.2 + 11) + rm'.1.2.1 ≤ rm.1.2.1) ∧ kn.1 + rm'.1.2.2.1 ≤ rm.1.2.2.1 ∧ kn.2 + rm'.1.2.2.2 ≤ rm.1.2.2.2
theorem ex_callV {a ci : Nat} {index n : Nat} {y : MethodName} {mt' : MT} {rm' : RM} {args : Nat → List Value} {o : Option Value} (As : List Value) (hd : decode mt.2.1 pc = .ok (.invokevirtual index, 3)) (hcl : CLV mt.1 index y mt' rm'.2.2 n) (hcon : Con G mt' y rm' args X I L o X' I' L') (ha : args (gB G) = .ref (gB G + a) :: As) (hk : X.1 a = (1, ci)) (hci : ∃ T N, vwCl[ci]? = some (y.cls, T, N)) (hst : stk = As.reverse ++ .ref (gB G + a) :: st) (hn : As.length = n) (hR : ROOM rm rm' mt' kn) (hw : (st.map fun v => v.category).sum ≤ 8) (hp : pc + 3 = pc') (kk : Ex G mt rm Q (kn.1 + rm'.1.2.2.1, kn.2 + rm'.1.2.2.2) X' I' L' pc' lv (o.toList ++ st)) : Ex G mt rm Q kn X I L pc lv stk := by
  obtain ⟨⟨p, l, e, R, s⟩, ⟨m, ar, below, meth, c⟩, ⟨D, dA, B, tS⟩⟩ := G
  intro hc H locs ls hH hS hl
  obtain ⟨hx, hb, hml, hown, hts, hWd, hlk, hrm⟩ := id hc
  subst hp
  obtain ⟨⟨w1, w2, w3, w4⟩, w5, hdsc⟩ := hcl
  obtain ⟨T0, N0, hci⟩ := hci
  obtain ⟨r, h1, cell, q1, q2, q3, -⟩ := hH.obj hk
  have hr : r = (y.cls, T0, N0) := Option.some.inj (h1.symm.trans hci)
  have hcls : s.vm.findClass y.cls = some cell.cls := by rw [q2]; exact (hWd.1.1 ci _ hci).2.1
  have hG : GoodIn lwg (wsV mt.1 index y.cls y (.code y mt'.2.1 mt'.2.2 rm'.2.2 :: lwg)) := by
    intro v hv
    simp only [wsV, List.cons_append, List.nil_append, List.mem_cons] at hv
    rcases hv with rfl | rfl | rfl | rfl | rfl | hv
    · exact lwg_good _ w1
    · exact lwg_good _ w2
    · exact lwg_good _ w3
    · exact lwg_good _ w4
    · exact lwg_good _ w5
    · exact lwg_good _ hv
  have cw := cwV (R := R) (s := s) (args := ar) (own := mt.1) (index := index) (C := y.cls) (y := y) (bytes := mt'.2.1) (maxL := mt'.2.2) (ret := rm'.2.2) (rm := { frames := rm'.1.1, cells := rm'.1.2.2.1, slots := rm'.1.2.2.2, locals := rm'.1.2.1 }) n hts hG rfl rfl rfl ⟨rfl, hdsc⟩ ⟨by rw [hrm.1.1]; exact hR.1.1, by rw [hrm.1.2.1]; exact hR.1.2⟩
  exact w_ofRun (va_runV (As := As) (rest := st) ⟨hx, hb, hml, hown, hts⟩ hcon cw ⟨con_blind, ⟨cell, q1, by rw [q3]; rfl, hcls⟩, (fun U hU hW => ⟨by rw [← ha], by rw [hU]; exact hH, hWd.moved hW (by rw [hU]; exact hS.1) (fun q h1 h2 => by rw [hU]; exact hS.2.1 q h1 h2)⟩)⟩ rfl hn hl.1 hst (lv_room hw) hd ⟨by rw [hrm.1.2.2.1]; exact hR.2.1, by rw [hrm.1.2.2.2]; exact hR.2.2⟩) hS (fun H1 locs1 hH1 hS1 => kk hc H1 locs1 ls hH1 hS1 hl)
theorem ex_callS {index n : Nat} {y : MethodName} {mt' : MT} {rm' : RM} {args : Nat → List Value} {o : Option Value} (As : List Value) (hd : decode mt.2.1 pc = .ok (.invokestatic index, 3)) (hcl : CLS mt.1 index y mt' rm'.2.2 n) (hcon : Con G mt' y rm' args X I L o X' I' L') (ha : args (gB G) = As) (hst : stk = As.reverse ++ st) (hn : As.length = n) (hR : ROOM rm rm' mt' kn) (hw : (st.map fun v => v.category).sum ≤ 8) (hp : pc + 3 = pc') (kk : Ex G mt rm Q (kn.1 + rm'.1.2.2.1, kn.2 + rm'.1.2.2.2) X' I' L' pc' lv (o.toList ++ st)) : Ex G mt rm Q kn X I L pc lv stk := by
  obtain ⟨⟨p, l, e, R, s⟩, ⟨m, ar, below, meth, c⟩, ⟨D, dA, B, tS⟩⟩ := G
  intro hc H locs ls hH hS hl
  obtain ⟨hx, hb, hml, hown, hts, hWd, hlk, hrm⟩ := id hc
  subst hp
  obtain ⟨⟨w1, w2, w3⟩, w5, hdsc⟩ := hcl
  have hG : GoodIn lwg (va_wsS mt.1 index y (.code y mt'.2.1 mt'.2.2 rm'.2.2 :: lwg)) := by
    intro v hv
    simp only [va_wsS, List.cons_append, List.nil_append, List.mem_cons] at hv
    rcases hv with rfl | rfl | rfl | rfl | hv
    · exact lwg_good _ w1
    · exact lwg_good _ w2
    · exact lwg_good _ w3
    · exact lwg_good _ w5
    · exact lwg_good _ hv
  have cw := va_cwS (R := R) (s := s) (args := ar) (own := mt.1) (index := index) (y := y) (bytes := mt'.2.1) (maxL := mt'.2.2) (ret := rm'.2.2) (rm := { frames := rm'.1.1, cells := rm'.1.2.2.1, slots := rm'.1.2.2.2, locals := rm'.1.2.1 }) n hts hG rfl rfl rfl hdsc ⟨by rw [hrm.1.1]; exact hR.1.1, by rw [hrm.1.2.1]; exact hR.1.2⟩
  exact w_ofRun (va_runS (As := As) (rest := st) ⟨hx, hb, hml, hown, hts⟩ hcon cw ⟨con_blind, (fun U hU hW => ⟨by rw [← ha], by rw [hU]; exact hH, hWd.moved hW (by rw [hU]; exact hS.1) (fun q h1 h2 => by rw [hU]; exact hS.2.1 q h1 h2)⟩)⟩ rfl hn hl.1 hst (lv_room hw) hd ⟨by rw [hrm.1.2.2.1]; exact hR.2.1, by rw [hrm.1.2.2.2]; exact hR.2.2⟩) hS (fun H1 locs1 hH1 hS1 => kk hc H1 locs1 ls hH1 hS1 hl)
theorem ex_callSN {index n : Nat} {y : MethodName} {mt' : MT} {rm' : RM} {args : Nat → List Value} {o : Option Value} (As : List Value) (hd : decode mt.2.1 pc = .ok (.invokestatic index, 3)) (hcl : CLSN mt.1 index y mt' rm'.2.2 n) (hcon : Con G mt' y rm' args X I L o X' I' L') (ha : args (gB G) = As) (hst : stk = As.reverse ++ st) (hn : As.length = n) (hR : ROOM rm rm' mt' kn) (hw : (st.map fun v => v.category).sum ≤ 8) (hp : pc + 3 = pc') (kk : Ex G mt rm Q (kn.1 + rm'.1.2.2.1, kn.2 + rm'.1.2.2.2) X' I' L' pc' lv (o.toList ++ st)) : Ex G mt rm Q kn X I L pc lv stk := by
  obtain ⟨⟨p, l, e, R, s⟩, ⟨m, ar, below, meth, c⟩, ⟨D, dA, B, tS⟩⟩ := G
  intro hc H locs ls hH hS hl
  obtain ⟨hx, hb, hml, hown, hts, hWd, hlk, hrm⟩ := id hc
  subst hp
  obtain ⟨⟨host, w1⟩, ⟨w2, w3⟩, w5, hdsc⟩ := hcl
  have cw : _ ∧ _ ∧ True := ⟨va_cnB (R := R) (s := s) (args := ar) (own := mt.1) (index := index) (y := y) (bytes := mt'.2.1) (maxL := mt'.2.2) (ret := rm'.2.2) (rm := { frames := rm'.1.1, cells := rm'.1.2.2.1, slots := rm'.1.2.2.2, locals := rm'.1.2.1 }) n hts (lwg_cons w5) rfl rfl rfl (hWd.2.2.1 _ w1) (hts _ w3) hdsc ⟨by rw [hrm.1.1]; exact hR.1.1, by rw [hrm.1.2.1]; exact hR.1.2⟩, hts _ w2, trivial⟩
  exact w_ofRun (va_runSN (As := As) (rest := st) ⟨hx, hb, hml, hown, hts⟩ hcon cw ⟨con_blind, (fun U hU hW => ⟨by rw [← ha], by rw [hU]; exact hH, hWd.moved hW (by rw [hU]; exact hS.1) (fun q h1 h2 => by rw [hU]; exact hS.2.1 q h1 h2)⟩)⟩ rfl hn hl.1 hst (lv_room hw) hd ⟨by rw [hrm.1.2.2.1]; exact hR.2.1, by rw [hrm.1.2.2.2]; exact hR.2.2⟩) hS (fun H1 locs1 hH1 hS1 => kk hc H1 locs1 ls hH1 hS1 hl)
theorem ex_callI {a : Nat} {index n : Nat} {y : MethodName} {mt' : MT} {rm' : RM} {args : Nat → List Value} {o : Option Value} (As : List Value) (hd : decode mt.2.1 pc = .ok (.invokespecial index, 3)) (hcl : CLI mt.1 index y mt' n) (hret : rm'.2.2 = none) (hcon : Con G mt' y rm' args X I L o X' I' L') (ha : args (gB G) = .ref (gB G + a) :: As) (hst : stk = As.reverse ++ .ref (gB G + a) :: st) (hn : As.length = n) (hR : ROOM rm rm' mt' kn) (hw : (st.map fun v => v.category).sum ≤ 8) (hp : pc + 3 = pc') (kk : Ex G mt rm Q (kn.1 + rm'.1.2.2.1, kn.2 + rm'.1.2.2.2) X' I' L' pc' lv (o.toList ++ st)) : Ex G mt rm Q kn X I L pc lv stk := by
  obtain ⟨⟨p, l, e, R, s⟩, ⟨m, ar, below, meth, c⟩, ⟨D, dA, B, tS⟩⟩ := G
  intro hc H locs ls hH hS hl
  obtain ⟨hx, hb, hml, hown, hts, hWd, hlk, hrm⟩ := id hc
  subst hp
  unfold Con at hcon
  rw [hret] at hcon
  obtain ⟨⟨w1, w2, w3⟩, w5, hdsc, hnm⟩ := hcl
  have cw := cwI (R := R) (s := s) (args := ar) (own := mt.1) (index := index) (y := y) (bytes := mt'.2.1) (maxL := mt'.2.2) (rm := { frames := rm'.1.1, cells := rm'.1.2.2.1, slots := rm'.1.2.2.2, locals := rm'.1.2.1 }) n hts (lwg_cons w5) rfl rfl rfl (hts _ w3) (hts _ w1) (hts _ w2) hnm hdsc ⟨by rw [hrm.1.1]; exact hR.1.1, by rw [hrm.1.2.1]; exact hR.1.2⟩
  exact w_ofRun (va_runI (As := As) (rest := st) ⟨hx, hb, hml, hown, hts⟩ hcon cw ⟨con_blind, (fun U hU hW => ⟨by rw [← ha], by rw [hU]; exact hH, hWd.moved hW (by rw [hU]; exact hS.1) (fun q h1 h2 => by rw [hU]; exact hS.2.1 q h1 h2)⟩)⟩ rfl hn hl.1 hst (lv_room hw) hd ⟨by rw [hrm.1.2.2.1]; exact hR.2.1, by rw [hrm.1.2.2.2]; exact hR.2.2⟩) hS (fun H1 locs1 hH1 hS1 => kk hc H1 locs1 ls hH1 hS1 hl)
theorem ex_callIN {a : Nat} {index n : Nat} {y : MethodName} {mt' : MT} {rm' : RM} {args : Nat → List Value} {o : Option Value} (As : List Value) (hd : decode mt.2.1 pc = .ok (.invokespecial index, 3)) (hcl : CLIN mt.1 index y mt' n) (hret : rm'.2.2 = none) (hcon : Con G mt' y rm' args X I L o X' I' L') (ha : args (gB G) = .ref (gB G + a) :: As) (hst : stk = As.reverse ++ .ref (gB G + a) :: st) (hn : As.length = n) (hR : ROOM rm rm' mt' kn) (hw : (st.map fun v => v.category).sum ≤ 8) (hp : pc + 3 = pc') (kk : Ex G mt rm Q (kn.1 + rm'.1.2.2.1, kn.2 + rm'.1.2.2.2) X' I' L' pc' lv (o.toList ++ st)) : Ex G mt rm Q kn X I L pc lv stk := by
  obtain ⟨⟨p, l, e, R, s⟩, ⟨m, ar, below, meth, c⟩, ⟨D, dA, B, tS⟩⟩ := G
  intro hc H locs ls hH hS hl
  obtain ⟨hx, hb, hml, hown, hts, hWd, hlk, hrm⟩ := id hc
  subst hp
  unfold Con at hcon
  rw [hret] at hcon
  obtain ⟨⟨host, w1⟩, ⟨w2, w3⟩, w5, hdsc, hnm⟩ := hcl
  have cw : _ ∧ _ ∧ _ := ⟨va_cnB (R := R) (s := s) (args := ar) (own := mt.1) (index := index) (y := y) (bytes := mt'.2.1) (maxL := mt'.2.2) (ret := none) (rm := { frames := rm'.1.1, cells := rm'.1.2.2.1, slots := rm'.1.2.2.2, locals := rm'.1.2.1 }) n hts (lwg_cons w5) rfl rfl rfl (hWd.2.2.1 _ w1) (hts _ w3) hdsc ⟨by rw [hrm.1.1]; exact hR.1.1, by rw [hrm.1.2.1]; exact hR.1.2⟩, hnm, hts _ w2⟩
  exact w_ofRun (va_runIN (As := As) (rest := st) ⟨hx, hb, hml, hown, hts⟩ hcon cw ⟨con_blind, (fun U hU hW => ⟨by rw [← ha], by rw [hU]; exact hH, hWd.moved hW (by rw [hU]; exact hS.1) (fun q h1 h2 => by rw [hU]; exact hS.2.1 q h1 h2)⟩)⟩ rfl hn hl.1 hst (lv_room hw) hd ⟨by rw [hrm.1.2.2.1]; exact hR.2.1, by rw [hrm.1.2.2.2]; exact hR.2.2⟩) hS (fun H1 locs1 hH1 hS1 => kk hc H1 locs1 ls hH1 hS1 hl)
theorem ex_mmax {index : Nat} {x y : Int32} (hd : decode mt.2.1 pc = .ok (.invokestatic index, 3)) (hwd : Cond.methodLink mt.1 index Lib.Math.max.name ∈ lwg ∧ Cond.static Lib.Math.max.name ∈ lwg ∧ Cond.initialized "java/lang/Math" ∈ lwg ∧ Cond.code Lib.Math.max.name Lib.Math.max.code 2 (some .int) ∈ lwg) (hR : 1 ≤ rm.1.1 ∧ (st.map fun v => v.category).sum + 13 ≤ rm.1.2.1 ∧ kn.1 ≤ rm.1.2.2.1 ∧ kn.2 ≤ rm.1.2.2.2) (hp : pc + 3 = pc') (kk : Ex G mt rm Q kn X I L pc' lv (.int (if x < y then y else x) :: st)) : Ex G mt rm Q kn X I L pc lv (.int y :: .int x :: st) := by
  obtain ⟨⟨p, l, e, R, s⟩, ⟨m, ar, below, meth, c⟩, ⟨D, dA, B, tS⟩⟩ := G
  intro hc H locs ls hH hS hl
  obtain ⟨hx, hb, hml, hown, hts, hWd, hlk, hrm⟩ := id hc
  subst hp
  obtain ⟨w1, w2, w3, w4⟩ := hwd
  exact va_mmax hx hb (hml.trans hl.1.symm) hown (hts _ w1) (hts _ w2) (hts _ w3) (hts _ w4) (by rw [hrm.1.1]; exact hR.1) (by rw [hrm.1.2.1]; exact hR.2.1) (by rw [hrm.1.2.2.1]; exact hR.2.2.1) (by rw [hrm.1.2.2.2]; exact hR.2.2.2) hd (kk hc H locs ls hH hS hl)
theorem ex_mmin {index : Nat} {x y : Int32} (hd : decode mt.2.1 pc = .ok (.invokestatic index, 3)) (hwd : Cond.methodLink mt.1 index Lib.Math.min.name ∈ lwg ∧ Cond.static Lib.Math.min.name ∈ lwg ∧ Cond.initialized "java/lang/Math" ∈ lwg ∧ Cond.code Lib.Math.min.name Lib.Math.min.code 2 (some .int) ∈ lwg) (hR : 1 ≤ rm.1.1 ∧ (st.map fun v => v.category).sum + 13 ≤ rm.1.2.1 ∧ kn.1 ≤ rm.1.2.2.1 ∧ kn.2 ≤ rm.1.2.2.2) (hp : pc + 3 = pc') (kk : Ex G mt rm Q kn X I L pc' lv (.int (if y < x then y else x) :: st)) : Ex G mt rm Q kn X I L pc lv (.int y :: .int x :: st) := by
  obtain ⟨⟨p, l, e, R, s⟩, ⟨m, ar, below, meth, c⟩, ⟨D, dA, B, tS⟩⟩ := G
  intro hc H locs ls hH hS hl
  obtain ⟨hx, hb, hml, hown, hts, hWd, hlk, hrm⟩ := id hc
  subst hp
  obtain ⟨w1, w2, w3, w4⟩ := hwd
  exact va_mmin hx hb (hml.trans hl.1.symm) hown (hts _ w1) (hts _ w2) (hts _ w3) (hts _ w4) (by rw [hrm.1.1]; exact hR.1) (by rw [hrm.1.2.1]; exact hR.2.1) (by rw [hrm.1.2.2.1]; exact hR.2.2.1) (by rw [hrm.1.2.2.2]; exact hR.2.2.2) hd (kk hc H locs ls hH hS hl)
theorem ex_objInit {index : Nat} {a : Nat} (hd : decode mt.2.1 pc = .ok (.invokespecial index, 3)) (hwd : Cond.methodLink mt.1 index Lib.objectInit ∈ lwg ∧ Cond.instanceMethod Lib.objectInit ∈ lwg ∧ Cond.code Lib.objectInit ⟨#[0xb1]⟩ 1 none ∈ lwg) (hR : 1 ≤ rm.1.1 ∧ (st.map fun v => v.category).sum + 12 ≤ rm.1.2.1) (hp : pc + 3 = pc') (kk : Ex G mt rm Q kn X I L pc' lv st) : Ex G mt rm Q kn X I L pc lv (.ref a :: st) := by
  obtain ⟨⟨p, l, e, R, s⟩, ⟨m, ar, below, meth, c⟩, ⟨D, dA, B, tS⟩⟩ := G
  intro hc H locs ls hH hS hl
  obtain ⟨hx, hb, hml, hown, hts, hWd, hlk, hrm⟩ := id hc
  subst hp
  obtain ⟨w1, w2, w4⟩ := hwd
  exact W.objInit hx hb hown (hts _ w1) (hts _ w2) (hts _ w4) rfl (hl.1.trans hml.symm) rfl hd (by rw [hrm.1.1]; exact hR.1) (by rw [hrm.1.2.1]; show 2 * 0 + _ + 12 ≤ _; have := hR.2; omega) (kk hc H locs ls hH hS hl)
end EC
