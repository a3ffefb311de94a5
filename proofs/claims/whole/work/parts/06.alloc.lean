/-! ===== new cells, stores of references, arraycopy ===== -/
def nwK (K : Nat → Nat × Nat) (z : Nat) (k : Nat × Nat) : Nat → Nat × Nat := fun b => if b = z then k else K b
def nwI (I : MI) (z : Nat) : MI := fun b j => if b = z then 0 else I b j
def nwL (L : ML) (z : Nat) : ML := fun b j => if b = z then 0 else L b j
def nwF (F : MF) (z : Nat) : MF := fun b j => if b = z then none else F b j
theorem nwI_off {I : MI} {z b : Nat} (h : b ≠ z) : nwI I z b = I b := by funext j; simp [nwI, h]
theorem nwL_off {I : ML} {z b : Nat} (h : b ≠ z) : nwL I z b = I b := by funext j; simp [nwL, h]
theorem nwF_off {I : MF} {z b : Nat} (h : b ≠ z) : nwF I z b = I b := by funext j; simp [nwF, h]
theorem nwI_at (I : MI) (z j : Nat) : nwI I z z j = 0 := by simp [nwI]
theorem nwL_at (I : ML) (z j : Nat) : nwL I z z j = 0 := by simp [nwL]
theorem nwF_at (I : MF) (z j : Nat) : nwF I z z j = none := by simp [nwF]
def okTy : FieldType → Bool
  | .int => true
  | .boolean => true
  | .object _ => true
  | .array _ => true
  | _ => false
theorem fval_new {B : Nat} {ty : FieldType} (h : okTy ty = true) : defaultValue ty = fval B ty 0 none := by
  cases ty <;> first | rfl | (simp [okTy] at h)
def CLN (own : String) (index ci N : Nat) : Prop := ∃ (C : String) (T : u_T), vwCl[ci]? = some (C, T, N) ∧ (∀ w ∈ u_ws C T N, w ∈ lwg) ∧ (∀ k, k < N → parseFieldDescriptor (T k).2.2.1 = some (fty ci k)) ∧ (∀ k, k < N → okTy (fty ci k) = true) ∧ Cond.classLink own index C ∈ lwg ∧ Cond.instantiable C N ∈ lwg ∧ Cond.initialized C ∈ lwg
section EA
variable {G : GX} {mt : MT} {rm : RM} {Q : State → Prop} {kn : Nat × Nat} {X X' : MX} {I I' : MI} {L L' : ML} {pc pc' : Nat} {lv lv' : List (Nat × Value)} {st stk : List Value}
theorem va_S.grow {A : Nat → Prop} {H0 H H1 : Heap} {locs : List Loc} (hS : va_S A H0 H locs) (hz : H1.size = H.size + 1) (hq : ∀ q, q < H.size → H1[q]? = H[q]?) : va_S A H0 H1 locs :=
  ⟨Nat.le_trans hS.1 (by omega), fun x h1 h2 => (hq x (Nat.lt_of_lt_of_le h1 hS.1)).trans (hS.2.1 x h1 h2), hS.2.2⟩
theorem ex_new {index ci N : Nat} (hd : decode mt.2.1 pc = .ok (.new index, 3)) (hcl : CLN mt.1 index ci N) (hR : kn.1 + 1 ≤ rm.1.2.2.1 ∧ kn.2 + N ≤ rm.1.2.2.2) (hp : pc + 3 = pc')
    (kk : Ex G mt rm Q (kn.1 + 1, kn.2 + N) (nwK X.1 X.2.2 (1, ci), nwF X.2.1 X.2.2, X.2.2 + 1) (nwI I X.2.2) L pc' lv (.ref (gB G + X.2.2) :: st)) : Ex G mt rm Q kn X I L pc lv st := by
  obtain ⟨⟨p, l, e, R, s⟩, ⟨m, ar, below, meth, c⟩, ⟨D, dA, B, tS⟩⟩ := G
  intro hc H locs ls hH hS hl
  obtain ⟨hx, hb, hml, hown, hts, hWd, hlk, hrm⟩ := id hc
  subst hp
  obtain ⟨C, T, h1, hin, hty, hok, w1, w2, w3⟩ := hcl
  have hKn := hWd.1.1 ci _ h1
  refine W.newcK hx hb hown (hts _ w1) (hts _ w2) (hts _ w3) rfl hd (by rw [hrm.1.2.2.1]; exact hR.1) (by rw [hrm.1.2.2.2]; exact hR.2) hKn.2.1 hH.1 fun H1 kC hkC e1 z1 o1 => ?_
  have o2 : ∀ q, q < H.size → H1[q]? = H[q]? := fun q h => o1 q (by rw [← hH.1]; exact h)
  have z2 : H1.size = H.size + 1 := by rw [z1, hH.1]
  exact kk hc H1 locs ls (hH.new (1, ci) z2 o2 (fun b hb => nwI_off hb) (fun _ _ => rfl) (fun b hb => nwF_off hb) ⟨_, h1, (u_born (fty ci) hts hin hKn hkC e1 hty).to (fun j hj => by rw [nwI_at, nwF_at]; exact fval_new (hok j hj))⟩) (hS.grow z2 o2) hl
theorem ex_newI {n : Int32} {N : Nat} (hd : decode mt.2.1 pc = .ok (.newarray .int, 2)) (hw : Cond.arrayClass .int ∈ lwg) (hn : ¬ n < 0) (hN : n.toNatClampNeg = N) (hb4 : N * 4 ≤ 536870912) (hR : kn.1 + 1 ≤ rm.1.2.2.1 ∧ kn.2 + N ≤ rm.1.2.2.2) (hp : pc + 2 = pc')
    (kk : Ex G mt rm Q (kn.1 + 1, kn.2 + N) (nwK X.1 X.2.2 (2, N), X.2.1, X.2.2 + 1) (nwI I X.2.2) L pc' lv (.ref (gB G + X.2.2) :: st)) : Ex G mt rm Q kn X I L pc lv (.int n :: st) := by
  obtain ⟨⟨p, l, e, R, s⟩, ⟨m, ar, below, meth, c⟩, ⟨D, dA, B, tS⟩⟩ := G
  intro hc H locs ls hH hS hl
  obtain ⟨hx, hb, hml, hown, hts, hWd, hlk, hrm⟩ := id hc
  subst hp
  refine va_newaK (atype := .int) hx hb (hts _ hw) rfl hd rfl hn hN hb4 (by rw [hrm.1.2.2.1]; exact hR.1) (by rw [hrm.1.2.2.2]; exact hR.2) hH.1 fun H1 cA e1 z1 o1 hAr hNm => ?_
  have hcA : cA = dA 2 := Option.some.inj (hNm.symm.trans (hWd.1.2 0 _ rfl).2)
  subst hcA
  have o2 : ∀ q, q < H.size → H1[q]? = H[q]? := fun q h => o1 q (by rw [← hH.1]; exact h)
  have z2 : H1.size = H.size + 1 := by rw [z1, hH.1]
  refine kk hc H1 locs ls (hH.new (2, N) z2 o2 (fun b hb => nwI_off hb) (fun _ _ => rfl) (fun _ _ => rfl) ?_) (hS.grow z2 o2) hl
  show H1[B + X.2.2]? = _
  rw [e1]
  congr 2
  funext j
  rw [nwI_at]
  rfl
theorem ex_newL {n : Int32} {N : Nat} (hd : decode mt.2.1 pc = .ok (.newarray .long, 2)) (hw : Cond.arrayClass .long ∈ lwg) (hn : ¬ n < 0) (hN : n.toNatClampNeg = N) (hb4 : N * 8 ≤ 536870912) (hR : kn.1 + 1 ≤ rm.1.2.2.1 ∧ kn.2 + N ≤ rm.1.2.2.2) (hp : pc + 2 = pc')
    (kk : Ex G mt rm Q (kn.1 + 1, kn.2 + N) (nwK X.1 X.2.2 (3, N), X.2.1, X.2.2 + 1) I (nwL L X.2.2) pc' lv (.ref (gB G + X.2.2) :: st)) : Ex G mt rm Q kn X I L pc lv (.int n :: st) := by
  obtain ⟨⟨p, l, e, R, s⟩, ⟨m, ar, below, meth, c⟩, ⟨D, dA, B, tS⟩⟩ := G
  intro hc H locs ls hH hS hl
  obtain ⟨hx, hb, hml, hown, hts, hWd, hlk, hrm⟩ := id hc
  subst hp
  refine va_newaK (atype := .long) hx hb (hts _ hw) rfl hd rfl hn hN hb4 (by rw [hrm.1.2.2.1]; exact hR.1) (by rw [hrm.1.2.2.2]; exact hR.2) hH.1 fun H1 cA e1 z1 o1 hAr hNm => ?_
  have hcA : cA = dA 3 := Option.some.inj (hNm.symm.trans (hWd.1.2 1 _ rfl).2)
  subst hcA
  have o2 : ∀ q, q < H.size → H1[q]? = H[q]? := fun q h => o1 q (by rw [← hH.1]; exact h)
  have z2 : H1.size = H.size + 1 := by rw [z1, hH.1]
  refine kk hc H1 locs ls (hH.new (3, N) z2 o2 (fun _ _ => rfl) (fun b hb => nwL_off hb) (fun _ _ => rfl) ?_) (hS.grow z2 o2) hl
  show H1[B + X.2.2]? = _
  rw [e1]
  congr 2
  funext j
  rw [nwL_at]
  rfl
theorem cellIs_ref {D : va_G} {dA : Nat → ClassId} {B t n a : Nat} {F : MF} {H : Heap} (h4 : 4 ≤ t) (e0 : H[B + a]? = some (arrV (dA t) n (fun j => va_rf ((F a j).map (B + ·))))) : cellIs D dA B (t, n) a I L F H := by
  match t, h4, e0 with
  | 4, _, e0 => exact e0
  | t + 5, _, e0 => exact e0
theorem ra_AO {D : va_G} {dA : Nat → ClassId} {B : Nat} {tS : Nat → Nat} {s : State} (h : World D dA B tS s) {t : Nat} (h4 : 4 ≤ t) (h7 : t ≤ 7) : va_AO (raC t) s := by
  obtain ⟨a1, a2, a3, a4⟩ := h.2.2.2.1
  rcases (show t = 4 ∨ t = 5 ∨ t = 6 ∨ t = 7 by omega) with rfl | rfl | rfl | rfl
  · exact a1
  · exact a2
  · exact a3
  · exact a4
theorem ex_newq {index t : Nat} {n : Int32} {N : Nat} (hd : decode mt.2.1 pc = .ok (.anewarray index, 3)) (h4 : 4 ≤ t) (h7 : t ≤ 7) (hw : Cond.classLink mt.1 index (raC t) ∈ lwg) (hn : ¬ n < 0) (hN : n.toNatClampNeg = N) (hb4 : N * 4 ≤ 536870912) (hR : kn.1 + 1 ≤ rm.1.2.2.1 ∧ kn.2 + N ≤ rm.1.2.2.2) (hp : pc + 3 = pc')
    (kk : Ex G mt rm Q (kn.1 + 1, kn.2 + N) (nwK X.1 X.2.2 (t, N), nwF X.2.1 X.2.2, X.2.2 + 1) I L pc' lv (.ref (gB G + X.2.2) :: st)) : Ex G mt rm Q kn X I L pc lv (.int n :: st) := by
  obtain ⟨⟨p, l, e, R, s⟩, ⟨m, ar, below, meth, c⟩, ⟨D, dA, B, tS⟩⟩ := G
  intro hc H locs ls hH hS hl
  obtain ⟨hx, hb, hml, hown, hts, hWd, hlk, hrm⟩ := id hc
  subst hp
  subst hN
  refine W.anew hx hb hown (hts _ hw) (va_AO.use (ra_AO hWd h4 h7)) rfl hd rfl hn hb4 (by rw [hrm.1.2.2.1]; exact hR.1) (by rw [hrm.1.2.2.2]; exact hR.2) fun cA kA comp hNm hkA hkind hcomp => ?_
  obtain ⟨kA', comp', r1, r2, r3, r4⟩ := (hWd.1.2 (t - 2) _ (ra_ty h4 h7)).2
  have hcA : cA = dA t := Option.some.inj (hNm.symm.trans r4)
  subst hcA
  have z2 : (H.push { cls := dA t, slots := Array.replicate n.toNatClampNeg .null, vm := .none }).size = H.size + 1 := by simp
  have o2 : ∀ q, q < H.size → (H.push { cls := dA t, slots := Array.replicate n.toNatClampNeg .null, vm := .none })[q]? = H[q]? := by
    intro q hq
    rw [Array.getElem?_push, if_neg (Nat.ne_of_lt hq)]
  have hcell : cellIs D dA B (t, n.toNatClampNeg) X.2.2 I L (nwF X.2.1 X.2.2) (H.push { cls := dA t, slots := Array.replicate n.toNatClampNeg .null, vm := .none }) := by
    have e0 : (H.push { cls := dA t, slots := Array.replicate n.toNatClampNeg .null, vm := .none })[B + X.2.2]? = some (arrV (dA t) n.toNatClampNeg (fun j => va_rf ((nwF X.2.1 X.2.2 X.2.2 j).map (B + ·)))) := by
      rw [← hH.1, arrV_new]
      simp [nwF, va_rf]
    exact cellIs_ref h4 e0
  have hk2 := kk hc _ locs ls (hH.new (t, n.toNatClampNeg) z2 o2 (fun _ _ => rfl) (fun _ _ => rfl) (fun b hb => nwF_off hb) hcell) (hS.grow z2 o2) hl
  rw [hH.1]
  exact hk2
theorem ex_aast {a t n a' : Nat} {i : Int32} (hd : decode mt.2.1 pc = .ok (.aastore, 1)) (hk : X.1 a = (t, n)) (h4 : 4 ≤ t) (h7 : t ≤ 7) (hk' : X.1 a' = (1, raCi t)) (hin : vp_in i n) (hp : pc + 1 = pc') (kk : Ex G mt rm Q kn (X.1, upF X.2.1 a i.toNatClampNeg (some a'), X.2.2) I L pc' lv st) : Ex G mt rm Q kn X I L pc lv (.ref (gB G + a') :: .int i :: .ref (gB G + a) :: st) := by
  obtain ⟨⟨p, l, e, R, s⟩, ⟨m, ar, below, meth, c⟩, ⟨D, dA, B, tS⟩⟩ := G
  intro hc H locs ls hH hS hl
  obtain ⟨hx, hb, hml, hown, hts, hWd, hlk, hrm⟩ := id hc
  subst hp
  have hlt : i.toNatClampNeg < n := Nat.not_le.mp fun q => hin (Or.inr q)
  have h0 : ¬ i < 0 := fun q => hin (Or.inl q)
  obtain ⟨T0, N0, hcl⟩ := ra_cl h4 h7
  obtain ⟨r, hr1, cellV, g1, g2, g3, -⟩ := hH.obj hk'
  have hcls := (hWd.1.1 _ _ hcl).2
  obtain ⟨kA, comp, k1, k2, k3, -⟩ := (hWd.1.2 (t - 2) _ (ra_ty h4 h7)).2
  have hcomp : comp = D.1 (raCi t) := Option.some.inj (k3.symm.trans hcls.1)
  subst hcomp
  obtain ⟨kC, hkC, -⟩ := hcls.2
  refine W.aast hx hb (hH.refs h4 hk) (fun q h => by cases h) (fun h => by cases h) k1 k2 rfl hkC ⟨h0, by rw [arrV_size]; exact hlt⟩ g1 (fun q h => by rw [g3] at h; cases h) (by rw [g2]; exact hkC) (by rw [g2]; exact va_assign hcls) rfl rfl hd fun H1 e1 z oq => ?_
  refine kk hc H1 _ ls (hH.one a z oq (fun _ _ => rfl) (fun _ _ => rfl) (fun b hb => upF_off hb) ?_) (hS.put z oq (Nat.le_add_right B a)) hl
  rw [hk]
  have e0 : H1[B + a]? = some (arrV (dA t) n (fun j => va_rf ((upF X.2.1 a i.toNatClampNeg (some a') a j).map (B + ·)))) := by
    rw [e1, arrV_store]
    congr 2
    funext q
    unfold updV
    rw [upF_at]
    by_cases hq : q = i.toNatClampNeg <;> simp [hq, va_rf]
  exact cellIs_ref h4 e0
/-! arraycopy of two rows of ints, of longs -/
def cpI (I : MI) (a0 a sp dp n : Nat) : MI := fun b j => if b = a then va_cpy (I a0) (I a) sp dp n j else I b j
def cpL (I : ML) (a0 a sp dp n : Nat) : ML := fun b j => if b = a then va_cpy (I a0) (I a) sp dp n j else I b j
def CPW (own : String) (index : Nat) : Prop := Cond.methodLink own index arraycopyName ∈ lwg ∧ Cond.native arraycopyName ∈ lwg ∧ Cond.static arraycopyName ∈ lwg ∧ Cond.initialized "java/lang/System" ∈ lwg
theorem w_copy {α : Type} (mk : α → Value) {p : Program} {l : Launch} {e : Env} {R : Room} {s : State} {m : MethodId} {args : Array Value} {below : List Frame} {meth : Method} {c : Code} {H : Heap} {locs : List Loc} {cells slots : Nat} {cc : ByteArray} {ls : Array Slot} {rest : List Value} {A : Nat → Prop} {H0 : Heap} {a : Nat} (hexec : p.tables.exec = Jvm.exec) (hb : c.code = cc) (hml : c.maxLocals = ls.size) {own : String} {index : Nat} (hown : s.vm.findClass own = some m.cls) (hts : ∀ w ∈ lwg, w.before args s = true) (hw : CPW own index)
    {a0 : Nat} {c0 c1 : ClassId} {n0 n1 : Nat} {f g : Nat → α} {ty : FieldType} (hc0 : H[a0]? = some (arrV c0 n0 (fun j => mk (f j)))) (hc1 : H[a]? = some (arrV c1 n1 (fun j => mk (g j)))) (ht0 : ArrOfT s c0 ty) (ht1 : ArrOfT s c1 ty) (hprim : refKind ty = false) (hAa : A a) (hS : va_S A H0 H locs)
    {sp dp n : Int32} (h1 : ¬ sp < 0) (h2 : ¬ dp < 0) (h3 : ¬ n < 0) (h4 : sp.toNatClampNeg + n.toNatClampNeg ≤ n0) (h5 : dp.toNatClampNeg + n.toNatClampNeg ≤ n1) (hfit : ∀ x : α, fits ty (mk x) = true) (hnr : ∀ (x : α) (q : Nat), mk x ≠ .ref q)
    (hframes : 1 ≤ R.frames) (hlocals : (rest.map fun v => v.category).sum + (nativeFrameWords "java/lang/System" "arraycopy" 5 + 11) ≤ R.locals) (hdg : decode cc pc = .ok (.invokestatic index, 3))
    (kk : ∀ (H1 : Heap) (locs1 : List Loc), H1[a]? = some (arrV c1 n1 (fun j => mk (va_cpy f g sp.toNatClampNeg dp.toNatClampNeg n.toNatClampNeg j))) → H1.size = H.size → (∀ q, q ≠ a → H1[q]? = H[q]?) → va_S A H0 H1 locs1 → W p l e R s m args below meth c H1 locs1 cells slots Q (F0 m (pc + 3) ls rest)) : W p l e R s m args below meth c H locs cells slots Q (F0 m pc ls (.int n :: .int dp :: .ref a :: .int sp :: .ref a0 :: rest)) := by
  have nn : ∀ z : Int32, ¬ z < 0 → z.toInt = (z.toNatClampNeg : Int) := by
    intro z hz
    have hz0 : (0 : Int) ≤ z.toInt := by
      have := Int32.not_lt.mp hz
      simpa using Int32.le_iff_toInt_le.mp this
    show z.toInt = ((z.toInt.toNat : Nat) : Int)
    omega
  intro T hT X0
  obtain ⟨-, k0, hk0, cm0, hkk0⟩ := ht0 n0 (fun j => mk (f j))
  obtain ⟨-, k1, hk1, cm1, hkk1⟩ := ht1 n1 (fun j => mk (g j))
  obtain ⟨w1, w2, w3, w4⟩ := hw
  obtain ⟨vm', X1, step⟩ := X0.arraycopy hexec hown (hts _ w1) (hts _ w2) (hts _ w3) (hts _ w4) (src := a0) (dst := a) (cs := arrV c0 n0 (fun j => mk (f j))) (cd := arrV c1 n1 (fun j => mk (g j))) (srcPos := sp) (destPos := dp) (n := n) (by rw [hT]; exact hc0) (by rw [hT]; exact hc1)
    (fun _ h => by cases h) (fun _ h => by cases h) (fun h => by cases h) (fun h => by cases h) hk0 hk1 hkk0 hkk1 (by simp [hprim]) h1 h2 h3
    (by rw [nn sp h1, nn n h3, arrV_size]; omega)
    (by rw [nn dp h2, nn n h3, arrV_size]; omega)
    (fun vm₁ _ i hi => by
      have e : (arrV c0 n0 (fun j => mk (f j))).slots.getD (sp.toNatClampNeg + i) .null = mk (f (sp.toNatClampNeg + i)) := by
        rw [Array.getD_eq_getD_getElem?, arrV_read _ _ (by omega)]
        rfl
      refine ⟨?_, ?_⟩
      · rw [e]
        exact hfit _
      · rw [e]
        cases hv : mk (f (sp.toNatClampNeg + i)) <;> first | exact trivial | exact absurd hv (hnr _ _))
    (g := F0 m pc ls (.int n :: .int dp :: .ref a :: .int sp :: .ref a0 :: rest)) rfl (by rw [hml]) (rest := rest) rfl (by rw [hb]; exact hdg) hframes (by show 2 * 0 + _ + _ ≤ _; omega)
  have e1 : copied (arrV c0 n0 (fun j => mk (f j))) (arrV c1 n1 (fun j => mk (g j))) sp dp n = arrV c1 n1 (fun j => mk (va_cpy f g sp.toNatClampNeg dp.toNatClampNeg n.toNatClampNeg j)) := va_copied mk c0 c1 f g h4
  rw [e1] at X1 step
  have hl : a < H.size := (Array.getElem?_eq_some_iff.mp hc1).1
  generalize hN : arrV c1 n1 (fun j => mk (va_cpy f g sp.toNatClampNeg dp.toNatClampNeg n.toNatClampNeg j)) = N at X1 step kk
  have hheap : ((T.setVm vm').setCell a N).heap = H.setIfInBounds a N := by rw [← hT]; rfl
  have oq : ∀ q : Nat, q ≠ a → (H.setIfInBounds a N)[q]? = H[q]? := fun q hq => by simp [Array.getElem?_setIfInBounds, Ne.symm hq]
  obtain ⟨t, a1, b1⟩ := kk _ _ (show (H.setIfInBounds a N)[a]? = some _ by simp [Array.getElem?_setIfInBounds, hl]) (by simp) oq ⟨by simp; exact hS.1, fun q g1 g2 => by
      rw [oq q (fun e => g2 (by rw [e]; exact hAa))]
      exact hS.2.1 q g1 g2, fun q hq => by
      rcases List.mem_append.mp hq with h | h
      · exact hS.2.2 q h
      · obtain ⟨z, -, hz⟩ := List.mem_map.mp h
        rw [← hz]
        exact hAa⟩ _ hheap X1
  exact ⟨t, step t a1, b1⟩
theorem ex_copyI {index a0 a n0 n1 : Nat} {sp dp n : Int32} (hd : decode mt.2.1 pc = .ok (.invokestatic index, 3)) (hw : CPW mt.1 index) (hk0 : X.1 a0 = (2, n0)) (hk1 : X.1 a = (2, n1)) (hb3 : (¬ sp < 0 ∧ ¬ dp < 0 ∧ ¬ n < 0) ∧ sp.toNatClampNeg + n.toNatClampNeg ≤ n0 ∧ dp.toNatClampNeg + n.toNatClampNeg ≤ n1) (hR : 1 ≤ rm.1.1 ∧ (st.map fun v => v.category).sum + (nativeFrameWords "java/lang/System" "arraycopy" 5 + 11) ≤ rm.1.2.1) (hp : pc + 3 = pc')
    (kk : Ex G mt rm Q kn X (cpI I a0 a sp.toNatClampNeg dp.toNatClampNeg n.toNatClampNeg) L pc' lv st) : Ex G mt rm Q kn X I L pc lv (.int n :: .int dp :: .ref (gB G + a) :: .int sp :: .ref (gB G + a0) :: st) := by
  obtain ⟨⟨p, l, e, R, s⟩, ⟨m, ar, below, meth, c⟩, ⟨D, dA, B, tS⟩⟩ := G
  intro hc H locs ls hH hS hl
  obtain ⟨hx, hb, hml, hown, hts, hWd, hlk, hrm⟩ := id hc
  subst hp
  refine w_copy (fun z => Value.int z) hx hb (hml.trans hl.1.symm) hown hts hw (hH.ints hk0) (hH.ints hk1) (hWd.1.2 0 _ rfl).1 (hWd.1.2 0 _ rfl).1 rfl (Nat.le_add_right B a) hS hb3.1.1 hb3.1.2.1 hb3.1.2.2 hb3.2.1 hb3.2.2 (fun _ => rfl) (fun _ _ h => by cases h) (by rw [hrm.1.1]; exact hR.1) (by rw [hrm.1.2.1]; exact hR.2) hd fun H1 locs1 e1 z oq hS1 => ?_
  refine kk hc H1 _ ls (hH.one a z oq (fun b hb => by funext j; simp [cpI, hb]) (fun _ _ => rfl) (fun _ _ => rfl) ?_) hS1 hl
  rw [hk1]
  show H1[B + a]? = _
  rw [e1]
  congr 2
  funext j
  simp [cpI]
theorem ex_copyL {index a0 a n0 n1 : Nat} {sp dp n : Int32} (hd : decode mt.2.1 pc = .ok (.invokestatic index, 3)) (hw : CPW mt.1 index) (hk0 : X.1 a0 = (3, n0)) (hk1 : X.1 a = (3, n1)) (hb3 : (¬ sp < 0 ∧ ¬ dp < 0 ∧ ¬ n < 0) ∧ sp.toNatClampNeg + n.toNatClampNeg ≤ n0 ∧ dp.toNatClampNeg + n.toNatClampNeg ≤ n1) (hR : 1 ≤ rm.1.1 ∧ (st.map fun v => v.category).sum + (nativeFrameWords "java/lang/System" "arraycopy" 5 + 11) ≤ rm.1.2.1) (hp : pc + 3 = pc')
    (kk : Ex G mt rm Q kn X I (cpL L a0 a sp.toNatClampNeg dp.toNatClampNeg n.toNatClampNeg) pc' lv st) : Ex G mt rm Q kn X I L pc lv (.int n :: .int dp :: .ref (gB G + a) :: .int sp :: .ref (gB G + a0) :: st) := by
  obtain ⟨⟨p, l, e, R, s⟩, ⟨m, ar, below, meth, c⟩, ⟨D, dA, B, tS⟩⟩ := G
  intro hc H locs ls hH hS hl
  obtain ⟨hx, hb, hml, hown, hts, hWd, hlk, hrm⟩ := id hc
  subst hp
  refine w_copy (fun z => Value.long z) hx hb (hml.trans hl.1.symm) hown hts hw (hH.longs hk0) (hH.longs hk1) (hWd.1.2 1 _ rfl).1 (hWd.1.2 1 _ rfl).1 rfl (Nat.le_add_right B a) hS hb3.1.1 hb3.1.2.1 hb3.1.2.2 hb3.2.1 hb3.2.2 (fun _ => rfl) (fun _ _ h => by cases h) (by rw [hrm.1.1]; exact hR.1) (by rw [hrm.1.2.1]; exact hR.2) hd fun H1 locs1 e1 z oq hS1 => ?_
  refine kk hc H1 _ ls (hH.one a z oq (fun _ _ => rfl) (fun b hb => by funext j; simp [cpL, hb]) (fun _ _ => rfl) ?_) hS1 hl
  rw [hk1]
  show H1[B + a]? = _
  rw [e1]
  congr 2
  funext j
  simp [cpL]
end EA
