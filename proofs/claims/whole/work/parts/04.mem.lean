/-! ===== fields, arrays, calls, returns over the abstract memory ===== -/
def isI : FieldType → Bool
  | .int => true
  | .boolean => true
  | _ => false
theorem fval_I {B : Nat} {ty : FieldType} {i : Int32} {f : Option Nat} (h : isI ty = true) : fval B ty i f = .int i := by
  cases ty <;> first | rfl | (simp [isI] at h)
theorem fval_R {B : Nat} {ty : FieldType} {i : Int32} {f : Option Nat} (h : isI ty = false) : fval B ty i f = va_rf (f.map (B + ·)) := by
  cases ty <;> first | rfl | (simp [isI] at h)
/-- a field's link: pool entry 'index' of class own is field k of class ci -/
def FLD (own : String) (index ci k : Nat) (fin : Bool) : Prop := ∃ (C : String) (T : u_T) (N : Nat), vwCl[ci]? = some (C, T, N) ∧ (∀ w ∈ u_ws C T N, w ∈ lwg) ∧ k < N ∧ Cond.fieldLink own index (T k).1 (T k).2.1 (T k).2.2.1 ∈ lwg ∧ (∀ a, a < N → ∀ b, b < N → a ≠ b → (T a).2.1 ≠ (T b).2.1) ∧ (∀ k, k < N → parseFieldDescriptor (T k).2.2.1 = some (fty ci k)) ∧ (T k).2.2.2 = fin ∧ (T k).1 = C
section EM
variable {G : GX} {mt : MT} {rm : RM} {Q : State → Prop} {kn : Nat × Nat} {X : MX} {I : MI} {L : ML} {pc pc' : Nat} {lv lv' : List (Nat × Value)} {st : List Value}
/-- the object's cell -/
theorem Hold.obj {D : va_G} {dA : Nat → ClassId} {B a ci : Nat} {H : Heap} (h : Hold D dA B X I L H) (hk : X.1 a = (1, ci)) : ∃ r : vw_C, vwCl[ci]? = some r ∧ t_OB (B + a) (D.1 ci) r.2.2 (D.2 ci) H (fun j => fval B (fty ci j) (I a j) (X.2.1 a j)) := by
  have h1 := h.2.2 a
  rw [hk] at h1
  exact h1
theorem ex_get {index a ci k : Nat} {fin : Bool} {v : Value} (hd : decode mt.2.1 pc = .ok (.getfield index, 3)) (hf : FLD mt.1 index ci k fin) (hk : X.1 a = (1, ci)) (hv : fval (gB G) (fty ci k) (I a k) (X.2.1 a k) = v) (hp : pc + 3 = pc') (kk : Ex G mt rm Q kn X I L pc' lv (v :: st)) : Ex G mt rm Q kn X I L pc lv (.ref (gB G + a) :: st) := by
  obtain ⟨⟨p, l, e, R, s⟩, ⟨m, ar, below, meth, c⟩, ⟨D, dA, B, tS⟩⟩ := G
  intro hc H locs ls hH hS hl
  obtain ⟨hx, hb, hml, hown, hts, hWd, hlk, hrm⟩ := id hc
  subst hp
  obtain ⟨C, T, N, hcl, hin, hkN, hlink, hnm, hty, -, -⟩ := hf
  obtain ⟨r, h1, cell, q1, q2, q3, q4⟩ := hH.obj hk
  have hr : r = (C, T, N) := Option.some.inj (h1.symm.trans hcl)
  subst hr
  obtain ⟨hS1, hfc, kC, hkC, hkind⟩ := hWd.1.1 ci _ hcl
  obtain ⟨cf, kf, fi, f, hi, hsl⟩ := hS1 k hkN
  refine W.getf hx hb hown (hts _ hlink) hi (u_facts hfc hkC (u_lays hts hin hkN) hi).1 q1 (by rw [q3]; exact fun h => by cases h) (v := v) ?_ rfl rfl hd (kk hc H locs ls hH hS hl)
  rw [hsl, q4 k hkN]
  exact congrArg some hv
theorem ex_getI {index a ci k : Nat} {fin : Bool} (hd : decode mt.2.1 pc = .ok (.getfield index, 3)) (hf : FLD mt.1 index ci k fin) (hi : isI (fty ci k) = true) (hk : X.1 a = (1, ci)) (hp : pc + 3 = pc') (kk : Ex G mt rm Q kn X I L pc' lv (.int (I a k) :: st)) : Ex G mt rm Q kn X I L pc lv (.ref (gB G + a) :: st) :=
  ex_get hd hf hk (fval_I hi) hp kk
theorem ex_getR {index a ci k a' : Nat} {fin : Bool} (hd : decode mt.2.1 pc = .ok (.getfield index, 3)) (hf : FLD mt.1 index ci k fin) (hi : isI (fty ci k) = false) (hk : X.1 a = (1, ci)) (hr : X.2.1 a k = some a') (hp : pc + 3 = pc') (kk : Ex G mt rm Q kn X I L pc' lv (.ref (gB G + a') :: st)) : Ex G mt rm Q kn X I L pc lv (.ref (gB G + a) :: st) :=
  ex_get hd hf hk ((fval_R hi).trans (by rw [hr]; rfl)) hp kk
theorem fval_up {B ci k a : Nat} {v : Value} {I' : MI} {F' : MF} (hI : ∀ j, j ≠ k → I' a j = I a j) (hF : ∀ j, j ≠ k → F' a j = X.2.1 a j) (hv : fval B (fty ci k) (I' a k) (F' a k) = v) : ∀ j, updV (fun j => fval B (fty ci j) (I a j) (X.2.1 a j)) k v j = fval B (fty ci j) (I' a j) (F' a j) := by
  intro j
  unfold updV
  by_cases e : j = k
  · subst e; rw [if_pos rfl]; exact hv.symm
  · rw [if_neg e, hI j e, hF j e]
/-- a store into a field that isn't final -/
theorem ex_put {index a ci k : Nat} {v : Value} {I' : MI} {F' : MF} (hd : decode mt.2.1 pc = .ok (.putfield index, 3)) (hf : FLD mt.1 index ci k false) (hk : X.1 a = (1, ci)) (hn : narrow (fty ci k) v = v) (hfit : fits (fty ci k) v = true)
    (hI : ∀ b j, (b ≠ a ∨ j ≠ k) → I' b j = I b j) (hF : ∀ b j, (b ≠ a ∨ j ≠ k) → F' b j = X.2.1 b j) (hv : fval (gB G) (fty ci k) (I' a k) (F' a k) = v) (hp : pc + 3 = pc') (kk : Ex G mt rm Q kn (X.1, F', X.2.2) I' L pc' lv st) : Ex G mt rm Q kn X I L pc lv (v :: .ref (gB G + a) :: st) := by
  obtain ⟨⟨p, l, e, R, s⟩, ⟨m, ar, below, meth, c⟩, ⟨D, dA, B, tS⟩⟩ := G
  intro hc H locs ls hH hS hl
  obtain ⟨hx, hb, hml, hown, hts, hWd, hlk, hrm⟩ := id hc
  subst hp
  obtain ⟨C, T, N, hcl, hin, hkN, hlink, hnm, hty, hfin, -⟩ := hf
  have hap := va_apart (own := mt.1) hts hin (fty ci) hty hnm hWd.1 hcl
  obtain ⟨r, h1, cell, q1, q2, q3, q4⟩ := hH.obj hk
  have hr : r = (C, T, N) := Option.some.inj (h1.symm.trans hcl)
  subst hr
  obtain ⟨hS1, hfc, kC, hkC, hkind⟩ := hWd.1.1 ci _ hcl
  obtain ⟨cf, kf, fi, f, hi, hsl⟩ := hS1 k hkN
  have hlay := hts _ (hin _ (u_in_lay hkN))
  unfold u_lay at hlay
  rw [if_neg (by rw [hfin]; decide)] at hlay
  have hst := (u_facts hfc hkC (u_lays hts hin hkN) hi).1
  have h6 := u_store hfc hkC hkind hlay hi (hty k hkN) hn hfit
  refine W.putK hx hb (f := f) ⟨hown, hts _ hlink, ⟨_, _, _, hi⟩, hst⟩ (by rw [q2]; exact h6) q1 q3 (by rw [hsl]; exact k2_hasslot (q4 k hkN)) rfl rfl hd fun H' e1 e2 e3 => ?_
  rw [hsl] at e1 ⊢
  refine kk hc H' _ ls (hH.one a e2 e3 (fun b hb => funext fun j => hI b j (Or.inl hb)) (fun _ _ => rfl) (fun b hb => funext fun j => hF b j (Or.inl hb)) ?_) (hS.put e2 e3 (Nat.le_add_right B a)) hl
  rw [hk]
  exact ⟨_, hcl, t_OB.to (V := updV _ k v) ⟨_, e1, q2, q3, t_set q4 hap hkN v⟩ (fun j _ => fval_up (fun j hj => hI a j (Or.inr hj)) (fun j hj => hF a j (Or.inr hj)) hv j)⟩
/-- a store into a final field, in a constructor of its class -/
theorem ex_putF {index a ci k : Nat} {v : Value} {I' : MI} {F' : MF} (hd : decode mt.2.1 pc = .ok (.putfield index, 3)) (hf : FLD mt.1 index ci k true) (hk : X.1 a = (1, ci)) (hinit : rm.2.1 = true) (hCo : ∀ C T N, vwCl[ci]? = some (C, T, N) → C = mt.1) (hn : narrow (fty ci k) v = v) (hfit : fits (fty ci k) v = true)
    (hI : ∀ b j, (b ≠ a ∨ j ≠ k) → I' b j = I b j) (hF : ∀ b j, (b ≠ a ∨ j ≠ k) → F' b j = X.2.1 b j) (hv : fval (gB G) (fty ci k) (I' a k) (F' a k) = v) (hp : pc + 3 = pc') (kk : Ex G mt rm Q kn (X.1, F', X.2.2) I' L pc' lv st) : Ex G mt rm Q kn X I L pc lv (v :: .ref (gB G + a) :: st) := by
  obtain ⟨⟨p, l, e, R, s⟩, ⟨m, ar, below, meth, c⟩, ⟨D, dA, B, tS⟩⟩ := G
  intro hc H locs ls hH hS hl
  obtain ⟨hx, hb, hml, hown, hts, hWd, hlk, hrm⟩ := id hc
  subst hp
  obtain ⟨C, T, N, hcl, hin, hkN, hlink, hnm, hty, hfin, hdecl⟩ := hf
  have hap := va_apart (own := mt.1) hts hin (fty ci) hty hnm hWd.1 hcl
  obtain ⟨r, h1, cell, q1, q2, q3, q4⟩ := hH.obj hk
  have hr : r = (C, T, N) := Option.some.inj (h1.symm.trans hcl)
  subst hr
  obtain ⟨hS1, hfc, kC, hkC, hkind⟩ := hWd.1.1 ci _ hcl
  obtain ⟨cf, kf, fi, f, hi, hsl⟩ := hS1 k hkN
  have hlay := hts _ (hin _ (u_in_lay hkN))
  unfold u_lay at hlay
  rw [if_pos hfin] at hlay
  have hst := (u_facts hfc hkC (u_lays hts hin hkN) hi).1
  have hcf : m.cls = cf := by
    obtain ⟨_, _, c', _, _, _, -, -, hf', -, -, -, hown2, -⟩ := Cond.laysFinal_spec hlay
    have e1 : c' = cf := by have := hi.symm.trans hf'; simp at this; exact this.1.symm
    rw [hdecl, hCo _ _ _ hcl] at hown2
    rw [← e1]; exact Option.some.inj (hown.symm.trans hown2)
  have h6 := u_fits hfc hkC hkind (Or.inr hlay) hi (hty k hkN) hn hfit
  refine W.putFinK hx hb hown (hts _ hlink) hi hst hcf (hrm.2.1 hinit) (by rw [q2]; exact h6) q1 q3 (by rw [hsl]; exact k2_hasslot (q4 k hkN)) rfl rfl hd fun H' e1 e2 e3 => ?_
  rw [hsl] at e1 ⊢
  refine kk hc H' _ ls (hH.one a e2 e3 (fun b hb => funext fun j => hI b j (Or.inl hb)) (fun _ _ => rfl) (fun b hb => funext fun j => hF b j (Or.inl hb)) ?_) (hS.put e2 e3 (Nat.le_add_right B a)) hl
  rw [hk]
  exact ⟨_, hcl, t_OB.to (V := updV _ k v) ⟨_, e1, q2, q3, t_set q4 hap hkN v⟩ (fun j _ => fval_up (fun j hj => hI a j (Or.inr hj)) (fun j hj => hF a j (Or.inr hj)) hv j)⟩
theorem upI_ne {I : MI} {a k : Nat} {v : Int32} : ∀ b j, (b ≠ a ∨ j ≠ k) → upI I a k v b j = I b j := by
  intro b j h
  unfold upI
  rw [if_neg (fun e => h.elim (fun q => q e.1) (fun q => q e.2))]
theorem upF_ne {I : MF} {a k : Nat} {v : Option Nat} : ∀ b j, (b ≠ a ∨ j ≠ k) → upF I a k v b j = I b j := by
  intro b j h
  unfold upF
  rw [if_neg (fun e => h.elim (fun q => q e.1) (fun q => q e.2))]
theorem ex_putI {index a ci k : Nat} {v : Int32} (hd : decode mt.2.1 pc = .ok (.putfield index, 3)) (hf : FLD mt.1 index ci k false) (hty : fty ci k = .int) (hk : X.1 a = (1, ci)) (hp : pc + 3 = pc') (kk : Ex G mt rm Q kn X (upI I a k v) L pc' lv st) : Ex G mt rm Q kn X I L pc lv (.int v :: .ref (gB G + a) :: st) :=
  ex_put (F' := X.2.1) hd hf hk (by rw [hty]; rfl) (by rw [hty]; rfl) upI_ne (fun _ _ _ => rfl) (by rw [hty]; show Value.int (upI I a k v a k) = _; rw [upI_at, if_pos rfl]) hp kk
/-- a boolean field becomes 1 -/
theorem ex_putZ {index a ci k : Nat} (hd : decode mt.2.1 pc = .ok (.putfield index, 3)) (hf : FLD mt.1 index ci k false) (hty : fty ci k = .boolean) (hk : X.1 a = (1, ci)) (hp : pc + 3 = pc') (kk : Ex G mt rm Q kn X (upI I a k 1) L pc' lv st) : Ex G mt rm Q kn X I L pc lv (.int 1 :: .ref (gB G + a) :: st) :=
  ex_put (F' := X.2.1) hd hf hk (by rw [hty]; rfl) (by rw [hty]; rfl) upI_ne (fun _ _ _ => rfl) (by rw [hty]; show Value.int (upI I a k 1 a k) = _; rw [upI_at, if_pos rfl]) hp kk
/-- a final int field, a final field with a reference -/
theorem ex_putFI {index a ci k : Nat} {v : Int32} (hd : decode mt.2.1 pc = .ok (.putfield index, 3)) (hf : FLD mt.1 index ci k true) (hinit : rm.2.1 = true) (hCo : ∀ C T N, vwCl[ci]? = some (C, T, N) → C = mt.1) (hty : fty ci k = .int) (hk : X.1 a = (1, ci)) (hp : pc + 3 = pc') (kk : Ex G mt rm Q kn X (upI I a k v) L pc' lv st) : Ex G mt rm Q kn X I L pc lv (.int v :: .ref (gB G + a) :: st) :=
  ex_putF (F' := X.2.1) hd hf hk hinit hCo (by rw [hty]; rfl) (by rw [hty]; rfl) upI_ne (fun _ _ _ => rfl) (by rw [hty]; show Value.int (upI I a k v a k) = _; rw [upI_at, if_pos rfl]) hp kk
theorem fits_ref {ty : FieldType} {q : Nat} (h : isI ty = false) (hr : refKind ty = true) : narrow ty (.ref q) = .ref q ∧ fits ty (.ref q) = true := by
  cases ty <;> first | exact ⟨rfl, rfl⟩ | (simp [refKind] at hr)
theorem ex_putFR {index a ci k a' : Nat} (hd : decode mt.2.1 pc = .ok (.putfield index, 3)) (hf : FLD mt.1 index ci k true) (hinit : rm.2.1 = true) (hCo : ∀ C T N, vwCl[ci]? = some (C, T, N) → C = mt.1) (hi : isI (fty ci k) = false) (hr : refKind (fty ci k) = true) (hk : X.1 a = (1, ci)) (hp : pc + 3 = pc') (kk : Ex G mt rm Q kn (X.1, upF X.2.1 a k (some a'), X.2.2) I L pc' lv st) : Ex G mt rm Q kn X I L pc lv (.ref (gB G + a') :: .ref (gB G + a) :: st) :=
  ex_putF (I' := I) hd hf hk hinit hCo (fits_ref hi hr).1 (fits_ref hi hr).2 (fun _ _ _ => rfl) upF_ne ((fval_R hi).trans (by rw [upF_at, if_pos rfl]; rfl)) hp kk
/-! arrays -/
theorem Hold.ints {D : va_G} {dA : Nat → ClassId} {B a n : Nat} {H : Heap} (h : Hold D dA B X I L H) (hk : X.1 a = (2, n)) : H[B + a]? = some (arrV (dA 2) n (fun j => .int (I a j))) := by
  have h1 := h.2.2 a
  rw [hk] at h1
  exact h1
theorem Hold.longs {D : va_G} {dA : Nat → ClassId} {B a n : Nat} {H : Heap} (h : Hold D dA B X I L H) (hk : X.1 a = (3, n)) : H[B + a]? = some (arrV (dA 3) n (fun j => .long (L a j))) := by
  have h1 := h.2.2 a
  rw [hk] at h1
  exact h1
theorem Hold.refs {D : va_G} {dA : Nat → ClassId} {B a t n : Nat} {H : Heap} (h : Hold D dA B X I L H) (ht : 4 ≤ t) (hk : X.1 a = (t, n)) : H[B + a]? = some (arrV (dA t) n (fun j => va_rf ((X.2.1 a j).map (B + ·)))) := by
  have h1 := h.2.2 a
  rw [hk] at h1
  match t, ht, h1 with
  | 4, _, h1 => exact h1
  | t + 5, _, h1 => exact h1
theorem ex_iald {a n : Nat} {i : Int32} (hd : decode mt.2.1 pc = .ok (.iaload, 1)) (hk : X.1 a = (2, n)) (hin : vp_in i n) (hp : pc + 1 = pc') (kk : Ex G mt rm Q kn X I L pc' lv (.int (I a i.toNatClampNeg) :: st)) : Ex G mt rm Q kn X I L pc lv (.int i :: .ref (gB G + a) :: st) := by
  obtain ⟨⟨p, l, e, R, s⟩, ⟨m, ar, below, meth, c⟩, ⟨D, dA, B, tS⟩⟩ := G
  intro hc H locs ls hH hS hl
  obtain ⟨hx, hb, hml, hown, hts, hWd, hlk, hrm⟩ := id hc
  subst hp
  have hlt : i.toNatClampNeg < n := Nat.not_le.mp fun q => hin (Or.inr q)
  exact W.iald (v := .int (I a i.toNatClampNeg)) hx hb (hH.ints hk) ((hWd.1.2 0 _ rfl).1 n (fun j => .int (I a j))) (fun q => by cases q) (by rw [arrV_size]; exact hin) (by rw [arrV_read _ _ hlt]) rfl rfl hd (kk hc H locs ls hH hS hl)
theorem ex_lald {a n : Nat} {i : Int32} (hd : decode mt.2.1 pc = .ok (.laload, 1)) (hk : X.1 a = (3, n)) (hin : vp_in i n) (hp : pc + 1 = pc') (kk : Ex G mt rm Q kn X I L pc' lv (.long (L a i.toNatClampNeg) :: st)) : Ex G mt rm Q kn X I L pc lv (.int i :: .ref (gB G + a) :: st) := by
  obtain ⟨⟨p, l, e, R, s⟩, ⟨m, ar, below, meth, c⟩, ⟨D, dA, B, tS⟩⟩ := G
  intro hc H locs ls hH hS hl
  obtain ⟨hx, hb, hml, hown, hts, hWd, hlk, hrm⟩ := id hc
  subst hp
  have hlt : i.toNatClampNeg < n := Nat.not_le.mp fun q => hin (Or.inr q)
  exact W.lald (v := .long (L a i.toNatClampNeg)) hx hb (hH.longs hk) ((hWd.1.2 1 _ rfl).1 n (fun j => .long (L a j))) (fun q => by cases q) (by rw [arrV_size]; exact hin) (by rw [arrV_read _ _ hlt]) rfl rfl hd (kk hc H locs ls hH hS hl)
/-- tags 4 .. 7: the place in tysOf, the class's name -/
def raC (t : Nat) : String := match t with
  | 4 => RX9
  | 5 => RX0
  | 6 => RX7
  | _ => RX2
def raCi (t : Nat) : Nat := match t with
  | 4 => 9
  | 5 => 0
  | 6 => 7
  | _ => 2
theorem ra_ty {dA : Nat → ClassId} {t : Nat} (h4 : 4 ≤ t) (h7 : t ≤ 7) : (tysOf dA)[t - 2]? = some (dA t, .object (raC t)) := by
  rcases (show t = 4 ∨ t = 5 ∨ t = 6 ∨ t = 7 by omega) with rfl | rfl | rfl | rfl <;> rfl
theorem ra_cl {t : Nat} (h4 : 4 ≤ t) (h7 : t ≤ 7) : ∃ (T : u_T) (N : Nat), vwCl[raCi t]? = some (raC t, T, N) := by
  rcases (show t = 4 ∨ t = 5 ∨ t = 6 ∨ t = 7 by omega) with rfl | rfl | rfl | rfl <;> exact ⟨_, _, rfl⟩
theorem ex_aald {a t n : Nat} {i : Int32} {v : Value} (hd : decode mt.2.1 pc = .ok (.aaload, 1)) (hk : X.1 a = (t, n)) (h4 : 4 ≤ t) (h7 : t ≤ 7) (hin : vp_in i n) (hv : va_rf ((X.2.1 a i.toNatClampNeg).map (gB G + ·)) = v) (hp : pc + 1 = pc') (kk : Ex G mt rm Q kn X I L pc' lv (v :: st)) : Ex G mt rm Q kn X I L pc lv (.int i :: .ref (gB G + a) :: st) := by
  obtain ⟨⟨p, l, e, R, s⟩, ⟨m, ar, below, meth, c⟩, ⟨D, dA, B, tS⟩⟩ := G
  intro hc H locs ls hH hS hl
  obtain ⟨hx, hb, hml, hown, hts, hWd, hlk, hrm⟩ := id hc
  subst hp
  have hlt : i.toNatClampNeg < n := Nat.not_le.mp fun q => hin (Or.inr q)
  exact W.aald (v := v) (ty := .object (raC t)) hx hb (hH.refs h4 hk) ((hWd.1.2 (t - 2) _ (ra_ty h4 h7)).1 n _) rfl (fun q => by cases q) (by rw [arrV_size]; exact hin) (by rw [arrV_read _ _ hlt]; exact congrArg some hv) rfl rfl hd (kk hc H locs ls hH hS hl)
theorem ex_aaldS {a t n a' : Nat} {i : Int32} (hd : decode mt.2.1 pc = .ok (.aaload, 1)) (hk : X.1 a = (t, n)) (h4 : 4 ≤ t) (h7 : t ≤ 7) (hin : vp_in i n) (hr : X.2.1 a i.toNatClampNeg = some a') (hp : pc + 1 = pc') (kk : Ex G mt rm Q kn X I L pc' lv (.ref (gB G + a') :: st)) : Ex G mt rm Q kn X I L pc lv (.int i :: .ref (gB G + a) :: st) :=
  ex_aald hd hk h4 h7 hin (by rw [hr]; rfl) hp kk
theorem ex_iast {a n : Nat} {i x : Int32} (hd : decode mt.2.1 pc = .ok (.iastore, 1)) (hk : X.1 a = (2, n)) (hin : vp_in i n) (hp : pc + 1 = pc') (kk : Ex G mt rm Q kn X (upI I a i.toNatClampNeg x) L pc' lv st) : Ex G mt rm Q kn X I L pc lv (.int x :: .int i :: .ref (gB G + a) :: st) := by
  obtain ⟨⟨p, l, e, R, s⟩, ⟨m, ar, below, meth, c⟩, ⟨D, dA, B, tS⟩⟩ := G
  intro hc H locs ls hH hS hl
  obtain ⟨hx, hb, hml, hown, hts, hWd, hlk, hrm⟩ := id hc
  subst hp
  refine W.iast hx hb (hH.ints hk) ((hWd.1.2 0 _ rfl).1 n (fun j => .int (I a j))) (fun q => by cases q) (by rw [arrV_size]; exact hin) rfl rfl hd fun H1 e1 z oq => ?_
  refine kk hc H1 _ ls (hH.one a z oq (fun b hb => upI_off hb) (fun _ _ => rfl) (fun _ _ => rfl) ?_) (hS.put z oq (Nat.le_add_right B a)) hl
  rw [hk]
  show H1[B + a]? = _
  rw [e1, arrV_store]
  congr 2
  funext q
  unfold updV
  rw [upI_at]
  by_cases hq : q = i.toNatClampNeg <;> simp [hq]
theorem ex_last {a n : Nat} {i : Int32} {x : Int64} (hd : decode mt.2.1 pc = .ok (.lastore, 1)) (hk : X.1 a = (3, n)) (hin : vp_in i n) (hp : pc + 1 = pc') (kk : Ex G mt rm Q kn X I (upL L a i.toNatClampNeg x) pc' lv st) : Ex G mt rm Q kn X I L pc lv (.long x :: .int i :: .ref (gB G + a) :: st) := by
  obtain ⟨⟨p, l, e, R, s⟩, ⟨m, ar, below, meth, c⟩, ⟨D, dA, B, tS⟩⟩ := G
  intro hc H locs ls hH hS hl
  obtain ⟨hx, hb, hml, hown, hts, hWd, hlk, hrm⟩ := id hc
  subst hp
  refine W.last hx hb (hH.longs hk) ((hWd.1.2 1 _ rfl).1 n (fun j => .long (L a j))) (fun q => by cases q) (by rw [arrV_size]; exact hin) rfl rfl hd fun H1 e1 z oq => ?_
  refine kk hc H1 _ ls (hH.one a z oq (fun _ _ => rfl) (fun b hb => upL_off hb) (fun _ _ => rfl) ?_) (hS.put z oq (Nat.le_add_right B a)) hl
  rw [hk]
  show H1[B + a]? = _
  rw [e1, arrV_store]
  congr 2
  funext q
  unfold updV
  rw [upL_at]
  by_cases hq : q = i.toNatClampNeg <;> simp [hq]
theorem ex_alen {a t n : Nat} {v : Int32} (hd : decode mt.2.1 pc = .ok (.arraylength, 1)) (hk : X.1 a = (t, n)) (ht : t = 2 ∨ t = 3) (hv : Int32.ofNat n = v) (hp : pc + 1 = pc') (kk : Ex G mt rm Q kn X I L pc' lv (.int v :: st)) : Ex G mt rm Q kn X I L pc lv (.ref (gB G + a) :: st) := by
  obtain ⟨⟨p, l, e, R, s⟩, ⟨m, ar, below, meth, c⟩, ⟨D, dA, B, tS⟩⟩ := G
  intro hc H locs ls hH hS hl
  obtain ⟨hx, hb, hml, hown, hts, hWd, hlk, hrm⟩ := id hc
  subst hp
  rcases ht with rfl | rfl
  · exact W.alen (n := v) hx hb (hH.ints hk) ((hWd.1.2 0 _ rfl).1 n (fun j => .int (I a j))) (by rw [arrV_size]; exact hv) rfl rfl hd (kk hc H locs ls hH hS hl)
  · exact W.alen (n := v) hx hb (hH.longs hk) ((hWd.1.2 1 _ rfl).1 n (fun j => .long (L a j))) (by rw [arrV_size]; exact hv) rfl rfl hd (kk hc H locs ls hH hS hl)
/-! static tables -/
theorem ex_getst {index j : Nat} (hd : decode mt.2.1 pc = .ok (.getstatic index, 3)) (hj : j < 4) (hw : Cond.fieldLink mt.1 index (sNm j).1 (sNm j).2 "[I" ∈ lwg) (hp : pc + 3 = pc') (kk : Ex G mt rm Q kn X I L pc' lv (.ref (gT G j) :: st)) : Ex G mt rm Q kn X I L pc lv st := by
  obtain ⟨⟨p, l, e, R, s⟩, ⟨m, ar, below, meth, c⟩, ⟨D, dA, B, tS⟩⟩ := G
  intro hc H locs ls hH hS hl
  obtain ⟨hx, hb, hml, hown, hts, hWd, hlk, hrm⟩ := id hc
  subst hp
  exact va_gets hx hb (hWd.2.1 j hj).1 hS hown (hts _ hw) (fun _ h => h) hd (kk hc H locs ls hH hS hl)
theorem ex_siald {j : Nat} {i : Int32} (hd : decode mt.2.1 pc = .ok (.iaload, 1)) (hj : j < 4) (hin : vp_in i 7) (hp : pc + 1 = pc') (kk : Ex G mt rm Q kn X I L pc' lv (.int (tabI j i.toNatClampNeg) :: st)) : Ex G mt rm Q kn X I L pc lv (.int i :: .ref (gT G j) :: st) := by
  obtain ⟨⟨p, l, e, R, s⟩, ⟨m, ar, below, meth, c⟩, ⟨D, dA, B, tS⟩⟩ := G
  intro hc H locs ls hH hS hl
  obtain ⟨hx, hb, hml, hown, hts, hWd, hlk, hrm⟩ := id hc
  subst hp
  obtain ⟨cell, h1, h2, h3, h4, h5, h6, h7⟩ := (hWd.2.1 j hj).2
  have hlt : i.toNatClampNeg < 7 := Nat.not_le.mp fun q => hin (Or.inr q)
  have h1' : H[tS j]? = some cell := by rw [hS.2.1 (tS j) (Array.getElem?_eq_some_iff.mp h1).1 h7]; exact h1
  exact W.iald (v := .int (tabI j i.toNatClampNeg)) hx hb h1' h2 h3 (fun q => hin (q.imp id (fun q => Nat.le_trans h4 q))) (h6 _ hlt) rfl rfl hd (kk hc H locs ls hH hS hl)
end EM
