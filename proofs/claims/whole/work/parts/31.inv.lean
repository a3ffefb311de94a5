/-! ===== what holds between class and reference, piece by piece ===== -/
def bits (l : List Int32) : Prop := ∀ x ∈ l, x = 0 ∨ x = 1
def WC (I : MI) (a : Nat) (l : List Int32) : Prop := I a 1 = nI l.length ∧ ∀ i x, l[i]? = some x → I (a + 1) i = x
def WM (I : MI) (mm mw w : Nat) (l : List Int32) : Prop := I mm w = nI l.length ∧ ∀ i x, l[i]? = some x → I mw (12 * w + i) = x
def WP (I : MI) (a mm mw w : Nat) : Prop := ∃ l : List Int32, l.length ≤ 12 ∧ bits l ∧ WC I a l ∧ WM I mm mw w l
def SB (x : Int64) : Prop := ¬ 1000000000000000 < x ∧ ¬ x < -1000000000000000
def SP (L : ML) (a m : Nat) : Prop := ∀ p, p < 169 → L a p = L m p ∧ SB (L a p)
def BC (I : MI) (a n : Nat) (r : Nat → Nat) : Prop := I a 0 = nI n ∧ ∀ i, i < n → I (a + 1) i = nI (r i)
def BM (I : MI) (ms mb b n : Nat) (r : Nat → Nat) : Prop := I ms b = nI n ∧ ∀ i, i < n → I mb (6 * b + i) = nI (r i)
def BP (I : MI) (a ms mb b : Nat) : Prop := ∃ (n : Nat) (r : Nat → Nat), 1 ≤ n ∧ n ≤ 6 ∧ (∀ i, i < n → r i < 2 ^ n) ∧ BC I a n r ∧ BM I ms mb b n r
def TP (I : MI) (a m : Nat) : Prop := ∀ p, p < 36 → ∃ k, k ≤ 9 ∧ I a p = nI k ∧ I m p = nI k
def NP (I : MI) (o mo a1 m1 a2 m2 : Nat) : Prop := ∃ k, k ≤ 4 ∧ I o 6 = nI k ∧ I 99 mo = nI k ∧ ∀ s, s < k → ∃ q c, q ≤ 6 ∧ c ≤ 9999 ∧ I a1 s = nI q ∧ I m1 s = nI q ∧ I a2 s = nI c ∧ I m2 s = nI c
def pG (I : MI) : Prop := (I 0 2 = 0 ∨ I 0 2 = 1) ∧ I 99 20 = I 0 2
def pW (I : MI) : Prop := ∀ w, w < 6 → WP I (10 + 4 * w) 100 101 w
def pWi (I : MI) : Prop := I 0 2 = 1 → ∀ w, w < 6 → WP I (43 + 4 * w) 116 117 w
def pS (L : ML) : Prop := SP L 4 102
def pSi (I : MI) (L : ML) : Prop := I 0 2 = 1 → SP L 37 118
def pB (I : MI) : Prop := ∀ b, b < 6 → BP I (12 + 4 * b) 103 104 b
def pBi (I : MI) : Prop := I 0 2 = 1 → ∀ b, b < 6 → BP I (45 + 4 * b) 119 120 b
def pT (I : MI) : Prop := TP I 7 105
def pTi (I : MI) : Prop := I 0 2 = 1 → TP I 40 121
def pN (I : MI) : Prop := NP I 1 6 8 106 9 107
def pNi (I : MI) : Prop := I 0 2 = 1 → NP I 34 27 41 122 42 123
def upR (R : Nat → Nat → Nat) (b i v : Nat) : Nat → Nat → Nat := fun b' i' => if b' = b ∧ i' = i then v else R b' i'
/-- the changes that can be undone, the latest first: what the class tells of them, and the reference -/
def chain (I : MI) (sd : Nat → Nat) : Nat → (Nat → Nat → Nat) → Prop
  | 0, _ => True
  | t + 1, R => (∃ b i j, b < 6 ∧ i < sd b ∧ j < sd b ∧ I 68 t = nI b ∧ I 69 t = nI i ∧ I 70 t = nI j ∧ I 108 t = nI b ∧ I 109 t = nI i ∧ I 110 t = nI (R b i ^^^ 2 ^ j) ∧ chain I sd t (upR R b i (R b i ^^^ 2 ^ j)))
      ∨ (∃ i j w, i < 6 ∧ j < 6 ∧ w ≤ 9 ∧ I 68 t = -1 ∧ I 69 t = nI i ∧ I 70 t = nI j ∧ I 71 t = nI w ∧ I 108 t = -1 ∧ I 109 t = nI (6 * i + j) ∧ I 110 t = nI w ∧ chain I sd t R)
def pC (I : MI) : Prop := ∃ k, k ≤ 10 ∧ I 67 4 = nI k ∧ I 99 9 = nI k ∧ ∃ (sd : Nat → Nat) (R : Nat → Nat → Nat), (∀ b, b < 6 → sd b ≤ 6 ∧ I 103 b = nI (sd b) ∧ ∀ i, i < sd b → R b i < 2 ^ sd b ∧ I 104 (6 * b + i) = nI (R b i)) ∧ chain I sd k R
def pX (I : MI) : Prop := ∃ n, n ≤ 80 ∧ I 72 1 = nI n ∧ I 99 13 = nI n ∧ ∀ i, i < n → ∃ c, c ≤ 127 ∧ I 73 i = nI c ∧ I 111 i = nI c
def pP (I : MI) : Prop := ∃ n, n ≤ 12 ∧ I 76 1 = nI n ∧ I 99 15 = nI n ∧ ∀ i, i < n → I 77 i = I 112 i
def pR (I : MI) (L : ML) : Prop := ∀ t, t < 6 → ∃ n, n ≤ 60 ∧ I (79 + 2 * t) 1 = nI n ∧ I 114 t = nI n ∧ I (79 + 2 * t) 0 = I 113 t ∧ ((I 113 t = -1 ∧ n = 0) ∨ ∃ s, s ≤ 4 ∧ I 113 t = nI s) ∧ ∀ i, i < n → L (80 + 2 * t) i = L 115 (60 * t + i)
def depG (b j : Nat) : Prop := (b = 0 ∧ j = 2) ∨ (b = 99 ∧ j = 20)
def depW (b j : Nat) : Prop := (10 ≤ b ∧ b < 34 ∧ (b % 4 = 2 ∨ b % 4 = 3)) ∨ b = 100 ∨ b = 101
def depWi (b j : Nat) : Prop := (b = 0 ∧ j = 2) ∨ (43 ≤ b ∧ b < 67 ∧ (b % 4 = 3 ∨ b % 4 = 0)) ∨ b = 116 ∨ b = 117
def depB (b j : Nat) : Prop := (12 ≤ b ∧ b < 34 ∧ (b % 4 = 0 ∨ b % 4 = 1)) ∨ b = 103 ∨ b = 104
def depBi (b j : Nat) : Prop := (b = 0 ∧ j = 2) ∨ (45 ≤ b ∧ b < 67 ∧ (b % 4 = 1 ∨ b % 4 = 2)) ∨ b = 119 ∨ b = 120
def depT (b j : Nat) : Prop := b = 7 ∨ b = 105
def depTi (b j : Nat) : Prop := (b = 0 ∧ j = 2) ∨ b = 40 ∨ b = 121
def depN (b j : Nat) : Prop := (b = 1 ∧ j = 6) ∨ (b = 99 ∧ j = 6) ∨ b = 8 ∨ b = 106 ∨ b = 9 ∨ b = 107
def depNi (b j : Nat) : Prop := (b = 0 ∧ j = 2) ∨ (b = 34 ∧ j = 6) ∨ (b = 99 ∧ j = 27) ∨ b = 41 ∨ b = 122 ∨ b = 42 ∨ b = 123
def depC (b j : Nat) : Prop := (b = 67 ∧ j = 4) ∨ (b = 99 ∧ j = 9) ∨ (68 ≤ b ∧ b ≤ 71) ∨ (108 ≤ b ∧ b ≤ 110) ∨ b = 103 ∨ b = 104
def depX (b j : Nat) : Prop := (b = 72 ∧ j = 1) ∨ (b = 99 ∧ j = 13) ∨ b = 73 ∨ b = 111
def depP (b j : Nat) : Prop := (b = 76 ∧ j = 1) ∨ (b = 99 ∧ j = 15) ∨ b = 77 ∨ b = 112
def depR (b j : Nat) : Prop := (79 ≤ b ∧ b < 91 ∧ b % 2 = 1) ∨ b = 113 ∨ b = 114
def depRL (b j : Nat) : Prop := (80 ≤ b ∧ b < 91 ∧ b % 2 = 0) ∨ b = 115
def depI (b j : Nat) : Prop := b = 0 ∧ j = 2
section FR
variable {S : Nat → Nat → Prop} {SL : Nat → Nat → Prop} {I I' : MI} {L L' : ML}
theorem fr.at (h : fr S I I') {D : Nat → Nat → Prop} (hd : ∀ b j, S b j → ¬ D b j) {b j : Nat} (q : D b j) : I' b j = I b j := h b j (fun s => hd b j s q)
theorem frL.at (h : frL S L L') {D : Nat → Nat → Prop} (hd : ∀ b j, S b j → ¬ D b j) {b j : Nat} (q : D b j) : L' b j = L b j := h b j (fun s => hd b j s q)
theorem WP_eq {a mm mw w : Nat} (h1 : I' a 1 = I a 1) (h2 : ∀ i, I' (a + 1) i = I (a + 1) i) (h3 : I' mm w = I mm w) (h4 : ∀ i, i < 12 → I' mw (12 * w + i) = I mw (12 * w + i)) (h : WP I a mm mw w) : WP I' a mm mw w := by
  obtain ⟨l, hl, hb, ⟨c1, c2⟩, ⟨m1, m2⟩⟩ := h
  refine ⟨l, hl, hb, ⟨h1.trans c1, fun i x hx => (h2 i).trans (c2 i x hx)⟩, ⟨h3.trans m1, fun i x hx => ?_⟩⟩
  have hi := (List.getElem?_eq_some_iff.mp hx).1
  exact (h4 i (by omega)).trans (m2 i x hx)
theorem BP_eq {a ms mb b : Nat} (h1 : I' a 0 = I a 0) (h2 : ∀ i, I' (a + 1) i = I (a + 1) i) (h3 : I' ms b = I ms b) (h4 : ∀ i, i < 6 → I' mb (6 * b + i) = I mb (6 * b + i)) (h : BP I a ms mb b) : BP I' a ms mb b := by
  obtain ⟨n, r, n1, n6, hr, ⟨c1, c2⟩, ⟨m1, m2⟩⟩ := h
  exact ⟨n, r, n1, n6, hr, ⟨h1.trans c1, fun i hi => (h2 i).trans (c2 i hi)⟩, ⟨h3.trans m1, fun i hi => (h4 i (by omega)).trans (m2 i hi)⟩⟩
theorem pG_fr (h : fr S I I') (hd : ∀ b j, S b j → ¬ depG b j) (p : pG I) : pG I' := by
  have e1 : I' 0 2 = I 0 2 := h.at hd (by unfold depG; omega)
  have e2 : I' 99 20 = I 99 20 := h.at hd (by unfold depG; omega)
  unfold pG; rw [e1, e2]; exact p
theorem pW_fr (h : fr S I I') (hd : ∀ b j, S b j → ¬ depW b j) (p : pW I) : pW I' := fun w hw =>
  WP_eq (h.at hd (by unfold depW; omega)) (fun i => h.at hd (by unfold depW; omega)) (h.at hd (by unfold depW; omega)) (fun i _ => h.at hd (by unfold depW; omega)) (p w hw)
theorem pWi_fr (h : fr S I I') (hd : ∀ b j, S b j → ¬ depWi b j) (p : pWi I) : pWi I' := fun e w hw =>
  WP_eq (h.at hd (by unfold depWi; omega)) (fun i => h.at hd (by unfold depWi; omega)) (h.at hd (by unfold depWi; omega)) (fun i _ => h.at hd (by unfold depWi; omega)) (p ((h.at hd (by unfold depWi; omega)).symm.trans e) w hw)
theorem pB_fr (h : fr S I I') (hd : ∀ b j, S b j → ¬ depB b j) (p : pB I) : pB I' := fun w hw =>
  BP_eq (h.at hd (by unfold depB; omega)) (fun i => h.at hd (by unfold depB; omega)) (h.at hd (by unfold depB; omega)) (fun i _ => h.at hd (by unfold depB; omega)) (p w hw)
theorem pBi_fr (h : fr S I I') (hd : ∀ b j, S b j → ¬ depBi b j) (p : pBi I) : pBi I' := fun e w hw =>
  BP_eq (h.at hd (by unfold depBi; omega)) (fun i => h.at hd (by unfold depBi; omega)) (h.at hd (by unfold depBi; omega)) (fun i _ => h.at hd (by unfold depBi; omega)) (p ((h.at hd (by unfold depBi; omega)).symm.trans e) w hw)
theorem SP_fr {a m : Nat} (h : frL SL L L') (hd : ∀ b j, SL b j → ¬ (b = a ∨ b = m)) (p : SP L a m) : SP L' a m := fun q hq => by
  rw [h.at (D := fun b _ => b = a ∨ b = m) hd (Or.inl rfl), h.at (D := fun b _ => b = a ∨ b = m) hd (Or.inr rfl)]
  exact p q hq
theorem pS_fr (h : frL SL L L') (hd : ∀ b j, SL b j → ¬ (b = 4 ∨ b = 102)) (p : pS L) : pS L' := SP_fr h hd p
theorem pSi_fr (h0 : fr S I I') (hd0 : ∀ b j, S b j → ¬ depI b j) (h : frL SL L L') (hd : ∀ b j, SL b j → ¬ (b = 37 ∨ b = 118)) (p : pSi I L) : pSi I' L' := fun e => SP_fr h hd (p ((h0.at hd0 ⟨rfl, rfl⟩).symm.trans e))
theorem TP_fr {a m : Nat} (h : fr S I I') (hd : ∀ b j, S b j → ¬ (b = a ∨ b = m)) (p : TP I a m) : TP I' a m := fun q hq => by
  rw [h.at (D := fun b _ => b = a ∨ b = m) hd (Or.inl rfl), h.at (D := fun b _ => b = a ∨ b = m) hd (Or.inr rfl)]
  exact p q hq
theorem pT_fr (h : fr S I I') (hd : ∀ b j, S b j → ¬ depT b j) (p : pT I) : pT I' := TP_fr h hd p
theorem pTi_fr (h : fr S I I') (hd : ∀ b j, S b j → ¬ depTi b j) (p : pTi I) : pTi I' := fun e => TP_fr h (fun b j s q => hd b j s (by unfold depTi; omega)) (p ((h.at hd (by unfold depTi; omega)).symm.trans e))
theorem NP_eq {o mo a1 m1 a2 m2 : Nat} (h1 : I' o 6 = I o 6) (h2 : I' 99 mo = I 99 mo) (h3 : ∀ s, I' a1 s = I a1 s) (h4 : ∀ s, I' m1 s = I m1 s) (h5 : ∀ s, I' a2 s = I a2 s) (h6 : ∀ s, I' m2 s = I m2 s) (p : NP I o mo a1 m1 a2 m2) : NP I' o mo a1 m1 a2 m2 := by
  obtain ⟨k, hk, q1, q2, q3⟩ := p
  refine ⟨k, hk, h1.trans q1, h2.trans q2, fun s hs => ?_⟩
  obtain ⟨q, c, r1, r2, r3, r4, r5, r6⟩ := q3 s hs
  exact ⟨q, c, r1, r2, (h3 s).trans r3, (h4 s).trans r4, (h5 s).trans r5, (h6 s).trans r6⟩
theorem pN_fr (h : fr S I I') (hd : ∀ b j, S b j → ¬ depN b j) (p : pN I) : pN I' :=
  NP_eq (h.at hd (by unfold depN; omega)) (h.at hd (by unfold depN; omega)) (fun s => h.at hd (by unfold depN; omega)) (fun s => h.at hd (by unfold depN; omega)) (fun s => h.at hd (by unfold depN; omega)) (fun s => h.at hd (by unfold depN; omega)) p
theorem pNi_fr (h : fr S I I') (hd : ∀ b j, S b j → ¬ depNi b j) (p : pNi I) : pNi I' := fun e =>
  NP_eq (h.at hd (by unfold depNi; omega)) (h.at hd (by unfold depNi; omega)) (fun s => h.at hd (by unfold depNi; omega)) (fun s => h.at hd (by unfold depNi; omega)) (fun s => h.at hd (by unfold depNi; omega)) (fun s => h.at hd (by unfold depNi; omega)) (p ((h.at hd (by unfold depNi; omega)).symm.trans e))
theorem chain_eq {sd : Nat → Nat} (h : ∀ b j, (68 ≤ b ∧ b ≤ 71) ∨ (108 ≤ b ∧ b ≤ 110) → I' b j = I b j) : ∀ (t : Nat) (R : Nat → Nat → Nat), chain I sd t R → chain I' sd t R := by
  intro t
  induction t with
  | zero => intro R _; trivial
  | succ t ih =>
    intro R p
    rcases p with ⟨b, i, j, q1, q2, q3, q4, q5, q6, q7, q8, q9, q10⟩ | ⟨i, j, w, q1, q2, q3, q4, q5, q6, q7, q8, q9, q10, q11⟩
    · exact Or.inl ⟨b, i, j, q1, q2, q3, (h _ _ (by omega)).trans q4, (h _ _ (by omega)).trans q5, (h _ _ (by omega)).trans q6, (h _ _ (by omega)).trans q7, (h _ _ (by omega)).trans q8, (h _ _ (by omega)).trans q9, ih _ q10⟩
    · exact Or.inr ⟨i, j, w, q1, q2, q3, (h _ _ (by omega)).trans q4, (h _ _ (by omega)).trans q5, (h _ _ (by omega)).trans q6, (h _ _ (by omega)).trans q7, (h _ _ (by omega)).trans q8, (h _ _ (by omega)).trans q9, (h _ _ (by omega)).trans q10, ih _ q11⟩
theorem pC_fr (h : fr S I I') (hd : ∀ b j, S b j → ¬ depC b j) (p : pC I) : pC I' := by
  obtain ⟨k, hk, q1, q2, sd, R, q3, q4⟩ := p
  refine ⟨k, hk, (h.at hd (by unfold depC; omega)).trans q1, (h.at hd (by unfold depC; omega)).trans q2, sd, R, fun b hb => ⟨(q3 b hb).1, (h.at hd (by unfold depC; omega)).trans (q3 b hb).2.1, fun i hi => ⟨((q3 b hb).2.2 i hi).1, (h.at hd (by unfold depC; omega)).trans ((q3 b hb).2.2 i hi).2⟩⟩, chain_eq (fun b j q => h.at hd (by unfold depC; omega)) _ _ q4⟩
theorem pX_fr (h : fr S I I') (hd : ∀ b j, S b j → ¬ depX b j) (p : pX I) : pX I' := by
  obtain ⟨n, hn, q1, q2, q3⟩ := p
  refine ⟨n, hn, (h.at hd (by unfold depX; omega)).trans q1, (h.at hd (by unfold depX; omega)).trans q2, fun i hi => ?_⟩
  obtain ⟨c, r1, r2, r3⟩ := q3 i hi
  exact ⟨c, r1, (h.at hd (by unfold depX; omega)).trans r2, (h.at hd (by unfold depX; omega)).trans r3⟩
theorem pP_fr (h : fr S I I') (hd : ∀ b j, S b j → ¬ depP b j) (p : pP I) : pP I' := by
  obtain ⟨n, hn, q1, q2, q3⟩ := p
  refine ⟨n, hn, (h.at hd (by unfold depP; omega)).trans q1, (h.at hd (by unfold depP; omega)).trans q2, fun i hi => ?_⟩
  rw [h.at hd (show depP 77 i by unfold depP; omega), h.at hd (show depP 112 i by unfold depP; omega)]
  exact q3 i hi
theorem pR_fr (h : fr S I I') (hd : ∀ b j, S b j → ¬ depR b j) (hL : frL SL L L') (hdL : ∀ b j, SL b j → ¬ depRL b j) (p : pR I L) : pR I' L' := by
  intro t ht
  obtain ⟨n, hn, q1, q2, q3, q4, q5⟩ := p t ht
  have e1 : I' 113 t = I 113 t := h.at hd (by unfold depR; omega)
  refine ⟨n, hn, (h.at hd (by unfold depR; omega)).trans q1, (h.at hd (by unfold depR; omega)).trans q2, ?_, ?_, fun i hi => ?_⟩
  · rw [e1, h.at hd (show depR (79 + 2 * t) 0 by unfold depR; omega)]; exact q3
  · rw [e1]; exact q4
  · rw [hL.at hdL (show depRL (80 + 2 * t) i by unfold depRL; omega), hL.at hdL (show depRL 115 (60 * t + i) by unfold depRL; omega)]; exact q5 i hi
end FR
