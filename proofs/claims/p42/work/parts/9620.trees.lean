/-! the dice make trees -/
/-- what is done by the dice p: only its number changes; what is new stands behind -/
def Sd (p x y : Nat) (S S' : ZS) : Prop := S'.g = S.g ∧ S.n ≤ S'.n ∧ (∀ o, o < S.n → S'.K o = S.K o ∧ (o ≠ p → S'.i o = S.i o ∧ S'.r o = S.r o)) ∧ S'.c ≤ S.c ∧ S.c ≤ S'.c + x ∧ S'.w ≤ S.w ∧ S.w ≤ S'.w + y
theorem Sd.refl {p : Nat} {S : ZS} : Sd p 0 0 S S := ⟨rfl, Nat.le_refl _, fun _ _ => ⟨rfl, fun _ => ⟨rfl, rfl⟩⟩, Nat.le_refl _, Nat.le_refl _, Nat.le_refl _, Nat.le_refl _⟩
theorem Sd.trans {p x y x' y' : Nat} {S S1 S2 : ZS} (h : Sd p x y S S1) (h' : Sd p x' y' S1 S2) : Sd p (x + x') (y + y') S S2 := by
  obtain ⟨a1, a2, a3, a4, a5, a6, a7⟩ := h
  obtain ⟨b1, b2, b3, b4, b5, b6, b7⟩ := h'
  refine ⟨b1.trans a1, Nat.le_trans a2 b2, fun o ho => ?_, by omega, by omega, by omega, by omega⟩
  obtain ⟨c1, c2⟩ := a3 o ho
  obtain ⟨d1, d2⟩ := b3 o (by omega)
  refine ⟨d1.trans c1, fun hq => ?_⟩
  obtain ⟨e1, e2⟩ := c2 hq
  obtain ⟨f1, f2⟩ := d2 hq
  exact ⟨f1.trans e1, f2.trans e2⟩
theorem Sd.mono {p x y x' y' : Nat} {S S1 : ZS} (h : Sd p x y S S1) (hx : x ≤ x') (hy : y ≤ y') : Sd p x' y' S S1 := by
  obtain ⟨a1, a2, a3, a4, a5, a6, a7⟩ := h
  exact ⟨a1, a2, a3, a4, by omega, a6, by omega⟩
theorem Sd.new {p kind sl : Nat} {S : ZS} {f : Nat → Int32} (hc : 1 ≤ S.c) (hw : sl ≤ S.w) : Sd p 1 sl S (S.new kind sl f) := by
  have h : Ste NO 1 sl S (S.new kind sl f) := Ste.new hc hw
  obtain ⟨a1, a2, a3, a4⟩ := h
  exact ⟨a1, a2, fun o ho => ⟨(a3 o ho).1, fun _ => (a3 o ho).2 (fun z => z)⟩, a4⟩
theorem Sd.q {p x y : Nat} {S S' : ZS} (h : Sd p x y S S') (hp : S.K p = 11) : Ste QDc x y S S' := by
  obtain ⟨a1, a2, a3, a4⟩ := h
  exact ⟨a1, a2, fun o ho => ⟨(a3 o ho).1, fun z => (a3 o ho).2 (fun e => z (by rw [e]; exact hp))⟩, a4⟩
theorem OB.sd {p x y c pos : Nat} {S S' : ZS} (h : OB S c pos) (s : Sd p x y S S') : OB S' c pos := ⟨h.1, Nat.lt_of_lt_of_le h.2.1 s.2.1, by rw [(s.2.2.1 _ h.2.1).1]; exact h.2.2⟩
theorem k_nextd {S : ZS} {r k : Nat} (h : OB S r 11) (hk : 0 < k) (hk2 : k < 2 ^ 31) : ∃ j S', kX9_next r (nI k) S = some (nI j, S') ∧ j < k ∧ Sd (r / 2) 0 0 S S' ∧ S'.n = S.n ∧ S'.r = S.r := by
  obtain ⟨S1, eS1⟩ : ∃ z, z = S.wi (r / 2) 0 ((S.i (r / 2) 0 * 1103515245) + 12345) := ⟨_, rfl⟩
  have s1 : Sd (r / 2) 0 0 S S1 := by
    rw [eS1]
    exact ⟨rfl, Nat.le_refl _, fun o _ => ⟨rfl, fun n1 => ⟨wi_ne n1, rfl⟩⟩, Nat.le_refl _, Nat.le_refl _, Nat.le_refl _, Nat.le_refl _⟩
  have h1 : OB S1 r 11 := h.sd s1
  obtain ⟨j, e, hj⟩ := k_below (S := S1) (x := S1.i (r / 2) 0 >>> (9 &&& 31)) hk hk2
  refine ⟨j, S1, ?_, hj, s1, by rw [eS1]; rfl, by rw [eS1]; rfl⟩
  unfold kX9_next
  have hle : S1.c ≤ S.c ∧ S1.w ≤ S.w := ⟨s1.2.2.2.1, s1.2.2.2.2.2.1⟩
  refine chk_of ?_ hle.1 hle.2
  rw [gI_o h, pI_o h, ← eS1, gI_o h1, e, b2_s]
  exact chk_of rfl (Nat.le_refl _) (Nat.le_refl _)
/-- the objects from m on, below m', are the same -/
def Ag (m m' : Nat) (S S' : ZS) : Prop := ∀ o, m ≤ o → o < m' → S'.K o = S.K o ∧ S'.i o = S.i o ∧ S'.r o = S.r o
theorem Ag.trans {m m' : Nat} {S S1 S2 : ZS} (h : Ag m m' S S1) (h' : Ag m m' S1 S2) : Ag m m' S S2 := fun o a b => by
  obtain ⟨h1, h2, h3⟩ := h o a b
  obtain ⟨k1, k2, k3⟩ := h' o a b
  exact ⟨k1.trans h1, k2.trans h2, k3.trans h3⟩
theorem Ag.sub {m m' n n' : Nat} {S S' : ZS} (h : Ag m m' S S') (h1 : m ≤ n) (h2 : n' ≤ m') : Ag n n' S S' := fun o a b => h o (by omega) (by omega)
theorem Sd.ag {p x y m m' : Nat} {S S' : ZS} (s : Sd p x y S S') (hp : p < m) (hm : m' ≤ S.n) : Ag m m' S S' := fun o a b => by
  obtain ⟨h1, h2⟩ := s.2.2.1 o (by omega)
  obtain ⟨h3, h4⟩ := h2 (by omega)
  exact ⟨h1, h3, h4⟩
/-- a tree made between S and S': it stays as long as what is new stays -/
def FTx (N d : Nat) (b : Bool) (S S' : ZS) (c : Nat) (l : List SS) (i : List It) : Prop := ∀ S'', S'.n ≤ S''.n → Ag S.n S'.n S' S'' → TX N d b S'' c l i
theorem FTx.tx {N d : Nat} {b : Bool} {S S' : ZS} {c : Nat} {l : List SS} {i : List It} (h : FTx N d b S S' c l i) : TX N d b S' c l i := h S' (Nat.le_refl _) (fun _ _ _ => ⟨rfl, rfl, rfl⟩)
theorem FTx.up {N d d' : Nat} {b : Bool} {S S' : ZS} {c : Nat} {l : List SS} {i : List It} (h : FTx N d b S S' c l i) (hd : d ≤ d') : FTx N d' b S S' c l i := fun S'' h1 h2 => TX.up _ _ _ _ _ _ hd (h S'' h1 h2)
/-- a node's fields are written -/
theorem init_ok {S0 S : ZS} {p x y c c3 c4 : Nat} {a1 a2 : Int32} (ho : OB S c 12) (hn : S0.n ≤ c / 2) (s : Sd p x y S0 S) : ∃ S', kX10_init c a1 a2 c3 c4 S = some S' ∧ Sd p x y S0 S' ∧ S'.n = S.n ∧ S'.c = S.c ∧ S'.w = S.w ∧ OB S' c 12 ∧ S'.i (c / 2) 0 = a1 ∧ S'.i (c / 2) 1 = a2 ∧ S'.r (c / 2) 2 = c3 ∧ S'.r (c / 2) 3 = c4 ∧ ∀ o, o ≠ c / 2 → S'.K o = S.K o ∧ S'.i o = S.i o ∧ S'.r o = S.r o := by
  obtain ⟨S1, e1⟩ : ∃ z, z = S.wi (c / 2) 0 a1 := ⟨_, rfl⟩
  obtain ⟨S2, e2⟩ : ∃ z, z = S1.wi (c / 2) 1 a2 := ⟨_, rfl⟩
  obtain ⟨S3, e3⟩ : ∃ z, z = S2.wr (c / 2) 2 c3 := ⟨_, rfl⟩
  obtain ⟨S4, e4⟩ : ∃ z, z = S3.wr (c / 2) 3 c4 := ⟨_, rfl⟩
  have o1 : OB S1 c 12 := by rw [e1]; exact ho
  have o2 : OB S2 c 12 := by rw [e2]; exact o1
  have o3 : OB S3 c 12 := by rw [e3]; exact o2
  have o4 : OB S4 c 12 := by rw [e4]; exact o3
  have hi : S4.i = up (up S.i (c / 2) 0 a1) (c / 2) 1 a2 := by rw [e4, e3, e2, e1]; rfl
  have hr : S4.r = ur (ur S.r (c / 2) 2 c3) (c / 2) 3 c4 := by rw [e4, e3, e2, e1]; rfl
  have hk : S4.K = S.K ∧ S4.n = S.n ∧ S4.c = S.c ∧ S4.w = S.w ∧ S4.g = S.g := by rw [e4, e3, e2, e1]; exact ⟨rfl, rfl, rfl, rfl, rfl⟩
  have hne : ∀ o, o ≠ c / 2 → S4.K o = S.K o ∧ S4.i o = S.i o ∧ S4.r o = S.r o := fun o h => ⟨by rw [hk.1], by rw [hi, up_ne h, up_ne h], by rw [hr, ur_ne h, ur_ne h]⟩
  refine ⟨S4, ?_, ?_, hk.2.1, hk.2.2.1, hk.2.2.2.1, o4, by rw [hi, up_slot (by decide), up_self], by rw [hi, up_self], by rw [hr, ur_slot (by decide), ur_self], by rw [hr, ur_self], hne⟩
  · unfold kX10_init
    refine chk_of ?_ (show S4.c ≤ S.c by omega) (show S4.w ≤ S.w by omega)
    rw [pI_o ho, ← e1, pI_o o1, ← e2, pR_o o2, ← e3, pR_o o3, ← e4]
  · obtain ⟨a1, a2, a3, a4, a5, a6, a7⟩ := s
    refine ⟨hk.2.2.2.2.trans a1, by omega, fun o h => ⟨(hne o (by omega)).1.trans (a3 o h).1, fun z => ?_⟩, by omega, by omega, by omega, by omega⟩
    obtain ⟨q1, q2⟩ := (a3 o h).2 z
    exact ⟨(hne o (by omega)).2.1.trans q1, (hne o (by omega)).2.2.trans q2⟩
theorem init_ZZ {c : Nat} {a1 a2 : Int32} {S : ZS} : kX10_init_ZZ c a1 a2 S = kX10_init c a1 a2 0 0 S := rfl
theorem init_Z {c c3 : Nat} {a1 a2 : Int32} {S : ZS} : kX10_init_Z c a1 a2 c3 S = kX10_init c a1 a2 c3 0 S := rfl
theorem b2_N {α ρ : Type} {pr : ρ → ZS} {S1 : ZS} {z : Option (α × ZS)} {v : α} {f : α → ZS → Option ρ} {r : ρ} (hz : z = some (v, S1)) (k : f v S1 = some r) (hc : (pr r).c ≤ S1.c) (hw : (pr r).w ≤ S1.w) : b2 pr z f = some r := by
  rw [hz]
  exact chk_of k hc hw
theorem b1_N {ρ : Type} {pr : ρ → ZS} {S1 : ZS} {z : Option ZS} {f : ZS → Option ρ} {r : ρ} (hz : z = some S1) (k : f S1 = some r) (hc : (pr r).c ≤ S1.c) (hw : (pr r).w ≤ S1.w) : b1 pr z f = some r := by
  rw [hz]
  exact chk_of k hc hw
def sC : Nat → Nat
  | 0 => 1
  | e + 1 => 2 * sC e + 1
theorem leaf_ok' {N j n : Nat} (hj : j < 9) (hn : j ≠ 0 → n < N) : leafOK N (leafS j (nI n)).1 (leafS j (nI n)).2 := by
  rcases (show j = 0 ∨ j = 1 ∨ j = 2 ∨ j = 3 ∨ j = 4 ∨ j = 5 ∨ j = 6 ∨ j = 7 ∨ j = 8 by omega) with rfl | rfl | rfl | rfl | rfl | rfl | rfl | rfl | rfl
  · exact Or.inl rfl
  · exact Or.inr (Or.inr (Or.inl rfl))
  · exact Or.inr (Or.inr (Or.inr (Or.inl rfl)))
  · exact Or.inr (Or.inr (Or.inr (Or.inr (Or.inl rfl))))
  · exact Or.inr (Or.inr (Or.inr (Or.inr (Or.inr (Or.inr ⟨by show ofM 130; unfold ofM; omega, n, hn (by omega), rfl⟩)))))
  · exact Or.inr (Or.inr (Or.inr (Or.inr (Or.inr (Or.inr ⟨by show ofM 129; unfold ofM; omega, n, hn (by omega), rfl⟩)))))
  · exact Or.inr (Or.inr (Or.inr (Or.inr (Or.inr (Or.inr ⟨by show ofM 145; unfold ofM; omega, n, hn (by omega), rfl⟩)))))
  · exact Or.inr (Or.inr (Or.inr (Or.inr (Or.inr (Or.inr ⟨by show ofM 143; unfold ofM; omega, n, hn (by omega), rfl⟩)))))
  · exact Or.inr (Or.inr (Or.inr (Or.inr (Or.inr (Or.inr ⟨by show ofM 144; unfold ofM; omega, n, hn (by omega), rfl⟩)))))
/-- a leaf is written: the node, made at S1, filled at S -/
theorem leaf_made {N d s n : Nat} {b : Bool} {S0 S : ZS} {p x y : Nat} {c : Nat} (hf : isLf b s) (hn : n < 1000000) (hl : leafOK N (leafS s (nI n)).1 (leafS s (nI n)).2) (ho : OB S c 12) (hc : S0.n ≤ c / 2) (sd : Sd p x y S0 S) : ∃ S', kX10_init_ZZ c (nI s) (nI n) S = some S' ∧ Sd p x y S0 S' ∧ S'.c = S.c ∧ S'.w = S.w ∧ FTx N (d + 1) b S0 S' c [leafS s (nI n)] (leafI s n) := by
  obtain ⟨S', e, s1, n1, c1, w1, o1, i0, i1, -, -, -⟩ := init_ok (a1 := nI s) (a2 := nI n) (c3 := 0) (c4 := 0) ho hc sd
  refine ⟨S', by rw [init_ZZ]; exact e, s1, c1, w1, fun S'' h1 h2 => ?_⟩
  obtain ⟨k1, k2, k3⟩ := h2 (c / 2) hc o1.2.1
  exact ⟨⟨o1.1, Nat.lt_of_lt_of_le o1.2.1 h1, by rw [k1]; exact o1.2.2⟩, s, by rw [k2]; exact i0, Or.inl ⟨hf, n, by rw [k2]; exact i1, hn, rfl, hl, rfl⟩⟩
