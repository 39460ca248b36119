/-! texts: strings and builders of the law's store -/
theorem sh_r0 {x : Int32} : x >>> (0 &&& 31) = x := Int32.shiftRight_zero
theorem sh_l0 {x : Int32} : x <<< (0 &&& 31) = x := Int32.shiftLeft_zero
def byT (w : List Int32) : Prop := ∀ b, b ∈ w → ∃ n, n < 128 ∧ b = nI n
theorem fit_all : ((List.range 128).all fun n => fitB (nI n)) = true := by decide +kernel
theorem fit_n {n : Nat} (h : n < 128) : fitB (nI n) = true := List.all_eq_true.mp fit_all n (List.mem_range.mpr h)
theorem byT.at {w : List Int32} (h : byT w) {j : Nat} (hj : j < w.length) : ∃ n, n < 128 ∧ w.getD j 0 = nI n := by
  obtain ⟨n, h1, h2⟩ := h _ (List.getElem_mem hj)
  exact ⟨n, h1, by rw [List.getD_eq_getElem?_getD, List.getElem?_eq_getElem hj]; exact h2⟩
theorem byT.fit {w : List Int32} (h : byT w) {j : Nat} (hj : j < w.length) : fitB (w.getD j 0) = true := by
  obtain ⟨n, h1, h2⟩ := h.at hj
  rw [h2]
  exact fit_n h1
theorem byT.app {w v : List Int32} (h : byT w) (h' : byT v) : byT (w ++ v) := fun b hb => (List.mem_append.mp hb).elim (h b) (h' b)
theorem byT.nil : byT [] := fun b hb => by cases hb
theorem getD_l {w v : List Int32} {j : Nat} (h : j < w.length) : (w ++ v).getD j 0 = w.getD j 0 := by
  rw [List.getD_eq_getElem?_getD, List.getD_eq_getElem?_getD, List.getElem?_append_left h]
theorem getD_r {w v : List Int32} {j : Nat} : (w ++ v).getD (w.length + j) 0 = v.getD j 0 := by
  rw [List.getD_eq_getElem?_getD, List.getD_eq_getElem?_getD, List.getElem?_append_right (Nat.le_add_right _ _), Nat.add_sub_cancel_left]
/-- a String: an object of the store, or one of the run's constants -/
def SX (S : ZS) (c : Nat) (w : List Int32) : Prop := byT w ∧ ((c % 2 = 1 ∧ OB S c 0 ∧ S.i (c / 2) 1 = 0 ∧ AR S (S.r (c / 2) 0) 200000 w.length ∧ ∀ j, j < w.length → S.i (S.r (c / 2) 0 / 2) j = w.getD j 0) ∨ ∃ k, c = 2 * k + 2 ∧ k < NS ∧ w = sB k)
/-- a builder: its text so far, the length of its row of bytes -/
def BX (S : ZS) (c : Nat) (w : List Int32) (cap : Nat) : Prop := OB S c 1 ∧ S.i (c / 2) 1 = 0 ∧ S.i (c / 2) 3 = nI w.length ∧ AR S (S.r (c / 2) 0) 200000 cap ∧ w.length ≤ cap ∧ byT w ∧ (∀ j, j < w.length → S.i (S.r (c / 2) 0 / 2) j = w.getD j 0) ∧ ∀ j, j < cap → fitB (S.i (S.r (c / 2) 0 / 2) j) = true
theorem sB_all : ((List.range NS).all fun k => (sB k).all fun b => (List.range 128).any fun n => decide (b = nI n)) = true := by decide +kernel
theorem sB_by {k : Nat} (h : k < NS) : byT (sB k) := by
  intro b hb
  obtain ⟨n, h1, h2⟩ := List.any_eq_true.mp (List.all_eq_true.mp (List.all_eq_true.mp sB_all k (List.mem_range.mpr h)) b hb)
  exact ⟨n, List.mem_range.mp h1, of_decide_eq_true h2⟩
theorem SX.k {S : ZS} {k : Nat} (h : k < NS) : SX S (2 * k + 2) (sB k) := ⟨sB_by h, Or.inr ⟨k, rfl, h, rfl⟩⟩
theorem SX.by' {S : ZS} {c : Nat} {w : List Int32} (h : SX S c w) : byT w := h.1
theorem BX.o {S : ZS} {c cap : Nat} {w : List Int32} (h : BX S c w cap) : OB S c 1 := h.1
theorem BX.ar {S : ZS} {c cap : Nat} {w : List Int32} (h : BX S c w cap) : AR S (S.r (c / 2) 0) 200000 cap := h.2.2.2.1
theorem BX.ne {S : ZS} {c cap : Nat} {w : List Int32} (h : BX S c w cap) : S.r (c / 2) 0 / 2 ≠ c / 2 := h.ar.neO h.o (by omega)
/-- what a builder's method leaves -/
def Fb (c x y : Nat) (S S' : ZS) : Prop := S'.g = S.g ∧ S.n ≤ S'.n ∧ (∀ o, o < S.n → S'.K o = S.K o ∧ (o ≠ c / 2 → o ≠ S.r (c / 2) 0 / 2 → S'.i o = S.i o ∧ S'.r o = S.r o)) ∧ (S'.r (c / 2) 0 / 2 = S.r (c / 2) 0 / 2 ∨ S.n ≤ S'.r (c / 2) 0 / 2) ∧ S'.c ≤ S.c ∧ S.c ≤ S'.c + x ∧ S'.w ≤ S.w ∧ S.w ≤ S'.w + y
theorem Fb.refl {c : Nat} {S : ZS} : Fb c 0 0 S S := ⟨rfl, Nat.le_refl _, fun _ _ => ⟨rfl, fun _ _ => ⟨rfl, rfl⟩⟩, Or.inl rfl, Nat.le_refl _, Nat.le_refl _, Nat.le_refl _, Nat.le_refl _⟩
theorem Fb.trans {c x y x' y' : Nat} {S S1 S2 : ZS} (h : Fb c x y S S1) (h' : Fb c x' y' S1 S2) : Fb c (x + x') (y + y') S S2 := by
  obtain ⟨a1, a2, a3, a4, a5, a6, a7, a8⟩ := h
  obtain ⟨b1, b2, b3, b4, b5, b6, b7, b8⟩ := h'
  refine ⟨b1.trans a1, Nat.le_trans a2 b2, fun o ho => ?_, ?_, by omega, by omega, by omega, by omega⟩
  · obtain ⟨c1, c2⟩ := a3 o ho
    obtain ⟨d1, d2⟩ := b3 o (by omega)
    refine ⟨d1.trans c1, fun n1 n2 => ?_⟩
    obtain ⟨e1, e2⟩ := c2 n1 n2
    obtain ⟨f1, f2⟩ := d2 n1 (by rcases a4 with z | z <;> omega)
    exact ⟨f1.trans e1, f2.trans e2⟩
  · rcases b4 with z | z
    · rcases a4 with y | y
      · exact Or.inl (z.trans y)
      · exact Or.inr (by omega)
    · exact Or.inr (by omega)
theorem Fb.mono {c x y x' y' : Nat} {S S1 : ZS} (h : Fb c x y S S1) (hx : x ≤ x') (hy : y ≤ y') : Fb c x' y' S S1 := by
  obtain ⟨a1, a2, a3, a4, a5, a6, a7, a8⟩ := h
  exact ⟨a1, a2, a3, a4, a5, by omega, a7, by omega⟩
/-- .. where the builder was made behind S0 -/
theorem Fb.ste {c x y a b : Nat} {S0 S S' : ZS} (s : Ste NO a b S0 S) (h : Fb c x y S S') (h1 : S0.n ≤ c / 2) (h2 : S0.n ≤ S.r (c / 2) 0 / 2) : Ste NO (a + x) (b + y) S0 S' ∧ S0.n ≤ S'.r (c / 2) 0 / 2 := by
  obtain ⟨a1, a2, a3, a4, a5, a6, a7, a8⟩ := h
  obtain ⟨b1, b2, b3, b4, b5, b6, b7⟩ := s
  refine ⟨⟨a1.trans b1, Nat.le_trans b2 a2, fun o ho => ?_, by omega, by omega, by omega, by omega⟩, ?_⟩
  · obtain ⟨c1, c2⟩ := b3 o ho
    obtain ⟨d1, d2⟩ := a3 o (by omega)
    refine ⟨d1.trans c1, fun z => ?_⟩
    obtain ⟨e1, e2⟩ := c2 z
    obtain ⟨f1, f2⟩ := d2 (by omega) (by omega)
    exact ⟨f1.trans e1, f2.trans e2⟩
  · rcases a4 with z | z <;> omega
def QB : Nat → Prop := fun k => k = 1 ∨ (200000 ≤ k ∧ k < 300000)
theorem Fb.q {c x y cap : Nat} {w : List Int32} {S S' : ZS} (h : Fb c x y S S') (hb : BX S c w cap) : Ste QB x y S S' := by
  obtain ⟨a1, a2, a3, a4, a5, a6, a7, a8⟩ := h
  refine ⟨a1, a2, fun o ho => ⟨(a3 o ho).1, fun z => (a3 o ho).2 (fun e => z ?_) (fun e => z ?_)⟩, a5, a6, a7, a8⟩
  · rw [e, hb.o.2.2]; exact Or.inl rfl
  · rw [e, hb.ar.2.2.1]
    have := hb.ar.2.2.2
    exact Or.inr (by omega)
theorem SX.no {S S' : ZS} {x y c : Nat} {w : List Int32} (h : SX S c w) (s : Ste NO x y S S') : SX S' c w := by
  refine ⟨h.1, h.2.imp (fun ⟨a1, a2, a3, a4, a5⟩ => ?_) id⟩
  obtain ⟨e1, e2⟩ := s.old a2.2.1
  exact ⟨a1, a2.ste s, by rw [e1]; exact a3, by rw [e2]; exact a4.ste s, fun j hj => by rw [e2, (s.old a4.2.1).1]; exact a5 j hj⟩
theorem BX.no {S S' : ZS} {x y c cap : Nat} {w : List Int32} (h : BX S c w cap) (s : Ste NO x y S S') : BX S' c w cap ∧ S'.r (c / 2) 0 = S.r (c / 2) 0 := by
  obtain ⟨a1, a2, a3, a4, a5, a6, a7, a8⟩ := h
  obtain ⟨e1, e2⟩ := s.old a1.2.1
  refine ⟨⟨a1.ste s, by rw [e1]; exact a2, by rw [e1]; exact a3, by rw [e2]; exact a4.ste s, a5, a6, fun j hj => ?_, fun j hj => ?_⟩, by rw [e2]⟩
  · rw [e2, (s.old a4.2.1).1]; exact a7 j hj
  · rw [e2, (s.old a4.2.1).1]; exact a8 j hj
/-- the row of bytes is written -/
theorem BX.put {S : ZS} {c cap : Nat} {w v : List Int32} {f : Nat → Int32} (h : BX S c w cap) (hv : byT v) (hl : w.length + v.length ≤ cap) (h1 : ∀ j, j < w.length → f j = S.i (S.r (c / 2) 0 / 2) j) (h2 : ∀ j, j < v.length → f (w.length + j) = v.getD j 0) (h3 : ∀ j, j < cap → fitB (f j) = true) : BX ((S.wa (S.r (c / 2) 0 / 2) f).wi (c / 2) 3 (nI (w.length + v.length))) c (w ++ v) cap := by
  obtain ⟨a1, a2, a3, a4, a5, a6, a7, a8⟩ := id h
  have ne := h.ne
  obtain ⟨S1, eS1⟩ : ∃ z, z = (S.wa (S.r (c / 2) 0 / 2) f).wi (c / 2) 3 (nI (w.length + v.length)) := ⟨_, rfl⟩
  have er : S1.r = S.r := by rw [eS1]; rfl
  have ei : S1.i (S.r (c / 2) 0 / 2) = f := by
    rw [eS1]
    exact (wi_ne ne).trans wa_eq
  have ec : ∀ k, k ≠ 3 → S1.i (c / 2) k = S.i (c / 2) k := fun k hk => by
    rw [eS1]
    show up (S.wa (S.r (c / 2) 0 / 2) f).i (c / 2) 3 _ (c / 2) k = _
    rw [up_slot hk, wa_ne (Ne.symm ne)]
  have e3 : S1.i (c / 2) 3 = nI (w.length + v.length) := by rw [eS1]; exact up_self
  rw [← eS1]
  refine ⟨by rw [eS1]; exact a1, by rw [ec 1 (by decide)]; exact a2, by rw [e3, List.length_append], by rw [er, eS1]; exact a4, by rw [List.length_append]; exact hl, a6.app hv, fun j hj => ?_, fun j hj => ?_⟩
  · rw [er, ei]
    rw [List.length_append] at hj
    by_cases e : j < w.length
    · rw [h1 j e, a7 j e, getD_l e]
    · obtain ⟨i, rfl⟩ : ∃ i, j = w.length + i := ⟨j - w.length, by omega⟩
      rw [h2 i (by omega), getD_r]
  · rw [er, ei]
    exact h3 j hj
theorem Fb.put {S : ZS} {c cap x : Nat} {w : List Int32} {v : Int32} {f : Nat → Int32} (h : BX S c w cap) : Fb c 0 0 S ((S.wa (S.r (c / 2) 0 / 2) f).wi (c / 2) x v) :=
  ⟨rfl, Nat.le_refl _, fun o _ => ⟨rfl, fun n1 n2 => ⟨(wi_ne n1).trans (wa_ne n2), rfl⟩⟩, Or.inl rfl, Nat.le_refl _, Nat.le_refl _, Nat.le_refl _, Nat.le_refl _⟩
theorem okA_of {S : ZS} {c base n : Nat} (h : AR S c base n) : okA S c base = true := h.ok
theorem newLen {S : ZS} {a b : Nat} (ha : a < 100000) (hb : b < 100000) : kJ8_newLength_cabcc (nI a) (nI b) (nI (a + 2)) S = some (nI (a + (if b < a + 2 then a + 2 else b)), S) := by
  unfold kJ8_newLength_cabcc
  refine chk_of ?_ (Nat.le_refl _) (Nat.le_refl _)
  have e : (if nI b < nI (a + 2) then nI (a + 2) else nI b) = nI (if b < a + 2 then a + 2 else b) := by
    by_cases z : b < a + 2
    · rw [if_pos ((nI_ltI (by omega) (by omega)).mpr z), if_pos z]
    · rw [if_neg (fun y => z ((nI_ltI (by omega) (by omega)).mp y)), if_neg z]
  have hlt : a + (if b < a + 2 then a + 2 else b) < 400000 := by split <;> omega
  rw [bd_eq, bd_eq, e, nI_plus]
  have h1 : ¬ nI (a + (if b < a + 2 then a + 2 else b)) ≤ 0 := by
    rw [show (0 : Int32) = nI 0 from rfl, nI_leI (by omega) (by omega)]
    split <;> omega
  have h2 : ¬ (2147483639 : Int32) < nI (a + (if b < a + 2 then a + 2 else b)) := by
    rw [show (2147483639 : Int32) = nI 2147483639 from rfl, nI_ltI (by omega) (by omega)]
    omega
  rw [if_neg h1, if_neg h2]
theorem nI_sub' {a b : Nat} (h : a ≤ b) : nI b - nI a = nI (b - a) := by
  obtain ⟨c, rfl⟩ : ∃ c, b = a + c := ⟨b - a, by omega⟩
  rw [nI_sub, Nat.add_sub_cancel_left]
theorem newCap {S : ZS} {c cap need : Nat} {w : List Int32} (h : BX S c w cap) (hn : need < 50000) (hlt : cap < need) : kJ5_newCapacity_0f7a4 c (nI need) S = some (nI (if need < 2 * cap + 2 then 2 * cap + 2 else need), S) := by
  obtain ⟨a1, a2, a3, a4, a5, a6, a7, a8⟩ := id h
  unfold kJ5_newCapacity_0f7a4
  refine chk_of ?_ (Nat.le_refl _) (Nat.le_refl _)
  have e2 : nI cap + (2 <<< ((0 : Int32) &&& 31)) = nI (cap + 2) := by
    rw [sh_l0, show (2 : Int32) = nI 2 from rfl, nI_plus]
  rw [gN_o a1 a4.ne0, aL_n a4, gI_o a1, a2, bd_eq, bd_eq, gI_o a1, a2, sh_l0, e2, nI_sub' (by omega), newLen (by omega) (by omega), b2_s]
  refine chk_of ?_ (Nat.le_refl _) (Nat.le_refl _)
  have e3 : cap + (if need - cap < cap + 2 then cap + 2 else need - cap) = (if need < 2 * cap + 2 then 2 * cap + 2 else need) := by
    split <;> split <;> omega
  rw [e3]
  have hb : (if need < 2 * cap + 2 then 2 * cap + 2 else need) < 200000 := by split <;> omega
  rw [if_neg (by rw [show (2147483647 : Int32) = nI 2147483647 from rfl, nI_eq (by omega) (by omega)]; omega), gI_o a1, a2, sh_r0]
theorem copyUp {S : ZS} {c cap cap' : Nat} (h : AR S c 200000 cap) (hf : ∀ j, j < cap → fitB (S.i (c / 2) j) = true) (hlt : cap < cap') (hc' : cap' < 100000) (hc : 1 ≤ S.c) (hw : cap' ≤ S.w) : kJ7_copyOf_9075b c (nI cap') S = some (2 * S.n + 1, (S.new (200000 + cap') cap' z0).wa S.n (va_cpy (S.i (c / 2)) z0 0 0 cap)) := by
  have hcap := h.2.2.2
  unfold kJ7_copyOf_9075b
  have h1 : AR (S.new (200000 + cap') cap' z0) c 200000 cap := h.new
  have h2 : AR (S.new (200000 + cap') cap' z0) (2 * S.n + 1) 200000 cap' := AR.mk hc'
  refine chk_of ?_ (Nat.sub_le _ _) (Nat.sub_le _ _)
  rw [aL_n h, if_neg (by rw [nI_eq (by omega) (by omega)]; omega), nA_n hc' hc hw]
  refine chk_of ?_ (Nat.le_refl _) (Nat.le_refl _)
  rw [aL_n h1, bd_eq]
  have e : (if nI cap' < nI cap then nI cap' else nI cap) = nI cap := if_neg (by rw [nI_ltI (by omega) (by omega)]; omega)
  rw [e]
  unfold cpB
  have ez : (0 : Int32).toNatClampNeg = 0 := rfl
  have eq : (nI cap).toNatClampNeg = cap := nI_clamp (by omega)
  have en : (2 * S.n + 1) / 2 = S.n := (nw_o _).2
  rw [ez, eq, en, if_pos]
  · rw [nwI0, nwI h.2.1]
  · refine ⟨⟨h1.ok, h2.ok⟩, ⟨by decide, by decide, nI_pos (by omega)⟩, ⟨?_, ?_⟩, ?_⟩
    · rw [h1.2.2.1]; omega
    · have := h2.2.2.1
      rw [en] at this
      rw [this]; omega
    · unfold fitR
      refine List.all_eq_true.mpr (fun i hi => ?_)
      rw [nwI h.2.1, Nat.zero_add]
      exact hf i (List.mem_range.mp hi)
theorem z0_fit (j : Nat) : fitB (z0 j) = true := fit_n (n := 0) (by omega)
/-- room made for the text to come: only the builder itself changes, and what is new -/
theorem k_ensure {S : ZS} {c cap need : Nat} {w : List Int32} (h : BX S c w cap) (hn : need < 20000) (hl : w.length ≤ need) (hcap : cap ≤ 2 * w.length + 16) (hc : 1 ≤ S.c) (hw : 2 * need ≤ S.w) : ∃ S' cap', kJ5_ensureCapacityInternal_d00df c (nI need) S = some S' ∧ BX S' c w cap' ∧ need ≤ cap' ∧ cap' ≤ 2 * need + 16 ∧ Fb c 1 (2 * need) S S' ∧ ∀ o, o < S.n → S'.i o = S.i o ∧ (o ≠ c / 2 → S'.r o = S.r o) := by
  obtain ⟨a1, a2, a3, a4, a5, a6, a7, a8⟩ := id h
  have hc9 := a4.2.2.2
  by_cases e : need ≤ cap
  · refine ⟨S, cap, ?_, h, e, by omega, Fb.refl.mono (by omega) (by omega), fun o _ => ⟨rfl, fun _ => rfl⟩⟩
    unfold kJ5_ensureCapacityInternal_d00df
    refine chk_of ?_ (Nat.le_refl _) (Nat.le_refl _)
    rw [gN_o a1 a4.ne0, aL_n a4, gI_o a1, a2, bd_eq, sh_r0, if_pos]
    have : nI need - nI cap = -nI (cap - need) := by
      rw [← nI_sub' e]
      exact Int32.neg_sub.symm
    rw [this, Int32.le_iff_toInt_le, Int32.toInt_neg, nI_toInt (by omega), show (0 : Int32).toInt = 0 from rfl, Int.bmod_eq_of_le (by omega) (by omega)]
    omega
  · have hlt : cap < need := by omega
    obtain ⟨cap', ec⟩ : ∃ z, z = (if need < 2 * cap + 2 then 2 * cap + 2 else need) := ⟨_, rfl⟩
    have hc1 : need ≤ cap' ∧ cap' ≤ 2 * need ∧ cap < cap' := by
      rw [ec]
      split <;> omega
    have hnb := newCap h (by omega) hlt
    rw [← ec] at hnb
    have hcp := copyUp a4 a8 hc1.2.2 (by omega) hc (by omega)
    obtain ⟨S1, eS1⟩ : ∃ z, z = (S.new (200000 + cap') cap' z0).wa S.n (va_cpy (S.i (S.r (c / 2) 0 / 2)) z0 0 0 cap) := ⟨_, rfl⟩
    rw [← eS1] at hcp
    have o1 : OB S1 c 1 := by rw [eS1]; exact a1.new (sl := cap') (f := z0)
    have hcn : c / 2 < S.n := a1.2.1
    have i1 : ∀ o, o < S.n → S1.i o = S.i o := fun o ho => by
      rw [eS1]
      exact (wa_ne (by omega)).trans (nwI ho)
    have r1 : ∀ o, o < S.n → S1.r o = S.r o := fun o ho => by
      rw [eS1]
      show (S.new (200000 + cap') cap' z0).r o = S.r o
      exact nwR (f := z0) ho
    have in1 : S1.i S.n = va_cpy (S.i (S.r (c / 2) 0 / 2)) z0 0 0 cap := by rw [eS1]; exact wa_eq
    obtain ⟨S2, eS2⟩ : ∃ z, z = S1.wr (c / 2) 0 (2 * S.n + 1) := ⟨_, rfl⟩
    have hr2 : S2.r (c / 2) 0 = 2 * S.n + 1 := by rw [eS2]; exact ur_self
    have hi2 : S2.i = S1.i := by rw [eS2]; rfl
    have hdiv : (2 * S.n + 1) / 2 = S.n := (nw_o _).2
    have n2 : S2.n = S.n + 1 ∧ S2.c = S.c - 1 ∧ S2.w = S.w - cap' ∧ S2.g = S.g := by rw [eS2, eS1]; exact ⟨rfl, rfl, rfl, rfl⟩
    have k2 : ∀ o, o < S.n → S2.K o = S.K o := fun o ho => by
      have e9 : S2.K = (S.new (200000 + cap') cap' z0).K := by rw [eS2, eS1]; rfl
      rw [e9]
      exact nwK (f := z0) ho
    refine ⟨S2, cap', ?_, ⟨?_, by rw [hi2, i1 _ hcn]; exact a2, by rw [hi2, i1 _ hcn]; exact a3, ?_, by omega, a6, fun j hj => ?_, fun j hj => ?_⟩, hc1.1, by omega, ?_, fun o ho => ⟨by rw [hi2]; exact i1 o ho, fun n1 => ?_⟩⟩
    · unfold kJ5_ensureCapacityInternal_d00df
      have hle : S2.c ≤ S.c ∧ S2.w ≤ S.w := by rw [eS2, eS1]; exact ⟨Nat.sub_le _ _, Nat.sub_le _ _⟩
      refine chk_of ?_ hle.1 hle.2
      rw [gN_o a1 a4.ne0, aL_n a4, gI_o a1, a2, bd_eq, sh_r0, if_neg]
      · rw [gN_o a1 a4.ne0, rcv_o a1, hnb, b2_s]
        refine chk_of ?_ hle.1 hle.2
        rw [gI_o a1, a2, sh_l0, hcp, b2_s, pR_o o1, ← eS2]
        exact chk_of rfl (by rw [eS2]; exact Nat.le_refl _) (by rw [eS2]; exact Nat.le_refl _)
      · rw [nI_sub' (by omega), show (0 : Int32) = nI 0 from rfl, nI_leI (by omega) (by omega)]
        omega
    · rw [eS2]; exact o1
    · rw [hr2, eS2, eS1]; exact AR.mk (S := S) (sl := cap') (f := z0) (by omega)
    · rw [hr2, hi2, hdiv, in1]
      show (if 0 ≤ j ∧ j < 0 + cap then _ else _) = _
      rw [if_pos (by omega), Nat.zero_add, Nat.sub_zero]
      exact a7 j hj
    · rw [hr2, hi2, hdiv, in1]
      unfold va_cpy
      by_cases z : 0 ≤ j ∧ j < 0 + cap
      · rw [if_pos z, Nat.zero_add, Nat.sub_zero]
        exact a8 j (by omega)
      · rw [if_neg z]
        exact z0_fit j
    · refine ⟨n2.2.2.2, by omega, fun o ho => ⟨k2 o ho, fun n1 _ => ⟨by rw [hi2]; exact i1 o ho, ?_⟩⟩, Or.inr (by rw [hr2, hdiv]; exact Nat.le_refl _), by omega, by omega, by omega, by omega⟩
      rw [eS2]
      exact (wr_ne n1).trans (r1 o ho)
    · rw [eS2]
      exact (wr_ne n1).trans (r1 o ho)
