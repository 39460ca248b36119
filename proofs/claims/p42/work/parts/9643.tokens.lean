/-! symbols; any token; all of them -/
theorem idx_g (g g' : G) (v0 : Nat) (v3 v4 : Int32) : ∀ f v5, kJ1_indexOfChar_4cfef_7 g f v0 v3 v4 v5 = kJ1_indexOfChar_4cfef_7 g' f v0 v3 v4 v5 := by
  intro f
  induction f with
  | zero => intro v5; rfl
  | succ f ih =>
    intro v5
    unfold kJ1_indexOfChar_4cfef_7
    simp only [ih]
def idxV (b : Nat) : Option Int32 := kJ0_indexOf_0f7a4 27 (((nI b).toUInt32 % 65536).toInt32) g_0
theorem idx_all : (symL.all fun b => decide ((idxV b).isSome = true ∧ 0 ≤ (idxV b).getD 0 ∧ letV (nI b) = 0 ∧ digV (nI b) = 0 ∧ b < 256)) = true := by decide +kernel
theorem idx_n {b : Nat} (g : G) : kJ0_indexOf_0f7a4 27 (((nI b).toUInt32 % 65536).toInt32) g = idxV b := by
  unfold idxV kJ0_indexOf_0f7a4 kJ0_indexOf_7cf53 kJ1_indexOf_4cfef kJ1_indexOfChar_4cfef
  simp only [idx_g g g_0]
  rfl
theorem sym60 {b p k : Nat} {g : G} (hb : b ∈ symL) (h3 : g 3 5 = nI k) (hk4 : k ≤ 400) (hp : p < 2 ^ 30) : k6_readSymbol_60 (nI p) (nI b) g = some (nI (p + 1), addT k (nI b) (nI p) (nI 1) g) := by
  obtain ⟨i1, i2, -, -, -⟩ := of_decide_eq_true (List.all_eq_true.mp idx_all b hb)
  obtain ⟨v, hv⟩ := Option.isSome_iff_exists.mp i1
  rw [hv] at i2
  have i2 : 0 ≤ v := i2
  have hN : 27 < NS := by decide
  unfold k6_readSymbol_60
  refine Eq.trans (if_pos hN) ?_
  rw [idx_n, hv, some_bind, if_pos i2, nI_1, k6_add_n hk4 h3, nI_sub, some_bind]
theorem sym_tok {W : List Int32} {g : G} {p k b : Nat} (h : TP W g) (hb : b ∈ symL) (ha : AtW W p [nI b]) (hn : b = 60 ∨ b = 62 → bAt W (p + 1) ≠ 61) (h3 : g 3 5 = nI k) (hk4 : k ≤ 400) : ∃ g', k6_readToken (nI p) g = some (nI (p + 1), g') ∧ tokE g g' k b p 1 0 := by
  have h2 := h.2.1
  have ha1 : p + 1 ≤ W.length := ha.1
  obtain ⟨-, -, i3, i4, i5⟩ := of_decide_eq_true (List.all_eq_true.mp idx_all b hb)
  have hb0 : bAt W p = nI b := ha.2 0 (by show 0 < 1; omega)
  refine ⟨addT k (nI b) (nI p) (nI 1) g, ?_, addT_E⟩
  unfold k6_readToken
  rw [byteAt_n h (by omega), some_bind, k5_let, some_bind, hb0, i3, if_pos rfl, k5_dig, some_bind, i4, if_pos rfl]
  have e60 := sym60 (g := g) (p := p) hb h3 hk4 (by omega)
  have e : k6_readSymbol (nI p) (nI b) g = some (nI (p + 1), addT k (nI b) (nI p) (nI 1) g) := by
    unfold k6_readSymbol k6_readSymbol_20
    rw [nI_1, byteAt_n h (by omega), some_bind]
    by_cases z : bAt W (p + 1) = 61
    · have n60 : ¬ nI b = 60 := fun y => hn (Or.inl (nI_inj (b := 60) (by omega) (by omega) y)) z
      have n62 : ¬ nI b = 62 := fun y => hn (Or.inr (nI_inj (b := 62) (by omega) (by omega) y)) z
      rw [if_pos z, if_neg (by decide), if_neg n60, if_neg n62]
      exact e60
    · rw [if_neg z, if_pos rfl]
      exact e60
  rw [e, some_bind]
theorem le_tok {W : List Int32} {g : G} {p k b c : Nat} (h : TP W g) (hb : (b = 60 ∧ c = 4) ∨ (b = 62 ∧ c = 5)) (ha : AtW W p [nI b, 61]) (h3 : g 3 5 = nI k) (hk4 : k ≤ 400) : ∃ g', k6_readToken (nI p) g = some (nI (p + 2), g') ∧ tokE g g' k c p 2 0 := by
  have h2 := h.2.1
  have ha1 : p + 2 ≤ W.length := ha.1
  have hb0 : bAt W p = nI b := ha.2 0 (by show 0 < 2; omega)
  have hb1 : bAt W (p + 1) = 61 := ha.2 1 (by show 1 < 2; omega)
  have e2 : nI p + 2 = nI (p + 2) := by rw [show (2 : Int32) = nI 2 from rfl, nI_plus]
  refine ⟨addT k (nI c) (nI p) (nI 2) g, ?_, addT_E⟩
  unfold k6_readToken
  have l1 : letV (nI b) = 0 ∧ digV (nI b) = 0 := by
    rcases hb with ⟨rfl, -⟩ | ⟨rfl, -⟩ <;> decide
  rw [byteAt_n h (by omega), some_bind, k5_let, some_bind, hb0, l1.1, if_pos rfl, k5_dig, some_bind, l1.2, if_pos rfl]
  have e : k6_readSymbol (nI p) (nI b) g = some (nI (p + 2), addT k (nI c) (nI p) (nI 2) g) := by
    unfold k6_readSymbol k6_readSymbol_20 k6_readSymbol_37 k6_readSymbol_49
    rw [nI_1, byteAt_n h (by omega), some_bind, if_pos hb1, if_neg (by decide)]
    rcases hb with ⟨rfl, rfl⟩ | ⟨rfl, rfl⟩
    · rw [if_pos (show nI 60 = 60 from rfl), if_pos (show nI 60 = 60 from rfl), e2, show (4 : Int32) = nI 4 from rfl, k6_add_n hk4 h3, nI_sub, some_bind]
    · rw [if_neg (show ¬ nI 62 = 60 by decide), if_pos (show nI 62 = 62 from rfl), if_neg (show ¬ nI 62 = 60 by decide), e2, show (5 : Int32) = nI 5 from rfl, k6_add_n hk4 h3, nI_sub, some_bind]
  rw [e, some_bind]
/-- any word that is a token -/
theorem tok_any {W : List Int32} {g : G} {p k : Nat} {x : It} (h : TP W g) (hx : GK x) (ha : AtW W p x.2) (hn : nextOK x.1 (bAt W (p + x.2.length))) (h3 : g 3 5 = nI k) (hk4 : k ≤ 400) : ∃ g', k6_readToken (nI p) g = some (nI (p + x.2.length), g') ∧ tokE g g' k x.1 p x.2.length (vI x) := by
  rcases hx with ⟨s, hs, rfl⟩ | ⟨n, hn1, rfl⟩ | rfl | rfl | ⟨n, hn1, rfl⟩ | ⟨b, hb, rfl⟩ | rfl | rfl
  · have h1 := List.all_eq_true.mp kws_all s (List.mem_range.mpr hs)
    rw [Bool.and_eq_true] at h1
    have hd : ∀ j, j < s → sB j ≠ sB s := fun j hj e => by
      have := of_decide_eq_true (List.all_eq_true.mp h1.2 j (List.mem_range.mpr (by omega))) e
      omega
    have e0 : vI (128 + s, sB s) = 0 := if_neg (show ¬ 128 + s = 3 by omega)
    rw [e0]
    exact word_tok h ha h1.1 (Or.inl ⟨s, hs, rfl, rfl, hd⟩) (hn.1 (Or.inr (Or.inr ⟨by show 128 ≤ 128 + s; omega, by show 128 + s < 154; omega⟩))) h3 hk4
  · have h1 := List.all_eq_true.mp nms_all n (List.mem_range.mpr hn1)
    rw [Bool.and_eq_true] at h1
    exact word_tok h ha h1.1 (Or.inr ⟨fun j hj => of_decide_eq_true (List.all_eq_true.mp h1.2 j (List.mem_range.mpr hj)), rfl⟩) (hn.1 (Or.inl rfl)) h3 hk4
  · obtain ⟨a1, a2⟩ := ab_all
    rw [Bool.and_eq_true] at a1
    exact word_tok h ha a1.1 (Or.inr ⟨fun j hj => (of_decide_eq_true (List.all_eq_true.mp a2 j (List.mem_range.mpr hj))).1, rfl⟩) (hn.1 (Or.inl rfl)) h3 hk4
  · obtain ⟨a1, a2⟩ := ab_all
    rw [Bool.and_eq_true] at a1
    exact word_tok h ha a1.2 (Or.inr ⟨fun j hj => (of_decide_eq_true (List.all_eq_true.mp a2 j (List.mem_range.mpr hj))).2, rfl⟩) (hn.1 (Or.inl rfl)) h3 hk4
  · have e0 : vI (numI n) = nI n := by
      show (if (3 : Nat) = 3 then _ else _) = _
      rw [if_pos rfl]
      exact dc_val hn1
    rw [e0]
    exact num_tok h ha hn1 (hn.1 (Or.inr (Or.inl rfl))).2 h3 hk4
  · have hb3 : b ≠ 3 := by
      intro e
      rw [e] at hb
      revert hb
      decide
    have e0 : vI (b, [nI b]) = 0 := if_neg hb3
    rw [e0]
    exact sym_tok h hb ha (fun z => hn.2 z) h3 hk4
  · exact le_tok h (Or.inl ⟨rfl, rfl⟩) ha h3 hk4
  · exact le_tok h (Or.inr ⟨rfl, rfl⟩) ha h3 hk4
/-! all tokens of a text -/
abbrev Tk : Type := Nat × Nat × Nat × Int32
def TL (T : List Tk) (g : G) : Prop := g 3 5 = nI T.length ∧ ∀ i t, T[i]? = some t → g 4 i = nI t.1 ∧ g 5 i = nI t.2.1 ∧ g 6 i = nI t.2.2.1 ∧ g 7 i = t.2.2.2
theorem TL.add {T : List Tk} {g g' : G} {c p z : Nat} {v : Int32} (h : TL T g) (e : tokE g g' T.length c p z v) : TL (T ++ [(c, p, z, v)]) g' := by
  obtain ⟨h1, h2⟩ := h
  obtain ⟨e1, e2, e3, e4, e5, e6, e7⟩ := e
  refine ⟨by rw [e3, List.length_append]; rfl, fun i t hi => ?_⟩
  by_cases z' : i < T.length
  · rw [List.getElem?_append_left z'] at hi
    obtain ⟨k1, k2, k3, k4⟩ := h2 i t hi
    exact ⟨(e2 4 i (by omega) (by omega) (by omega)).trans k1, (e2 5 i (by omega) (by omega) (by omega)).trans k2, (e2 6 i (by omega) (by omega) (by omega)).trans k3, (e2 7 i (by omega) (by omega) (by omega)).trans k4⟩
  · rw [List.getElem?_append_right (by omega)] at hi
    obtain ⟨q, hq⟩ : ∃ q, i - T.length = q := ⟨_, rfl⟩
    rw [hq] at hi
    cases q with
    | zero =>
      have ei : i = T.length := by omega
      have et : (c, p, z, v) = t := by simpa using hi
      subst et
      rw [ei]
      exact ⟨e4, e5, e6, e7⟩
    | succ q => simp at hi
theorem tokE.tp {W : List Int32} {g g' : G} {k c p z : Nat} {v : Int32} (e : tokE g g' k c p z v) (h : TP W g) : TP W g' := ⟨by rw [e.1 1 (by omega)]; exact h.1, h.2.1, h.2.2.1, fun j hj => by rw [e.1 2 (by omega)]; exact h.2.2.2 j hj⟩
def isBl (x : It) : Prop := x.1 = 1000 ∧ (x.2 = [32] ∨ x.2 = [10])
/-- the words follow one another so that each is read by itself -/
def okI : List It → Prop
  | [] => True
  | x :: l => (isBl x ∨ (GK x ∧ nextOK x.1 ((spl l).getD 0 (-1)))) ∧ okI l
/-- the tokens of a text that stands at p -/
def tkL : List It → Nat → List Tk
  | [], _ => []
  | x :: l, p => if x.1 = 1000 then tkL l (p + x.2.length) else (x.1, p, x.2.length, vI x) :: tkL l (p + x.2.length)
def noBl : List It → Prop
  | [] => True
  | x :: _ => x.1 ≠ 1000
/-- the blanks at the head: how many, what is behind them -/
theorem blanks : ∀ l : List It, okI l → ∃ s l', noBl l' ∧ okI l' ∧ spl l = List.append ((spl l).take s) (spl l') ∧ s + (spl l').length = (spl l).length ∧ (∀ i, i < s → blaV ((spl l).getD i 0) = 1) ∧ (∀ p, tkL l p = tkL l' (p + s)) ∧ l'.length ≤ l.length := by
  intro l
  induction l with
  | nil => intro _; exact ⟨0, [], trivial, trivial, rfl, rfl, fun i hi => by omega, fun p => rfl, Nat.le_refl _⟩
  | cons x l ih =>
    intro h
    by_cases e : x.1 = 1000
    · obtain ⟨s, l', h1, h2, h3, h4, h5, h6, h7⟩ := ih h.2
      have hb : isBl x := by
        rcases h.1 with z | ⟨z, -⟩
        · exact z
        · exfalso
          have e := e
          rcases z with ⟨s, hs, rfl⟩ | ⟨n, hn1, rfl⟩ | rfl | rfl | ⟨n, hn1, rfl⟩ | ⟨b, hb, rfl⟩ | rfl | rfl
          · have : 128 + s = 1000 := e
            omega
          · cases e
          · cases e
          · cases e
          · cases e
          · have : b = 1000 := e
            rw [this] at hb
            revert hb
            decide
          · cases e
          · cases e
      obtain ⟨b, hx, hbl⟩ : ∃ b, x.2 = [b] ∧ blaV b = 1 := by
        rcases hb.2 with z | z
        · exact ⟨32, z, by decide⟩
        · exact ⟨10, z, by decide⟩
      have hs : spl (x :: l) = b :: spl l := by rw [spl_cons, hx]; rfl
      refine ⟨s + 1, l', h1, h2, ?_, ?_, fun i hi => ?_, fun p => ?_, by simp only [List.length_cons]; omega⟩
      · rw [hs]
        show b :: spl l = b :: List.append ((spl l).take s) (spl l')
        rw [← h3]
      · rw [hs, List.length_cons]
        omega
      · rw [hs]
        cases i with
        | zero => exact hbl
        | succ i => exact h5 i (by omega)
      · show (if x.1 = 1000 then tkL l (p + x.2.length) else _) = _
        rw [if_pos e, hx, h6, show p + [b].length + s = p + (s + 1) by show p + 1 + s = _; omega]
    · exact ⟨0, x :: l, e, h, rfl, Nat.zero_add _, fun i hi => by omega, fun p => rfl, Nat.le_refl _⟩
