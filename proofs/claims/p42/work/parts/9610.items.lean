/-! words of a text: what kind of token (1000: a blank), its bytes -/
abbrev It : Type := Nat × List Int32
def spl (l : List It) : List Int32 := l.flatMap Prod.snd
theorem spl_app {a b : List It} : spl (a ++ b) = spl a ++ spl b := List.flatMap_append
theorem spl_cons {x : It} {l : List It} : spl (x :: l) = x.2 ++ spl l := rfl
theorem spl_nil : spl [] = [] := rfl
def tok (k : Nat) : It := if 128 ≤ k then (k, sB (k - 128)) else if k = 4 then (4, [60, 61]) else if k = 5 then (5, [62, 61]) else (k, [nI k])
def bl : It := (1000, [32])
def nl : It := (1000, [10])
def nmI (n : Nat) : It := (2, 109 :: dc n)
def numI (n : Nat) : It := (3, dc n)
def leafI (s n : Nat) : List It := if s = 0 then [numI n] else if s = 1 then [tok 140] else if s = 2 then [tok 141] else if s = 3 then [tok 142] else if s = 4 then [tok 130, bl, tok 146, bl, nmI n] else if s = 5 then [tok 129, bl, tok 146, bl, nmI n] else if s = 6 then [tok 145, bl, tok 146, bl, nmI n] else if s = 7 then [tok 143, bl, tok 146, bl, nmI n] else if s = 8 then [tok 144, bl, tok 146, bl, nmI n] else if s = 21 then [tok 147] else [tok 148, bl, nmI n]
def unI (s : Nat) : List It := if s = 9 then [tok 45] else [tok 149, bl]
def biL (s : Nat) : List It := if s = 10 then [tok 152, tok 40] else if s = 11 then [tok 153, tok 40] else if s < 16 then [tok 40] else if s < 21 then [] else [tok 91]
def biM (s : Nat) : List It := if s = 10 then [tok 44] else if s = 11 then [bl, tok 44, bl] else if s < 21 then [tok (binS s)] else [bl, tok (binS s), bl]
def biR (s : Nat) : List It := if s < 16 then [tok 41] else if s < 21 then [] else [tok 93]
/-- a tree as steps and as words -/
def PX (N : Nat) : Nat → Bool → List SS → List It → Prop
  | 0, _, _, _ => False
  | d + 1, b, l, i => ∃ s, (isLf b s ∧ ∃ n, n < 1000000 ∧ l = [leafS s (nI n)] ∧ leafOK N (leafS s (nI n)).1 (leafS s (nI n)).2 ∧ i = leafI s n) ∨ (isUn b s ∧ ∃ l1 i1, PX N d b l1 i1 ∧ l = l1 ++ [(unS s, 0)] ∧ i = unI s ++ i1) ∨ (isBi b s ∧ ∃ l1 l2 i1 i2, PX N d (subB s) l1 i1 ∧ PX N d (subB s) l2 i2 ∧ l = l1 ++ (l2 ++ [(binS s, 0)]) ∧ i = biL s ++ (i1 ++ (biM s ++ (i2 ++ biR s))))
/-- the node c is a tree: its steps, its words -/
def TX (N : Nat) : Nat → Bool → ZS → Nat → List SS → List It → Prop
  | 0, _, _, _, _, _ => False
  | d + 1, b, S, c, l, i => OB S c 12 ∧ ∃ s, S.i (c / 2) 0 = nI s ∧ ((isLf b s ∧ ∃ n, S.i (c / 2) 1 = nI n ∧ n < 1000000 ∧ l = [leafS s (nI n)] ∧ leafOK N (leafS s (nI n)).1 (leafS s (nI n)).2 ∧ i = leafI s n) ∨ (isUn b s ∧ ∃ l1 i1, TX N d b S (S.r (c / 2) 2) l1 i1 ∧ l = l1 ++ [(unS s, 0)] ∧ i = unI s ++ i1) ∨ (isBi b s ∧ ∃ l1 l2 i1 i2, TX N d (subB s) S (S.r (c / 2) 2) l1 i1 ∧ TX N d (subB s) S (S.r (c / 2) 3) l2 i2 ∧ l = l1 ++ (l2 ++ [(binS s, 0)]) ∧ i = biL s ++ (i1 ++ (biM s ++ (i2 ++ biR s)))))
theorem TX.o {N d : Nat} {b : Bool} {S : ZS} {c : Nat} {l : List SS} {i : List It} (h : TX N d b S c l i) : OB S c 12 := by
  cases d with
  | zero => exact h.elim
  | succ d => exact h.1
theorem TX.p {N : Nat} {S : ZS} : ∀ d b c l i, TX N d b S c l i → PX N d b l i := by
  intro d
  induction d with
  | zero => intro b c l i h; exact h.elim
  | succ d ih =>
    intro b c l i h
    obtain ⟨-, s, -, h⟩ := h
    rcases h with ⟨h1, n, -, h2, h3, h4, h5⟩ | ⟨h1, l1, i1, h2, h3, h4⟩ | ⟨h1, l1, l2, i1, i2, h2, h3, h4, h5⟩
    · exact ⟨s, Or.inl ⟨h1, n, h2, h3, h4, h5⟩⟩
    · exact ⟨s, Or.inr (Or.inl ⟨h1, l1, i1, ih _ _ _ _ h2, h3, h4⟩)⟩
    · exact ⟨s, Or.inr (Or.inr ⟨h1, l1, l2, i1, i2, ih _ _ _ _ h2, ih _ _ _ _ h3, h4, h5⟩)⟩
theorem TX.t {N : Nat} {S : ZS} : ∀ d b c l i, TX N d b S c l i → TS N d b S c l := by
  intro d
  induction d with
  | zero => intro b c l i h; exact h.elim
  | succ d ih =>
    intro b c l i h
    obtain ⟨h0, s, hs, h⟩ := h
    refine ⟨h0, s, hs, ?_⟩
    rcases h with ⟨h1, n, hn, h2, h3, h4, h5⟩ | ⟨h1, l1, i1, h2, h3, h4⟩ | ⟨h1, l1, l2, i1, i2, h2, h3, h4, h5⟩
    · exact Or.inl ⟨h1, by rw [hn]; exact h3, by rw [hn]; exact h4⟩
    · exact Or.inr (Or.inl ⟨h1, l1, ih _ _ _ _ h2, h3⟩)
    · exact Or.inr (Or.inr ⟨h1, l1, l2, ih _ _ _ _ h2, ih _ _ _ _ h3, h4⟩)
theorem TX.ste {N : Nat} {Q : Nat → Prop} {x y : Nat} {S S' : ZS} (s : Ste Q x y S S') (hq : ¬ Q 12) : ∀ d b c l i, TX N d b S c l i → TX N d b S' c l i := by
  intro d
  induction d with
  | zero => intro b c l i h; exact h.elim
  | succ d ih =>
    intro b c l i h
    obtain ⟨h0, s', hs, h⟩ := h
    obtain ⟨e1, e2⟩ := (s.2.2.1 _ h0.2.1).2 (by rw [h0.2.2]; exact hq)
    refine ⟨h0.ste s, s', by rw [e1]; exact hs, ?_⟩
    rcases h with ⟨h1, n, hn, h2, h3, h4, h5⟩ | ⟨h1, l1, i1, h2, h3, h4⟩ | ⟨h1, l1, l2, i1, i2, h2, h3, h4, h5⟩
    · exact Or.inl ⟨h1, n, by rw [e1]; exact hn, h2, h3, h4, h5⟩
    · exact Or.inr (Or.inl ⟨h1, l1, i1, by rw [e2]; exact ih _ _ _ _ h2, h3, h4⟩)
    · exact Or.inr (Or.inr ⟨h1, l1, l2, i1, i2, by rw [e2]; exact ih _ _ _ _ h2, by rw [e2]; exact ih _ _ _ _ h3, h4, h5⟩)
theorem TX.up {N : Nat} {S : ZS} : ∀ d d' b c l i, d ≤ d' → TX N d b S c l i → TX N d' b S c l i := by
  intro d
  induction d with
  | zero => intro d' b c l i _ h; exact h.elim
  | succ d ih =>
    intro d' b c l i hd h
    obtain ⟨d', rfl⟩ : ∃ z, d' = z + 1 := ⟨d' - 1, by omega⟩
    obtain ⟨h0, s', hs, h⟩ := h
    refine ⟨h0, s', hs, ?_⟩
    rcases h with h | ⟨h1, l1, i1, h2, h3, h4⟩ | ⟨h1, l1, l2, i1, i2, h2, h3, h4, h5⟩
    · exact Or.inl h
    · exact Or.inr (Or.inl ⟨h1, l1, i1, ih d' _ _ _ _ (by omega) h2, h3, h4⟩)
    · exact Or.inr (Or.inr ⟨h1, l1, l2, i1, i2, ih d' _ _ _ _ (by omega) h2, ih d' _ _ _ _ (by omega) h3, h4, h5⟩)
/-- how long a text may be, by its depth; what it takes to write it -/
def tL : Nat → Nat
  | 0 => 16
  | d + 1 => 2 * tL d + 8
def tC : Nat → Nat
  | 0 => 11
  | d + 1 => 2 * tC d + 11
def tW : Nat → Nat
  | 0 => 300
  | d + 1 => 2 * tW d + 12 * tL (d + 1) + 40
theorem tL_16 : ∀ d, 16 ≤ tL d ∧ 11 ≤ tC d ∧ 300 ≤ tW d := by
  intro d
  induction d with
  | zero => exact ⟨Nat.le_refl _, Nat.le_refl _, Nat.le_refl _⟩
  | succ d ih =>
    obtain ⟨h1, h2, h3⟩ := ih
    refine ⟨?_, ?_, ?_⟩
    · show 16 ≤ 2 * tL d + 8
      omega
    · show 11 ≤ 2 * tC d + 11
      omega
    · show 300 ≤ 2 * tW d + 12 * tL (d + 1) + 40
      omega
theorem leaf_len {s n : Nat} (h : n < 1000000) (hs : 4 ≤ s → s ≠ 21 → n < 10) : (spl (leafI s n)).length ≤ 16 := by
  have hn := dc_len h
  have e1 : (spl [numI n]).length = (dc n).length := by simp [spl, numI]
  have e2 : ∀ k : It, (spl [k, bl, tok 146, bl, nmI n]).length = k.2.length + 5 + (dc n).length := by
    intro k
    rw [spl_cons, spl_cons, spl_cons, spl_cons, spl_cons, spl_nil, List.length_append, List.length_append, List.length_append, List.length_append, List.length_append]
    have a1 : bl.2.length = 1 := rfl
    have a2 : (tok 146).2.length = 2 := rfl
    have a3 : (nmI n).2.length = (dc n).length + 1 := rfl
    have a4 : ([] : List Int32).length = 0 := rfl
    omega
  unfold leafI
  by_cases h0 : s = 0
  · rw [if_pos h0, e1]; omega
  rw [if_neg h0]
  by_cases h1 : s = 1
  · rw [if_pos h1]; decide
  rw [if_neg h1]
  by_cases h2 : s = 2
  · rw [if_pos h2]; decide
  rw [if_neg h2]
  by_cases h3 : s = 3
  · rw [if_pos h3]; decide
  rw [if_neg h3]
  by_cases h21 : s = 21
  · rw [if_neg (by omega), if_neg (by omega), if_neg (by omega), if_neg (by omega), if_neg (by omega), if_pos h21]; decide
  have hl : (dc n).length = 1 := by
    rw [hn.2.2, if_pos (hs (by omega) h21)]
  by_cases h4 : s = 4
  · rw [if_pos h4, e2, hl]; decide
  rw [if_neg h4]
  by_cases h5 : s = 5
  · rw [if_pos h5, e2, hl]; decide
  rw [if_neg h5]
  by_cases h6 : s = 6
  · rw [if_pos h6, e2, hl]; decide
  rw [if_neg h6]
  by_cases h7 : s = 7
  · rw [if_pos h7, e2, hl]; decide
  rw [if_neg h7]
  by_cases h8 : s = 8
  · rw [if_pos h8, e2, hl]; decide
  rw [if_neg h8, if_neg h21]
  have e3 : (spl [tok 148, bl, nmI n]).length = 7 + (dc n).length := by
    rw [spl_cons, spl_cons, spl_cons, spl_nil, List.length_append, List.length_append, List.length_append]
    have a1 : bl.2.length = 1 := rfl
    have a2 : (tok 148).2.length = 5 := rfl
    have a3 : (nmI n).2.length = (dc n).length + 1 := rfl
    have a4 : ([] : List Int32).length = 0 := rfl
    omega
  rw [e3, hl]
  decide
theorem un_len (s : Nat) : (spl (unI s)).length ≤ 4 := by
  unfold unI
  split <;> decide
theorem bi_len {b : Bool} {s : Nat} (h : isBi b s) : (spl (biL s)).length + (spl (biM s)).length + (spl (biR s)).length ≤ 8 := by
  have all : ((List.range 26).all fun s => decide (10 ≤ s → (spl (biL s)).length + (spl (biM s)).length + (spl (biR s)).length ≤ 8)) = true := by decide +kernel
  have hs : s < 26 ∧ 10 ≤ s := by
    unfold isBi at h
    omega
  exact of_decide_eq_true (List.all_eq_true.mp all s (List.mem_range.mpr hs.1)) hs.2
theorem leaf_n {N s n : Nat} {b : Bool} (hN : N ≤ 10) (hf : isLf b s) (hn : n < 1000000) (h : leafOK N (leafS s (nI n)).1 (leafS s (nI n)).2) : 4 ≤ s → s ≠ 21 → n < N := by
  intro h4 h21
  have hs : s = 4 ∨ s = 5 ∨ s = 6 ∨ s = 7 ∨ s = 8 ∨ s = 22 := by
    unfold isLf at hf
    omega
  have key : ∀ c, ofM c → leafOK N c (nI n) → n < N := by
    intro c hc hl
    rcases hl with z | z | z | z | z | z | ⟨-, m, hm, e⟩
    · unfold ofM at hc; omega
    · unfold ofM at hc; omega
    · unfold ofM at hc; omega
    · unfold ofM at hc; omega
    · unfold ofM at hc; omega
    · unfold ofM at hc; omega
    · rw [nI_inj (by omega) (by omega) e]
      exact hm
  rcases hs with rfl | rfl | rfl | rfl | rfl | rfl
  · exact key 130 (by unfold ofM; omega) h
  · exact key 129 (by unfold ofM; omega) h
  · exact key 145 (by unfold ofM; omega) h
  · exact key 143 (by unfold ofM; omega) h
  · exact key 144 (by unfold ofM; omega) h
  · exact key 148 (by unfold ofM; omega) h
theorem PX.len {N : Nat} (hN : N ≤ 10) : ∀ d b l i, PX N (d + 1) b l i → (spl i).length ≤ tL d := by
  intro d
  induction d with
  | zero =>
    intro b l i h
    obtain ⟨s, h⟩ := h
    rcases h with ⟨h1, n, h2, h3, h4, h5⟩ | ⟨_, _, _, h, _⟩ | ⟨_, _, _, _, _, h, _⟩
    · rw [h5]
      exact leaf_len h2 (fun a b => by have := leaf_n hN h1 h2 h4 a b; omega)
    · exact h.elim
    · exact h.elim
  | succ d ih =>
    intro b l i h
    obtain ⟨s, h⟩ := h
    have h16 := (tL_16 d).1
    show _ ≤ 2 * tL d + 8
    rcases h with ⟨h1, n, h2, h3, h4, h5⟩ | ⟨h1, l1, i1, h2, h3, h4⟩ | ⟨h1, l1, l2, i1, i2, h2, h3, h4, h5⟩
    · rw [h5]
      have := leaf_len h2 (fun a b => by have := leaf_n hN h1 h2 h4 a b; omega)
      omega
    · have := ih _ _ _ h2
      have h9 := un_len s
      rw [h4, spl_app, List.length_append]
      omega
    · have a1 := ih _ _ _ h2
      have a2 := ih _ _ _ h3
      have h9 := bi_len h1
      rw [h5, spl_app, spl_app, spl_app, spl_app, List.length_append, List.length_append, List.length_append, List.length_append]
      omega
