/-! the grammar over tokens: what it reads, what it writes -/
def ns (I : List It) : List It := I.filter (fun x => decide (x.1 ≠ 1000))
theorem ns_app {a b : List It} : ns (a ++ b) = ns a ++ ns b := List.filter_append ..
def kdJ (J : List It) (p : Nat) : Nat := match J[p]? with
  | some x => x.1
  | none => 0
/-- the words I, blanks aside, are the tokens from p on -/
def AtJ (J : List It) (p : Nat) (I : List It) : Prop := ∀ i x, (ns I)[i]? = some x → J[p + i]? = some x
theorem AtJ.l {J : List It} {p : Nat} {a b : List It} (h : AtJ J p (a ++ b)) : AtJ J p a := fun i x hx => h i x (by
  rw [ns_app, List.getElem?_append_left (List.getElem?_eq_some_iff.mp hx).1]
  exact hx)
theorem AtJ.r {J : List It} {p : Nat} {a b : List It} (h : AtJ J p (a ++ b)) : AtJ J (p + (ns a).length) b := fun i x hx => by
  have := h ((ns a).length + i) x (by
    rw [ns_app, List.getElem?_append_right (Nat.le_add_right _ _), Nat.add_sub_cancel_left]
    exact hx)
  rw [Nat.add_assoc]
  exact this
theorem AtJ.hd {J : List It} {p : Nat} {x : It} {l : List It} (h : AtJ J p (x :: l)) (hx : x.1 ≠ 1000) : J[p]? = some x := h 0 x (by
  have : ns (x :: l) = x :: ns l := by
    unfold ns
    rw [List.filter_cons_of_pos (by simpa using hx)]
  rw [this]
  rfl)
theorem AtJ.tl {J : List It} {p : Nat} {x : It} {l : List It} (h : AtJ J p (x :: l)) (hx : x.1 ≠ 1000) : AtJ J (p + 1) l := by
  have h' : AtJ J p ([x] ++ l) := h
  have h2 := h'.r
  have : (ns [x]).length = 1 := by
    unfold ns
    rw [List.filter_cons_of_pos (by simpa using hx)]
    rfl
  rw [this] at h2
  exact h2
theorem AtJ.bl {J : List It} {p : Nat} {x : It} {l : List It} (h : AtJ J p (x :: l)) (hx : x.1 = 1000) : AtJ J p l := by
  have h' : AtJ J p ([x] ++ l) := h
  have h2 := h'.r
  have : (ns [x]).length = 0 := by
    unfold ns
    rw [List.filter_cons_of_neg (by simpa using hx)]
    rfl
  rw [this] at h2
  exact h2
theorem kdJ_of {J : List It} {p : Nat} {x : It} (h : J[p]? = some x) : kdJ J p = x.1 := by
  unfold kdJ
  rw [h]
/-- what the tokens mean: a name's number, but behind the word that makes it new -/
def valJ (J : List It) (p : Nat) : Int32 := match J[p]? with
  | some x => if x.1 = 2 ∧ kdJ J (p - 1) ≠ 128 then (x.2.drop 1).foldl (fun a b => a * 10 + (b - 48)) 0 else vI x
  | none => 0
theorem valJ_num {J : List It} {p n : Nat} (h : J[p]? = some (numI n)) (hn : n < 1000000) : valJ J p = nI n := by
  unfold valJ
  rw [h]
  exact dc_val hn
theorem valJ_nm {J : List It} {p n : Nat} (h0 : kdJ J p ≠ 128) (h : J[p + 1]? = some (nmI n)) (hn : n < 1000000) : valJ J (p + 1) = nI n := by
  unfold valJ
  rw [h]
  show (if (2 : Nat) = 2 ∧ kdJ J p ≠ 128 then _ else _) = _
  rw [if_pos ⟨rfl, h0⟩]
  exact dc_val hn
abbrev DS : Type := Nat × Nat
def stJ (J : List It) (q : DS) : SS := (q.1, if usesV q.1 = true then valJ J q.2 else 0)
/-- the class while it reads by the grammar: at the token p, with the steps D -/
def GS (J : List It) (p : Nat) (D : List DS) (g : G) : Prop := g 3 5 = nI (J.length + 1) ∧ J.length ≤ 400 ∧ (∀ i x, J[i]? = some x → g 4 i = nI x.1 ∧ x.1 < 1000) ∧ g 4 J.length = 0 ∧ g 13 2 = nI p ∧ g 8 8 = nI D.length ∧ D.length ≤ 400 ∧ ∀ j q, D[j]? = some q → g 11 j = nI q.1 ∧ g 12 j = nI q.2 ∧ q.2 ≤ J.length
def fG (g g' : G) : Prop := (∀ a, a ≠ 8 → a ≠ 11 → a ≠ 12 → a ≠ 13 → g' a = g a) ∧ ∀ k, k ≠ 8 → g' 8 k = g 8 k
theorem fG.refl {g : G} : fG g g := ⟨fun _ _ _ _ _ => rfl, fun _ _ => rfl⟩
theorem fG.trans {a b c : G} (h : fG a b) (h' : fG b c) : fG a c := ⟨fun x h1 h2 h3 h4 => (h'.1 x h1 h2 h3 h4).trans (h.1 x h1 h2 h3 h4), fun k h1 => (h'.2 k h1).trans (h.2 k h1)⟩
theorem GS.at' {J : List It} {p : Nat} {D : List DS} {g : G} (h : GS J p D g) : g 13 2 = nI p := h.2.2.2.2.1
theorem GS.J4 {J : List It} {p : Nat} {D : List DS} {g : G} (h : GS J p D g) : J.length ≤ 400 := h.2.1
theorem GS.kind {J : List It} {p q : Nat} {D : List DS} {g : G} (h : GS J p D g) (hq : q ≤ J.length) : k6_kindAt (nI q) g = some (nI (kdJ J q)) := by
  obtain ⟨h1, h2, h3, h4, -⟩ := h
  unfold k6_kindAt
  rw [if_neg (nI_pos (by omega)), h1, if_neg (by rw [nI_leI (by omega) (by omega)]; omega), ld_n (by omega) (by omega)]
  congr 1
  unfold kdJ
  by_cases e : q < J.length
  · rw [List.getElem?_eq_getElem e]
    exact (h3 q J[q] (List.getElem?_eq_getElem e)).1
  · have : q = J.length := by omega
    rw [this, h4, List.getElem?_eq_none (Nat.le_refl _)]
    rfl
theorem GS.kd {J : List It} {p q : Nat} {D : List DS} {g : G} (h : GS J p D g) : kdJ J q < 1000 := by
  unfold kdJ
  cases e : J[q]? with
  | none => exact Nat.succ_pos _
  | some x => exact (h.2.2.1 q x e).2
theorem GS.put {J : List It} {p q : Nat} {D : List DS} {g : G} (h : GS J p D g) : GS J q D (up g 13 2 (nI q)) ∧ fG g (up g 13 2 (nI q)) := by
  obtain ⟨h1, h2, h3, h4, h5, h6, h7, h8⟩ := h
  refine ⟨⟨by rw [up_other (by decide)]; exact h1, h2, fun i x hi => by rw [up_other (by decide)]; exact h3 i x hi, by rw [up_other (by decide)]; exact h4, up_self, by rw [up_other (by decide)]; exact h6, h7, fun j q hj => ?_⟩, fun a _ _ _ n13 => up_ne n13, fun k _ => up_other (by decide)⟩
  rw [up_other (by decide), up_other (by decide)]
  exact h8 j q hj
theorem take_yes {J : List It} {p k : Nat} {D : List DS} {g : G} (h : GS J p D g) (hp : p ≤ J.length) (hk : kdJ J p = k) : ∃ g', k0_take (nI k) g = some (1, g') ∧ GS J (p + 1) D g' ∧ fG g g' := by
  obtain ⟨a1, a2⟩ := h.put (q := p + 1)
  refine ⟨_, ?_, a1, a2⟩
  unfold k0_take
  rw [h.at', h.kind hp, some_bind, hk, if_pos rfl, bd_eq, nI_1]
theorem take_no {J : List It} {p k : Nat} {D : List DS} {g : G} (h : GS J p D g) (hp : p ≤ J.length) (hk : kdJ J p ≠ k) (hk2 : k < 1000) : k0_take (nI k) g = some (0, g) := by
  have := h.kd (q := p)
  unfold k0_take
  rw [h.at', h.kind hp, some_bind, if_neg (fun e => hk (nI_inj (by omega) (by omega) e))]
theorem next_no {J : List It} {p k : Nat} {D : List DS} {g : G} (h : GS J p D g) (hp : p ≤ J.length) (hk : kdJ J p ≠ k) (hk2 : k < 1000) : k0_isNext (nI k) g = some 0 := by
  have := h.kd (q := p)
  unfold k0_isNext
  rw [h.at', h.kind hp, some_bind, if_neg (fun e => hk (nI_inj (by omega) (by omega) e))]
theorem next_yes {J : List It} {p k : Nat} {D : List DS} {g : G} (h : GS J p D g) (hp : p ≤ J.length) (hk : kdJ J p = k) : k0_isNext (nI k) g = some 1 := by
  unfold k0_isNext
  rw [h.at', h.kind hp, some_bind, hk, if_pos rfl]
theorem write_ok {J : List It} {p c τ : Nat} {D : List DS} {g : G} (h : GS J p D g) (hτ : τ ≤ J.length) (hD : D.length < 400) : ∃ g', k2_write 8 (nI c) (nI τ) g = some g' ∧ GS J p (D ++ [(c, τ)]) g' ∧ fG g g' := by
  obtain ⟨h1, h2, h3, h4, h5, h6, h7, h8⟩ := h
  have e1 : (up g 11 D.length (nI c)) 8 8 = nI D.length := (up_other (by decide)).trans h6
  have e2 : (up (up g 11 D.length (nI c)) 12 D.length (nI τ)) 8 8 = nI D.length := (up_other (by decide)).trans e1
  refine ⟨up (up (up g 11 D.length (nI c)) 12 D.length (nI τ)) 8 8 (nI (D.length + 1)), ?_, ⟨?_, h2, fun i x hi => ?_, ?_, ?_, ?_, ?_, fun j q hj => ?_⟩, fun a n8 n11 n12 _ => ?_, fun k hk => ?_⟩
  · unfold k2_write
    rw [h6, if_neg (by rw [show (400 : Int32) = nI 400 from rfl, nI_leI (by omega) (by omega)]; omega)]
    show sto g 11 400 (nI D.length) (nI c) _ = _
    rw [sto_n (by omega) (by omega), e1]
    show sto _ 12 400 (nI D.length) (nI τ) _ = _
    rw [sto_n (by omega) (by omega), e2, bd_eq, nI_1]
  · rw [up_other (by decide), up_other (by decide), up_other (by decide)]; exact h1
  · rw [up_other (by decide), up_other (by decide), up_other (by decide)]; exact h3 i x hi
  · rw [up_other (by decide), up_other (by decide), up_other (by decide)]; exact h4
  · rw [up_other (by decide), up_other (by decide), up_other (by decide)]; exact h5
  · rw [up_self, List.length_append]; rfl
  · rw [List.length_append]; show D.length + 1 ≤ 400; omega
  · by_cases e : j < D.length
    · rw [List.getElem?_append_left e] at hj
      obtain ⟨k1, k2, k3⟩ := h8 j q hj
      exact ⟨by rw [up_other (by decide), up_other (by decide), up_slot' (by omega)]; exact k1, by rw [up_other (by decide), up_slot' (by omega), up_other (by decide)]; exact k2, k3⟩
    · rw [List.getElem?_append_right (by omega)] at hj
      obtain ⟨z, hz⟩ : ∃ z, j - D.length = z := ⟨_, rfl⟩
      rw [hz] at hj
      cases z with
      | zero =>
        have ej : j = D.length := by omega
        have eq : (c, τ) = q := by simpa using hj
        subst eq
        rw [ej]
        exact ⟨by rw [up_other (by decide), up_other (by decide), up_self], by rw [up_other (by decide), up_self], hτ⟩
      | succ z => simp at hj
  · rw [up_ne n8, up_ne n12, up_ne n11]
  · rw [up_slot' hk, up_other (by decide), up_other (by decide)]
/-! the first word of a sum -/
def fst1 (k : Nat) : Bool := [3, 140, 141, 142, 130, 129, 145, 143, 144, 45, 152, 153, 40].contains k
theorem PX.fst {N : Nat} : ∀ d l i, PX N d false l i → ∃ x r, i = x :: r ∧ fst1 x.1 = true := by
  intro d
  cases d with
  | zero => intro l i h; exact h.elim
  | succ d =>
    intro l i h
    obtain ⟨s, ⟨hf, n, h1, h2, h3, rfl⟩ | ⟨hf, l1, i1, h1, h2, rfl⟩ | ⟨hf, l1, l2, i1, i2, h1, h2, h3, rfl⟩⟩ := h
    · have hs : s = 0 ∨ s = 1 ∨ s = 2 ∨ s = 3 ∨ s = 4 ∨ s = 5 ∨ s = 6 ∨ s = 7 ∨ s = 8 := by
        unfold isLf at hf
        rcases hf with z | z
        · omega
        · cases z.1
      rcases hs with rfl | rfl | rfl | rfl | rfl | rfl | rfl | rfl | rfl <;> exact ⟨_, _, rfl, rfl⟩
    · have hs : s = 9 := by
        rcases hf with z | z
        · exact z.2
        · cases z.1
      subst hs
      exact ⟨_, _, rfl, rfl⟩
    · have hs : s = 10 ∨ s = 11 ∨ s = 12 ∨ s = 13 ∨ s = 14 ∨ s = 15 := by
        unfold isBi at hf
        rcases hf with z | z
        · omega
        · cases z.1
      rcases hs with rfl | rfl | rfl | rfl | rfl | rfl <;> exact ⟨_, _, rfl, rfl⟩
