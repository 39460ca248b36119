/-! names of a text, compared by their bytes -/
theorem BF.kind {W : List Int32} {J : List It} {g : G} {q : Nat} (h : BF W J g) (hq : q ≤ J.length) : k6_kindAt (nI q) g = some (nI (kdJ J q)) := by
  obtain ⟨-, h2, h3, h4, h5⟩ := h
  unfold k6_kindAt
  rw [if_neg (nI_pos (by omega)), h2, if_neg (by rw [nI_leI (by omega) (by omega)]; omega), ld_n (by omega) (by omega)]
  congr 1
  unfold kdJ
  by_cases e : q < J.length
  · rw [List.getElem?_eq_getElem e]
    exact (h5 q J[q] (List.getElem?_eq_getElem e)).2.1
  · have : q = J.length := by omega
    rw [this, h4, List.getElem?_eq_none (Nat.le_refl _)]
    rfl
theorem BF.kd {W : List Int32} {J : List It} {g : G} {q : Nat} (h : BF W J g) : kdJ J q < 1000 := by
  unfold kdJ
  cases e : J[q]? with
  | none => exact Nat.succ_pos _
  | some x => exact (h.2.2.2.2 q x e).1
theorem AtW.b {W w : List Int32} {q j : Nat} (h : AtW W q w) (hj : j < w.length) : W.getD (q + j) 0 = w.getD j 0 := by
  have := h.2 j hj
  unfold bAt at this
  rwa [if_pos (by have := h.1; omega)] at this
theorem same33 {W w1 w2 : List Int32} {g : G} {q1 q2 : Nat} (h : TP W g) (a1 : AtW W q1 w1) (a2 : AtW W q2 w2) (e : w1.length = w2.length) : ∀ d j f, w1.length = j + d → d < f → (∀ i, i < j → w1.getD i 0 = w2.getD i 0) → k5_holdsSame_33 g f (nI q1) (nI q2) (nI w1.length) (nI j) = some (if w1 = w2 then 1 else 0) := by
  have h2 := h.2.1
  have l1 := a1.1
  have l2 := a2.1
  intro d
  induction d with
  | zero =>
    intro j f hd hf hj
    obtain ⟨f, rfl⟩ : ∃ z, f = z + 1 := ⟨f - 1, by omega⟩
    have : w1 = w2 := by
      refine List.ext_getElem e (fun i x1 x2 => ?_)
      have := hj i (by omega)
      rwa [List.getD_eq_getElem?_getD, List.getD_eq_getElem?_getD, List.getElem?_eq_getElem x1, List.getElem?_eq_getElem x2] at this
    unfold k5_holdsSame_33
    rw [if_pos ((nI_leI (by omega) (by omega)).mpr (by omega)), if_pos this]
  | succ d ih =>
    intro j f hd hf hj
    obtain ⟨f, rfl⟩ : ∃ z, f = z + 1 := ⟨f - 1, by omega⟩
    unfold k5_holdsSame_33
    rw [if_neg (by rw [nI_leI (by omega) (by omega)]; omega), nI_plus, ld_n (by omega) (by omega), nI_plus, ld_n (by omega) (by omega), h.2.2.2 _ (by omega), h.2.2.2 _ (by omega), a1.b (by omega), a2.b (by omega)]
    by_cases c : w1.getD j 0 = w2.getD j 0
    · rw [if_pos c, bd_eq, nI_1]
      refine ih (j + 1) f (by omega) (by omega) (fun i hi => ?_)
      by_cases z : i = j
      · rw [z]; exact c
      · exact hj i (by omega)
    · rw [if_neg c, if_neg (fun z => c (by rw [z]))]
theorem same_n {W : List Int32} {J : List It} {g : G} {a b : Nat} {w1 w2 : List Int32} (h : BF W J g) (h1 : J[a]? = some (2, w1)) (h2 : J[b]? = some (2, w2)) : k6_areSameNames (nI a) (nI b) g = some (if w1 = w2 then 1 else 0) := by
  obtain ⟨ht, h3, h4, -, h5⟩ := h
  obtain ⟨-, -, ⟨q1, e1, -, A1⟩, e2⟩ := h5 a _ h1
  obtain ⟨-, -, ⟨q2, f1, -, A2⟩, f2⟩ := h5 b _ h2
  have e2 : g 6 a = nI w1.length := e2
  have f2 : g 6 b = nI w2.length := f2
  have A1 : AtW W q1 w1 := A1
  have A2 : AtW W q2 w2 := A2
  have la := lt_of_at h1
  have lb := lt_of_at h2
  have t2 := ht.2.1
  have l1 := A1.1
  have l2 := A2.1
  unfold k6_areSameNames
  rw [if_neg (nI_pos (by omega)), h3, if_neg (by rw [nI_leI (by omega) (by omega)]; omega), if_neg (nI_pos (by omega)), if_pos ((nI_ltI (by omega) (by omega)).mpr (by omega)), ld_n (by omega) (by omega), ld_n (by omega) (by omega), e2, f2]
  by_cases c : w1.length = w2.length
  · rw [if_pos (by rw [c]), ld_n (by omega) (by omega), ld_n (by omega) (by omega), ld_n (by omega) (by omega), e1, f1, e2]
    have key : k5_holdsSame (nI q1) (nI q2) (nI w1.length) g = some (if w1 = w2 then 1 else 0) := by
      unfold k5_holdsSame
      rw [if_neg (nI_pos (by omega)), ht.1, nI_sub' (by omega), if_neg (by rw [nI_ltI (by omega) (by omega)]; omega), if_neg (nI_pos (by omega)), if_pos ((nI_leI (by omega) (by omega)).mpr (by omega))]
      exact same33 ht A1 A2 c w1.length 0 FU (by omega) (by show _ < 100000; omega) (fun i hi => absurd hi (Nat.not_lt_zero _))
    rw [key, some_bind]
    by_cases z : w1 = w2
    · rw [if_pos z]; rfl
    · rw [if_neg z]; rfl
  · rw [if_neg (fun z => c (nI_inj (by omega) (by omega) z)), if_neg (fun z => c (by rw [z]))]
/-- the names that the class holds as mirrors -/
def NmC (J : List It) (ws : List (List Int32)) (g : G) : Prop := ws.length ≤ 10 ∧ g 8 4 = nI ws.length ∧ ∀ i w, ws[i]? = some w → ∃ τ, J[τ]? = some (2, w) ∧ g 15 i = nI τ
/-- the place of a name among the names -/
def plN (w : List Int32) : List (List Int32) → Nat → Int32
  | [], _ => -1
  | x :: l, i => if x = w then nI i else plN w l (i + 1)
theorem named_2 {W : List Int32} {J : List It} {g : G} {a : Nat} {w : List Int32} {ws : List (List Int32)} (h : BF W J g) (h1 : J[a]? = some (2, w)) (hn : NmC J ws g) : ∀ d i f, ws.length = i + d → d < f → k1_mirrorNamed_2 g f (nI a) (nI i) = some (plN w (ws.drop i) i) := by
  obtain ⟨n1, n2, n3⟩ := hn
  intro d
  induction d with
  | zero =>
    intro i f hd hf
    obtain ⟨f, rfl⟩ : ∃ z, f = z + 1 := ⟨f - 1, by omega⟩
    unfold k1_mirrorNamed_2
    rw [n2, if_pos ((nI_leI (by omega) (by omega)).mpr (by omega)), List.drop_of_length_le (by omega)]
    rfl
  | succ d ih =>
    intro i f hd hf
    obtain ⟨f, rfl⟩ : ∃ z, f = z + 1 := ⟨f - 1, by omega⟩
    have hi : i < ws.length := by omega
    obtain ⟨τ, t1, t2⟩ := n3 i ws[i] (List.getElem?_eq_getElem hi)
    unfold k1_mirrorNamed_2
    rw [n2, if_neg (by rw [nI_leI (by omega) (by omega)]; omega), if_neg (by rw [show (10 : Int32) = nI 10 from rfl, nI_leI (by omega) (by omega)]; omega), ld_n (by omega) (by omega), t2, same_n h t1 h1, some_bind, List.drop_eq_getElem_cons hi]
    unfold plN
    by_cases c : ws[i] = w
    · rw [if_pos c, if_pos c, if_neg (by decide)]
    · rw [if_neg c, if_neg c, if_pos rfl, bd_eq, nI_1]
      exact ih (i + 1) f (by omega) (by omega)
theorem named_n {W : List Int32} {J : List It} {g : G} {a : Nat} {w : List Int32} {ws : List (List Int32)} (h : BF W J g) (h1 : J[a]? = some (2, w)) (hn : NmC J ws g) : k1_mirrorNamed (nI a) g = some (plN w ws 0) := named_2 h h1 hn ws.length 0 FU (by omega) (by have := hn.1; show _ < 100000; omega)
theorem plN_no {w : List Int32} : ∀ (ws : List (List Int32)) i, w ∉ ws → plN w ws i = -1 := by
  intro ws
  induction ws with
  | nil => intro i _; rfl
  | cons x l ih =>
    intro i h
    unfold plN
    rw [if_neg (fun z => h (by rw [z]; exact List.mem_cons_self ..))]
    exact ih (i + 1) (fun z => h (List.mem_cons_of_mem _ z))
theorem plN_at {w : List Int32} : ∀ (ws : List (List Int32)) i n, ws[n]? = some w → w ∉ ws.take n → plN w ws i = nI (i + n) := by
  intro ws
  induction ws with
  | nil => intro i n h; simp at h
  | cons x l ih =>
    intro i n h hn
    unfold plN
    cases n with
    | zero =>
      have : x = w := by simpa using h
      rw [if_pos this]
      rfl
    | succ n =>
      have hx : x ≠ w := fun z => hn (by rw [z]; exact List.mem_cons_self ..)
      rw [if_neg hx, ih (i + 1) n (by simpa using h) (fun z => hn (by rw [List.take_succ_cons]; exact List.mem_cons_of_mem _ z))]
      congr 1
      omega
