/-! the steps of a plan: what they answer -/
def wfd (A : TA) (m : Nat) : Nat → Nat → Int32
  | 0, _ => 0
  | d + 1, p => if A.jm p = m then 1 else wfd A m d (p + 1)
def wtA (A : TA) (m : Nat) : Int32 := wfd A m A.J 0
def leafA (A : TA) (c : Nat) (v : Int32) : Int32 := if c = 3 then v else if c = 7 then 1 else if c = 140 then A.mi else if c = 141 then lgt A A.N else if c = 142 then nI A.J else if c = 147 then snA A else if c = 148 then wtA A v.toNatClampNeg else if c = 129 then A.cl v.toNatClampNeg else if c = 130 then A.of v.toNatClampNeg else if c = 143 then lsA A (plc A v.toNatClampNeg) else if c = 144 then tlt A (plc A v.toNatClampNeg + 1) else A.be v.toNatClampNeg
def ofM (c : Nat) : Prop := c = 148 ∨ c = 129 ∨ c = 130 ∨ c = 143 ∨ c = 144 ∨ c = 145
def leafOK (N c : Nat) (v : Int32) : Prop := c = 3 ∨ c = 7 ∨ c = 140 ∨ c = 141 ∨ c = 142 ∨ c = 147 ∨ (ofM c ∧ ∃ m, m < N ∧ v = nI m)
def isJ (c : Nat) : Prop := c = 43 ∨ c = 45 ∨ c = 42 ∨ c = 47 ∨ c = 60 ∨ c = 62 ∨ c = 61 ∨ c = 4 ∨ c = 5 ∨ c = 150 ∨ c = 151 ∨ c = 152 ∨ c = 153
def joinA (c : Nat) (a b : Int32) : Int32 := if c = 43 then a + b else if c = 45 then a - b else if c = 42 then a * b else if c = 47 then (if b = 0 then 0 else a / b) else if c = 60 then (if b ≤ a then 0 else 1) else if c = 62 then (if a ≤ b then 0 else 1) else if c = 61 then (if a = b then 1 else 0) else if c = 4 then (if b < a then 0 else 1) else if c = 5 then (if a < b then 0 else 1) else if c = 150 then a &&& b else if c = 151 then a ||| b else if c = 152 then (if b < a then b else a) else (if a < b then b else a)
def stepA (A : TA) (c : Nat) (v : Int32) (st : List Int32) : Option (List Int32) :=
  if c = 6 then (match st with | x :: st => some (-x :: st) | [] => none)
  else if c = 149 then (match st with | x :: st => some ((1 - x) :: st) | [] => none)
  else if 148 < c ∨ c = 43 ∨ c = 45 ∨ c = 42 ∨ c = 47 ∨ c = 60 ∨ c = 62 ∨ c = 61 ∨ c = 4 ∨ c = 5 then (match st with | b :: a :: st => some (joinA c a b :: st) | _ => none)
  else some (leafA A c v :: st)
def runS (A : TA) : List SS → List Int32 → Option (List Int32)
  | [], st => some st
  | (c, v) :: l, st => (stepA A c v st).bind (runS A l)
theorem runS_app {A : TA} : ∀ (l l2 : List SS) (st : List Int32), runS A (l ++ l2) st = (runS A l st).bind (runS A l2) := by
  intro l
  induction l with
  | nil => intro l2 st; rfl
  | cons s l ih =>
    intro l2 st
    obtain ⟨c, v⟩ := s
    show (stepA A c v st).bind (runS A (l ++ l2)) = ((stepA A c v st).bind (runS A l)).bind (runS A l2)
    cases stepA A c v st with
    | none => rfl
    | some st1 => exact ih l2 st1
def stepOK (N : Nat) (s : SS) : Prop := s.1 = 6 ∨ s.1 = 149 ∨ isJ s.1 ∨ leafOK N s.1 s.2
theorem stepA_leaf {A : TA} {N c : Nat} {v : Int32} {st : List Int32} (h : leafOK N c v) : stepA A c v st = some (leafA A c v :: st) := by
  rcases h with rfl | rfl | rfl | rfl | rfl | rfl | ⟨rfl | rfl | rfl | rfl | rfl | rfl, -⟩ <;> rfl
theorem stepA_join {A : TA} {c : Nat} {v a b : Int32} {st : List Int32} (h : isJ c) : stepA A c v (b :: a :: st) = some (joinA c a b :: st) := by
  rcases h with rfl | rfl | rfl | rfl | rfl | rfl | rfl | rfl | rfl | rfl | rfl | rfl | rfl <;> rfl
theorem leafA_any {A : TA} {c : Nat} {v v' : Int32} {N : Nat} (h : leafOK N c v) (hu : usesV c = true → v' = v) : leafA A c v' = leafA A c v := by
  by_cases hv : usesV c = true
  · rw [hu hv]
  · rcases h with rfl | rfl | rfl | rfl | rfl | rfl | ⟨rfl | rfl | rfl | rfl | rfl | rfl, -⟩
    · exact absurd (by decide) hv
    · exact (show leafA A 7 v' = 1 from rfl).trans (show leafA A 7 v = 1 from rfl).symm
    · exact (show leafA A 140 v' = A.mi from rfl).trans (show leafA A 140 v = A.mi from rfl).symm
    · exact (show leafA A 141 v' = lgt A A.N from rfl).trans (show leafA A 141 v = lgt A A.N from rfl).symm
    · exact (show leafA A 142 v' = nI A.J from rfl).trans (show leafA A 142 v = nI A.J from rfl).symm
    · exact (show leafA A 147 v' = snA A from rfl).trans (show leafA A 147 v = snA A from rfl).symm
    · exact absurd (by decide) hv
    · exact absurd (by decide) hv
    · exact absurd (by decide) hv
    · exact absurd (by decide) hv
    · exact absurd (by decide) hv
    · exact absurd (by decide) hv
/-! the class's stack of answers -/
def svW (x : Nat → Int32) : List Int32 → Prop
  | [] => True
  | v :: st => x st.length = v ∧ svW x st
theorem svW_same {x x' : Nat → Int32} : ∀ st : List Int32, svW x st → (∀ i, i < st.length → x' i = x i) → svW x' st := by
  intro st
  induction st with
  | nil => intro _ _; exact trivial
  | cons v st ih =>
    intro h hx
    obtain ⟨h1, h2⟩ := h
    refine ⟨?_, ih h2 (fun i hi => hx i (by simp only [List.length_cons]; omega))⟩
    rw [hx _ (by simp only [List.length_cons]; omega)]
    exact h1
def stW (w : Nat) (st : List Int32) (g : G) : Prop := g w 4 = nI st.length ∧ svW (g (w + 12)) st
/-- what a minute leaves alone -/
def fC (w : Nat) (g g' : G) : Prop := ∀ a, a < w ∨ w + 12 < a → g' a = g a
theorem fC.refl {w : Nat} {g : G} : fC w g g := fun _ _ => rfl
theorem fC.trans {w : Nat} {a b c : G} (h : fC w a b) (h' : fC w b c) : fC w a c := fun x hx => (h' x hx).trans (h x hx)
theorem fQ.C {w : Nat} {g g' : G} (h : fQ w g g') : fC w g g' := fun a ha => h.1 a (by omega) (by omega) (by omega) (by omega)
theorem fJ.C {w : Nat} {g g' : G} (h : fJ w g g') : fC w g g' := fun a ha => h a (by omega) (by omega) (by omega)
theorem fM.C {w : Nat} {g g' : G} (h : fM w g g') : fC w g g' := fun a ha => h a (by omega) (by omega) (by omega) (by omega) (by omega) (by omega) (by omega) (by omega)
theorem stW.q {w : Nat} {st : List Int32} {g g' : G} (h : stW w st g) (h1 : g' w = g w) (h2 : g' (w + 12) = g (w + 12)) : stW w st g' := ⟨by rw [h1]; exact h.1, by rw [h2]; exact h.2⟩
theorem push_ok {w : Nat} {st : List Int32} {A : TA} {g : G} {v : Int32} (h : RW w A g) (hs : stW w st g) (hl : st.length < 400) : ∃ g', k7_push w v g = some g' ∧ RW w A g' ∧ stW w (v :: st) g' ∧ fC w g g' := by
  obtain ⟨h1, h2⟩ := hs
  refine ⟨up (up g (w + 12) st.length v) w 4 (nI (st.length + 1)), ?_, h.far (fun a a1 a2 => by rw [up_ne (by omega), up_ne (by omega)]) (by rw [up_slot (by decide), up_other (by omega)]), ⟨up_self, ?_, ?_⟩, fun a ha => by rw [up_ne (by omega), up_ne (by omega)]⟩
  · unfold k7_push
    rw [h1, if_neg (fun z => absurd ((lit_le (M := 400) (k := 400) rfl (by omega) (by omega)).mp z) (by omega)), sto_n hl (by omega), bd_eq, up_other (by omega), h1, nI_1]
  · rw [up_other (by omega), up_self]
  · rw [up_ne (by omega)]
    exact svW_same st h2 (fun i hi => up_slot (by omega))
theorem pop_ok {w : Nat} {st : List Int32} {A : TA} {g : G} {v : Int32} (h : RW w A g) (hs : stW w (v :: st) g) (hl : st.length < 400) : ∃ g', k7_pop w g = some (v, g') ∧ RW w A g' ∧ stW w st g' ∧ fC w g g' := by
  obtain ⟨h1, h2, h3⟩ := hs
  have h1 : g w 4 = nI (st.length + 1) := h1
  refine ⟨up g w 4 (nI st.length), ?_, h.far (fun a a1 a2 => up_ne (by omega)) (up_slot (by decide)), ⟨up_self, ?_⟩, fun a ha => up_ne (by omega)⟩
  · unfold k7_pop
    rw [h1, if_pos (Int32.not_le.mp (nI_nle (by omega) (by omega))), bd_eq, nI_pred, up_self, ld_n hl (by omega), up_other (by omega), h2]
  · rw [up_ne (by omega)]
    exact h3
/-! what a leaf answers in the class -/
theorem has_loop {w m : Nat} {A : TA} {g : G} (hA : WA A) (h : RW w A g) (hm : m < A.N) : ∀ (d p f : Nat), A.J = p + d → d < f → k3_hasJobFor_2 (w + 9) g f (nI m) (nI p) = some (wfd A m d p) := by
  have hJ := hA.J12
  have hN := hA.N9
  intro d
  induction d with
  | zero =>
    intro p f hd hf
    obtain ⟨f, rfl⟩ : ∃ z, f = z + 1 := ⟨f - 1, by omega⟩
    unfold k3_hasJobFor_2 wfd
    rw [h.J, if_pos (by rw [nI_leI (by omega) (by omega)]; omega)]
  | succ d ih =>
    intro p f hd hf
    obtain ⟨f, rfl⟩ : ∃ z, f = z + 1 := ⟨f - 1, by omega⟩
    have hp : p < A.J := by omega
    have hjm := (hA.jb hp).1
    unfold k3_hasJobFor_2 wfd
    rw [h.J, if_neg (by rw [nI_leI (by omega) (by omega)]; omega), ld_n (by omega) (by omega), (h.j hp).2]
    by_cases e : A.jm p = m
    · rw [if_pos (by rw [e]), if_pos e]
    · rw [if_neg (fun z => e (nI_inj (by omega) (by omega) z)), if_neg e, bd_eq, nI_1]
      exact ih (p + 1) f (by omega) (by omega)
theorem wfd_01 {A : TA} {m : Nat} : ∀ d p, wfd A m d p = 0 ∨ wfd A m d p = 1 := by
  intro d
  induction d with
  | zero => intro p; exact Or.inl rfl
  | succ d ih =>
    intro p
    unfold wfd
    split
    · exact Or.inr rfl
    · exact ih _
theorem wtA_01 {A : TA} {m : Nat} : wtA A m = 0 ∨ wtA A m = 1 := wfd_01 _ _
theorem fQ.w {w : Nat} {g g' : G} (h : fQ w g g') : g' w = g w := h.1 w (by omega) (by omega) (by omega) (by omega)
theorem fQ.a {w : Nat} {g g' : G} (h : fQ w g g') : g' (w + 12) = g (w + 12) := h.1 _ (by omega) (by omega) (by omega) (by omega)
theorem leaf_ok {w c : Nat} {v v' : Int32} {A : TA} {g : G} (hA : WA A) (h : RW w A g) (hc : leafOK A.N c v) (hu : usesV c = true → v' = v) : ∃ g', k7_valueOf w (nI c) v' g = some (leafA A c v, g') ∧ fQ w g g' ∧ RW w A g' := by
  have hN := hA.N9
  rcases hc with rfl | rfl | rfl | rfl | rfl | rfl | ⟨hc, m, hm, rfl⟩
  · rw [hu rfl]
    exact ⟨g, rfl, fQ.refl, h⟩
  · exact ⟨g, rfl, fQ.refl, h⟩
  · refine ⟨g, ?_, fQ.refl, h⟩
    show some (g w 5, g) = some (A.mi, g)
    rw [h.mi]
  · obtain ⟨g', e, q, r⟩ := rw_end h
    refine ⟨g', ?_, q, r⟩
    show (k4_lastLight (w + 1) g).bind _ = some (lgt A A.N, g')
    rw [e]
    rfl
  · refine ⟨g, ?_, fQ.refl, h⟩
    show some (g (w + 9) 2, g) = some (nI A.J, g)
    rw [h.J]
  · obtain ⟨g', e, q, r⟩ := rw_seen h
    refine ⟨g', ?_, q, r⟩
    show (k4_showsLight (w + 1) g).bind _ = some (snA A, g')
    rw [e, some_bind]
    rcases snA_01 (A := A) with z | z
    · rw [z]; rfl
    · rw [z]; rfl
  · have hcl : (nI m).toNatClampNeg = m := nI_clamp (by omega)
    rcases hc with rfl | rfl | rfl | rfl | rfl | rfl
    · rw [hu rfl]
      refine ⟨g, ?_, fQ.refl, h⟩
      show (k3_hasJobFor (w + 9) (nI m) g).bind _ = some (wtA A (nI m).toNatClampNeg, g)
      have e : k3_hasJobFor (w + 9) (nI m) g = some (wtA A m) := has_loop hA h hm A.J 0 FU (by omega) (by have := hA.J12; unfold FU; omega)
      rw [e, some_bind, hcl]
      rcases wtA_01 (A := A) (m := m) with z | z
      · rw [z]; rfl
      · rw [z]; rfl
    · rw [hu rfl]
      obtain ⟨g', e, q, r⟩ := rw_cl h hm
      refine ⟨g', ?_, q, r⟩
      show (k4_valueOf (w + 1) 129 (nI m) g).bind _ = some (A.cl (nI m).toNatClampNeg, g')
      rw [e, hcl]
      rfl
    · rw [hu rfl]
      obtain ⟨g', e, q, r⟩ := rw_of h hm
      refine ⟨g', ?_, q, r⟩
      show (k4_valueOf (w + 1) 130 (nI m) g).bind _ = some (A.of (nI m).toNatClampNeg, g')
      rw [e, hcl]
      rfl
    · rw [hu rfl]
      obtain ⟨g', e, q, r⟩ := rw_lo hA h hm
      refine ⟨g', ?_, q, r⟩
      show (k4_valueOf (w + 1) 143 (nI m) g).bind _ = some (lsA A (plc A (nI m).toNatClampNeg), g')
      rw [e, hcl]
      rfl
    · rw [hu rfl]
      obtain ⟨g', e, q, r⟩ := rw_ti hA h hm
      refine ⟨g', ?_, q, r⟩
      show (k4_valueOf (w + 1) 144 (nI m) g).bind _ = some (tlt A (plc A (nI m).toNatClampNeg + 1), g')
      rw [e, hcl]
      rfl
    · rw [hu rfl]
      obtain ⟨g', e, q, r⟩ := rw_be h hm
      refine ⟨g', ?_, q, r⟩
      show (k4_valueOf (w + 1) 145 (nI m) g).bind _ = some (A.be (nI m).toNatClampNeg, g')
      rw [e, hcl]
      rfl
theorem join_ok {c : Nat} (h : isJ c) (a b : Int32) (g : G) : k7_join (nI c) a b g = some (joinA c a b) := by
  rcases h with rfl | rfl | rfl | rfl | rfl | rfl | rfl | rfl | rfl | rfl | rfl | rfl | rfl
  · rfl
  · rfl
  · rfl
  · show (if b = 0 then some 0 else dv a b fun x => some x) = some (if b = 0 then 0 else a / b)
    by_cases e : b = 0
    · rw [if_pos e, if_pos e]
    · rw [if_neg e, if_neg e]
      exact if_neg e
  · show (if b ≤ a then some 0 else some 1) = some (if b ≤ a then 0 else 1)
    split <;> rfl
  · show (if a ≤ b then some 0 else some 1) = some (if a ≤ b then 0 else 1)
    split <;> rfl
  · show (if a = b then some 1 else some 0) = some (if a = b then 1 else 0)
    split <;> rfl
  · show (if b < a then some 0 else some 1) = some (if b < a then 0 else 1)
    split <;> rfl
  · show (if a < b then some 0 else some 1) = some (if a < b then 0 else 1)
    split <;> rfl
  · rfl
  · rfl
  · rfl
  · rfl
theorem follow_leaf {w c : Nat} {v x : Int32} {g g1 : G} (h1 : k8_isOrder (nI c) g = some 0) (h2 : ¬ nI c = 6) (h3 : ¬ nI c = 149) (h4 : k7_joinsTwo (nI c) g = some 0) (h5 : k7_valueOf w (nI c) v g = some (x, g1)) : k7_follow w (nI c) v g = k7_push w x g1 := by
  unfold k7_follow
  rw [h1, some_bind, if_pos rfl, if_neg h2, if_neg h3, h4, some_bind, if_pos rfl, h5, some_bind]
  show (k7_push w x g1).bind some = _
  cases k7_push w x g1 <;> rfl
theorem leaf_not {N c : Nat} {v : Int32} (h : leafOK N c v) (g : G) : k8_isOrder (nI c) g = some 0 ∧ ¬ nI c = 6 ∧ ¬ nI c = 149 ∧ k7_joinsTwo (nI c) g = some 0 := by
  rcases h with rfl | rfl | rfl | rfl | rfl | rfl | ⟨rfl | rfl | rfl | rfl | rfl | rfl, -⟩ <;> exact ⟨rfl, by decide, by decide, rfl⟩
theorem join_not {c : Nat} (h : isJ c) (g : G) : k8_isOrder (nI c) g = some 0 ∧ ¬ nI c = 6 ∧ ¬ nI c = 149 ∧ k7_joinsTwo (nI c) g = some 1 := by
  rcases h with rfl | rfl | rfl | rfl | rfl | rfl | rfl | rfl | rfl | rfl | rfl | rfl | rfl <;> exact ⟨rfl, by decide, by decide, rfl⟩
/-- one step that isn't an order -/
theorem step_ok {w : Nat} {s : SS} {v' : Int32} {st st' : List Int32} {A : TA} {g : G} (hA : WA A) (h : RW w A g) (hs : stW w st g) (hl : st.length < 400) (ho : stepOK A.N s) (hu : usesV s.1 = true → v' = s.2) (hr : stepA A s.1 s.2 st = some st') : ∃ g', k7_follow w (nI s.1) v' g = some g' ∧ RW w A g' ∧ stW w st' g' ∧ fC w g g' ∧ st'.length ≤ st.length + 1 := by
  obtain ⟨c, v⟩ := s
  rcases ho with e | e | hj | hlf
  · have e : c = 6 := e
    subst e
    cases st with
    | nil => cases hr
    | cons x st =>
      have hr : some (-x :: st) = some st' := hr
      cases hr
      obtain ⟨g1, e1, r1, s1, f1⟩ := pop_ok h hs (by simp only [List.length_cons] at hl; omega)
      obtain ⟨g2, e2, r2, s2, f2⟩ := push_ok (v := -x) r1 s1 (by simp only [List.length_cons] at hl; omega)
      refine ⟨g2, ?_, r2, s2, f1.trans f2, by simp only [List.length_cons]; omega⟩
      show (k7_pop w g).bind _ = _
      rw [e1, some_bind]
      show (k7_push w (-x) g1).bind _ = _
      rw [e2]
      rfl
  · have e : c = 149 := e
    subst e
    cases st with
    | nil => cases hr
    | cons x st =>
      have hr : some ((1 - x) :: st) = some st' := hr
      cases hr
      obtain ⟨g1, e1, r1, s1, f1⟩ := pop_ok h hs (by simp only [List.length_cons] at hl; omega)
      obtain ⟨g2, e2, r2, s2, f2⟩ := push_ok (v := 1 - x) r1 s1 (by simp only [List.length_cons] at hl; omega)
      refine ⟨g2, ?_, r2, s2, f1.trans f2, by simp only [List.length_cons]; omega⟩
      show (k7_pop w g).bind _ = _
      rw [e1, some_bind]
      show (k7_push w (1 - x) g1).bind _ = _
      rw [e2]
      rfl
  · have hj : isJ c := hj
    obtain ⟨n1, n2, n3, n4⟩ := join_not hj g
    have hr : stepA A c v st = some st' := hr
    have hbad : ∀ x : List Int32, x.length < 2 → stepA A c v x = none := by
      intro x hx
      rcases hj with rfl | rfl | rfl | rfl | rfl | rfl | rfl | rfl | rfl | rfl | rfl | rfl | rfl <;>
        (cases x with
         | nil => rfl
         | cons a x => cases x with
           | nil => rfl
           | cons b x => simp only [List.length_cons] at hx; omega)
    cases st with
    | nil => rw [hbad [] (by decide)] at hr; cases hr
    | cons b st => cases st with
      | nil => rw [hbad [b] (by decide : (1 : Nat) < 2)] at hr; cases hr
      | cons a st =>
        rw [stepA_join hj] at hr
        cases hr
        simp only [List.length_cons] at hl
        obtain ⟨g1, e1, r1, s1, f1⟩ := pop_ok h hs (by simp only [List.length_cons]; omega)
        obtain ⟨g2, e2, r2, s2, f2⟩ := pop_ok r1 s1 (by omega)
        obtain ⟨g3, e3, r3, s3, f3⟩ := push_ok (v := joinA c a b) r2 s2 (by omega)
        refine ⟨g3, ?_, r3, s3, (f1.trans f2).trans f3, by simp only [List.length_cons]; omega⟩
        show k7_follow w (nI c) v' g = _
        unfold k7_follow
        rw [n1, some_bind, if_pos rfl, if_neg n2, if_neg n3, n4, some_bind, if_neg (by decide), e1, some_bind, bd_eq]
        show (k7_pop w g1).bind _ = _
        rw [e2, some_bind]
        show (k7_join (nI c) a b g2).bind _ = _
        rw [join_ok hj, some_bind]
        show (k7_push w (joinA c a b) g2).bind _ = _
        rw [e3]
        rfl
  · have hlf : leafOK A.N c v := hlf
    have hr : stepA A c v st = some st' := hr
    rw [stepA_leaf hlf] at hr
    cases hr
    obtain ⟨n1, n2, n3, n4⟩ := leaf_not hlf g
    obtain ⟨g1, e1, q1, r1⟩ := leaf_ok hA h hlf hu
    obtain ⟨g2, e2, r2, s2, f2⟩ := push_ok (v := leafA A c v) r1 (hs.q q1.w q1.a) hl
    exact ⟨g2, by rw [follow_leaf n1 n2 n3 n4 e1]; exact e2, r2, s2, q1.C.trans f2, by simp only [List.length_cons]; omega⟩
