/-! a minute of the class -/
def carA (A : TA) (d m : Nat) (t x : Int32) : TA := if t = 0 then A else if d = 0 then ordA A 0 m else if d = 1 then ordA A 1 m else if d = 2 then ordA A 2 m else if d = 3 then turnA A m (holdV ((A.of m).toInt64 + x.toInt64) (-90) 90) else clarA A m (holdV ((A.cl m).toInt64 - x.toInt64) 0 (A.be m))
theorem carA_N {A : TA} {d m : Nat} {t x : Int32} : (carA A d m t x).N = A.N := by
  unfold carA
  split
  · rfl
  · split
    · exact ordA_N
    · split
      · exact ordA_N
      · split
        · exact ordA_N
        · split <;> rfl
theorem WA.car {A : TA} {d m : Nat} {t x : Int32} (h : WA A) (hm : m < A.N) : WA (carA A d m t x) := by
  unfold carA
  split
  · exact h
  · split
    · exact h.ord hm (Or.inl rfl)
    · split
      · exact h.ord hm (Or.inr (Or.inl rfl))
      · split
        · exact h.ord hm (Or.inr (Or.inr rfl))
        · split
          · exact h.turn (holdV_rng (by decide))
          · obtain ⟨-, ⟨b1, b2⟩, -⟩ := h.rng hm
            obtain ⟨c1, c2⟩ := holdV_rng (x := (A.cl m).toInt64 - x.toInt64) b1
            exact h.clar ⟨c1, Int32.le_trans c2 b2⟩
theorem shake_ok {w m : Nat} {x : Int32} {A : TA} {g : G} (h : RW w A g) (hm : m < A.N) : ∃ g', k4_shake (w + 1) (nI m) x g = some g' ∧ fM w g g' ∧ RW w (turnA A m (holdV ((A.of m).toInt64 + x.toInt64) (-90) 90)) g' := by
  have := h.N9
  obtain ⟨g', e1, f1, r1⟩ := turn_ok (v := holdV ((A.of m).toInt64 + x.toInt64) (-90) 90) h hm
  refine ⟨g', ?_, f1, r1⟩
  unfold k4_shake
  rw [rw_pre h hm, some_bind, if_neg (by decide), ld_n (by omega) (by omega), (h.m hm).2.2, k8_hold_eq, some_bind, e1]
  rfl
theorem dust_ok {w m : Nat} {x : Int32} {A : TA} {g : G} (h : RW w A g) (hm : m < A.N) : ∃ g', k4_dust (w + 1) (nI m) x g = some g' ∧ fM w g g' ∧ RW w (clarA A m (holdV ((A.cl m).toInt64 - x.toInt64) 0 (A.be m))) g' := by
  have := h.N9
  obtain ⟨g', e1, f1, r1⟩ := dim_ok (v := x) (hi := A.be m) h hm
  refine ⟨g', ?_, f1, r1⟩
  unfold k4_dust
  rw [rw_pre h hm, some_bind, if_neg (by decide), ld_n (by omega) (by omega), (h.m hm).2.1, e1]
  rfl
theorem doStep_not {d : Nat} (hd : d < 5) (g : G) : k8_isOrder (nI (doStep d)) g = some 1 ∧ k8_isOrderBySum (nI (doStep d)) g = some (if 3 ≤ d then 1 else 0) := by
  rcases (show d = 0 ∨ d = 1 ∨ d = 2 ∨ d = 3 ∨ d = 4 by omega) with rfl | rfl | rfl | rfl | rfl <;> exact ⟨rfl, rfl⟩
/-- the end of an order: what it does -/
theorem car28 {w d m : Nat} {t x : Int32} {A : TA} {st : List Int32} {g : G} (hA : WA A) (h : RW w A g) (hs : stW w st g) (hd : d < 5) (hm : m < A.N) : ∃ g', k7_carryOut_28 w (nI (doStep d)) (nI m) (if t = 0 then 0 else 1) x g = some g' ∧ RW w (carA A d m t x) g' ∧ stW w st g' ∧ fC w g g' := by
  unfold k7_carryOut_28 carA
  by_cases et : t = 0
  · rw [if_pos et, if_pos et, if_pos rfl]
    exact ⟨g, rfl, h, hs, fC.refl⟩
  · rw [if_neg et, if_neg et, if_neg (by decide)]
    rcases (show d = 0 ∨ d = 1 ∨ d = 2 ∨ d = 3 ∨ d = 4 by omega) with rfl | rfl | rfl | rfl | rfl
    · obtain ⟨g', e1, f1, r1⟩ := add_ok (v := 0) hA h hm
      refine ⟨g', ?_, r1, hs.q (f1 _ (by omega) (by omega) (by omega)) (f1 _ (by omega) (by omega) (by omega)), f1.C⟩
      show (k3_add (w + 9) 0 (nI m) g).bind _ = _
      rw [e1]; rfl
    · obtain ⟨g', e1, f1, r1⟩ := add_ok (v := 1) hA h hm
      refine ⟨g', ?_, r1, hs.q (f1 _ (by omega) (by omega) (by omega)) (f1 _ (by omega) (by omega) (by omega)), f1.C⟩
      show (k3_add (w + 9) 1 (nI m) g).bind _ = _
      rw [e1]; rfl
    · obtain ⟨g', e1, f1, r1⟩ := add_ok (v := 2) hA h hm
      refine ⟨g', ?_, r1, hs.q (f1 _ (by omega) (by omega) (by omega)) (f1 _ (by omega) (by omega) (by omega)), f1.C⟩
      show (k3_add (w + 9) 2 (nI m) g).bind _ = _
      rw [e1]; rfl
    · obtain ⟨g', e1, f1, r1⟩ := shake_ok (x := x) h hm
      refine ⟨g', ?_, r1, hs.q (f1 _ (by omega) (by omega) (by omega) (by omega) (by omega) (by omega) (by omega) (by omega)) (f1 _ (by omega) (by omega) (by omega) (by omega) (by omega) (by omega) (by omega) (by omega)), f1.C⟩
      show (k4_shake (w + 1) (nI m) x g).bind _ = _
      rw [e1]; rfl
    · obtain ⟨g', e1, f1, r1⟩ := dust_ok (x := x) h hm
      refine ⟨g', ?_, r1, hs.q (f1 _ (by omega) (by omega) (by omega) (by omega) (by omega) (by omega) (by omega) (by omega)) (f1 _ (by omega) (by omega) (by omega) (by omega) (by omega) (by omega) (by omega) (by omega)), f1.C⟩
      show (k4_dust (w + 1) (nI m) x g).bind _ = _
      rw [e1]; rfl
theorem carA_x {A : TA} {d m : Nat} {t x y : Int32} (hd : d < 3) : carA A d m t x = carA A d m t y := by
  unfold carA
  by_cases e : t = 0
  · rw [if_pos e, if_pos e]
  · rw [if_neg e, if_neg e]
    by_cases e0 : d = 0
    · rw [if_pos e0, if_pos e0]
    · rw [if_neg e0, if_neg e0]
      by_cases e1 : d = 1
      · rw [if_pos e1, if_pos e1]
      · have e2 : d = 2 := by omega
        rw [if_neg e1, if_neg e1, if_pos e2, if_pos e2]
theorem order_ok {w d m : Nat} {t x v' : Int32} {A : TA} {st st' : List Int32} {g : G} (hA : WA A) (h : RW w A g) (hst : st = t :: (if 3 ≤ d then x :: st' else st')) (hs : stW w st g) (hl : st.length ≤ 400) (hd : d < 5) (hm : m < A.N) (hv : v' = nI m) : ∃ g', k7_follow w (nI (doStep d)) v' g = some g' ∧ RW w (carA A d m t x) g' ∧ stW w st' g' ∧ fC w g g' := by
  subst hst
  subst hv
  obtain ⟨n1, n2⟩ := doStep_not hd g
  simp only [List.length_cons] at hl
  obtain ⟨g1, e1, r1, s1, f1⟩ := pop_ok h hs (by omega)
  have n2 := (doStep_not hd g1).2
  have key : ∃ g', k7_carryOut_12 w (nI (doStep d)) (nI m) (if t = 0 then 0 else 1) g1 = some g' ∧ RW w (carA A d m t x) g' ∧ stW w st' g' ∧ fC w g1 g' := by
    unfold k7_carryOut_12
    rw [n2, some_bind]
    by_cases e3 : 3 ≤ d
    · rw [if_pos e3, if_neg (by decide)]
      rw [if_pos e3] at s1 hl
      simp only [List.length_cons] at hl
      obtain ⟨g2, e2, r2, s2, f2⟩ := pop_ok r1 s1 (by omega)
      obtain ⟨g3, e4, r3, s3, f3⟩ := car28 (t := t) (x := x) hA r2 s2 hd hm
      exact ⟨g3, by rw [e2, some_bind]; exact e4, r3, s3, f2.trans f3⟩
    · rw [if_neg e3, if_pos rfl]
      rw [if_neg e3] at s1
      obtain ⟨g3, e4, r3, s3, f3⟩ := car28 (t := t) (x := 0) hA r1 s1 hd hm
      refine ⟨g3, e4, ?_, s3, f3⟩
      have this : carA A d m t 0 = carA A d m t x := carA_x (by omega)
      rw [← this]
      exact r3
  obtain ⟨g', k1, k2, k3, k4⟩ := key
  refine ⟨g', ?_, k2, k3, f1.trans k4⟩
  unfold k7_follow k7_carryOut
  rw [n1, some_bind, if_neg (by decide), e1, some_bind]
  by_cases e : t = 0
  · rw [if_pos e] at k1
    show (if t = 0 then k7_carryOut_12 w (nI (doStep d)) (nI m) 0 g1 else k7_carryOut_12 w (nI (doStep d)) (nI m) 1 g1).bind _ = _
    rw [if_pos e, k1]
    rfl
  · rw [if_neg e] at k1
    show (if t = 0 then k7_carryOut_12 w (nI (doStep d)) (nI m) 0 g1 else k7_carryOut_12 w (nI (doStep d)) (nI m) 1 g1).bind _ = _
    rw [if_neg e, k1]
    rfl
/-! the steps of the plan, one after another -/
theorem RPl.C {w : Nat} {P : List OR4} {g g' : G} (hw : 21 ≤ w) (h : RPl P g) (hf : fC w g g') : RPl P g' := h.frame (hf 16 (by omega)) (hf 19 (by omega)) (hf 20 (by omega))
/-- the answer of a sum or a test -/
def valS (A : TA) (l : List SS) : Int32 := match runS A l [] with
  | some (x :: _) => x
  | _ => 0
def evOK (N : Nat) (l : List SS) : Prop := (∀ s, s ∈ l → stepOK N s) ∧ ∀ (A : TA) (st : List Int32), runS A l st = some (valS A l :: st)
theorem at14 {w j : Nat} {P : List OR4} {g : G} {K : Int32 → Int32 → G → Option G} {f : Nat} {v1 v2 : Int32} {c : Nat} {v : Int32} (hp : RPl P g) (hj : (pSteps P)[j]? = some (c, v)) : ∃ v', (usesV c = true → v' = v) ∧ k7_pass_14 w K (f + 1) v1 v2 (nI j) g = (k7_follow w (nI c) v' g).bind fun g8 => k7_pass_14 w K f v1 v2 (nI (j + 1)) g8 := by
  obtain ⟨h1, h2, h3, h4, h5⟩ := hp
  have hlt : j < (pSteps P).length := (List.getElem?_eq_some_iff.mp hj).1
  obtain ⟨c1, c2⟩ := h5 j c v hj
  refine ⟨g 20 j, c2, ?_⟩
  conv => lhs; unfold k7_pass_14
  rw [h4, if_neg (by rw [nI_leI (by omega) (by omega)]; omega), if_neg (fun z => absurd ((lit_le (M := 400) (k := 400) rfl (by omega) (by omega)).mp z) (by omega)), ld_n (by omega) (by omega), ld_n (by omega) (by omega), c1]
  simp only [bd_eq, nI_1]
theorem steps_ok {w : Nat} {P : List OR4} {K : Int32 → Int32 → G → Option G} {v1 v2 : Int32} {A : TA} (hw : 21 ≤ w) (hA : WA A) : ∀ (l : List SS) (j f : Nat) (st st' : List Int32) (g : G), RPl P g → RW w A g → stW w st g → st.length ≤ j → (∀ i, i < l.length → (pSteps P)[j + i]? = l[i]?) → (∀ s, s ∈ l → stepOK A.N s) → runS A l st = some st' → l.length < f → ∃ g', RW w A g' ∧ stW w st' g' ∧ fC w g g' ∧ st'.length ≤ j + l.length ∧ k7_pass_14 w K f v1 v2 (nI j) g = k7_pass_14 w K (f - l.length) v1 v2 (nI (j + l.length)) g' := by
  intro l
  induction l with
  | nil =>
    intro j f st st' g hp h hs hst hat ho hr hf
    have hr : some st = some st' := hr
    cases hr
    exact ⟨g, h, hs, fC.refl, hst, rfl⟩
  | cons s l ih =>
    intro j f st st' g hp h hs hst hat ho hr hf
    obtain ⟨c, v⟩ := s
    simp only [List.length_cons] at hf
    obtain ⟨f, rfl⟩ : ∃ z, f = z + 1 := ⟨f - 1, by omega⟩
    have hr : (stepA A c v st).bind (runS A l) = some st' := hr
    obtain ⟨st1, hr1, hr2⟩ := Option.bind_eq_some_iff.mp hr
    have h0 := hat 0 (by simp only [List.length_cons]; omega)
    have h0 : (pSteps P)[j]? = some (c, v) := h0
    have hlt : j < (pSteps P).length := (List.getElem?_eq_some_iff.mp h0).1
    have h400 := hp.2.2.1
    obtain ⟨v', u1, u2⟩ := at14 (w := w) (K := K) (f := f) (v1 := v1) (v2 := v2) hp h0
    obtain ⟨g1, e1, r1, s1, f1, q1⟩ := step_ok (s := (c, v)) (v' := v') hA h hs (by omega) (ho _ List.mem_cons_self) u1 hr1
    obtain ⟨g2, r2, s2, f2, q2, e2⟩ := ih (j + 1) f st1 st' g1 (hp.C hw f1) r1 s1 (by omega) (fun i hi => by
      have := hat (i + 1) (by simp only [List.length_cons]; omega)
      rw [show j + 1 + i = j + (i + 1) by omega, this]
      rfl) (fun s hs => ho s (List.mem_cons_of_mem _ hs)) hr2 (by omega)
    refine ⟨g2, r2, s2, f1.trans f2, by simp only [List.length_cons]; omega, ?_⟩
    rw [u2]
    have e1 : k7_follow w (nI c) v' g = some g1 := e1
    rw [e1, some_bind, e2]
    simp only [List.length_cons]
    rw [show f + 1 - (l.length + 1) = f - l.length by omega, show j + (l.length + 1) = j + 1 + l.length by omega]
def tstS (o : OR4) : List SS := if o.2.2.2 = [] then [(7, 0)] else o.2.2.2
def goodO (N : Nat) (o : OR4) : Prop := o.1 < 5 ∧ o.2.1 < N ∧ (3 ≤ o.1 → evOK N o.2.2.1) ∧ (o.1 < 3 → o.2.2.1 = []) ∧ (o.2.2.2 ≠ [] → evOK N o.2.2.2)
def carO (A : TA) (o : OR4) : TA := carA A o.1 o.2.1 (valS A (tstS o)) (valS A o.2.2.1)
theorem tst_ok {N : Nat} {o : OR4} (h : goodO N o) : evOK N (tstS o) := by
  unfold tstS
  by_cases e : o.2.2.2 = []
  · rw [if_pos e]
    refine ⟨fun s hs => ?_, fun A st => rfl⟩
    rw [List.mem_singleton.mp hs]
    exact Or.inr (Or.inr (Or.inr (Or.inr (Or.inl rfl))))
  · rw [if_neg e]
    exact h.2.2.2.2 e
theorem oSteps_eq (o : OR4) : oSteps o = o.2.2.1 ++ (tstS o ++ [(doStep o.1, nI o.2.1)]) := rfl
theorem oneO_ok {w : Nat} {P : List OR4} {K : Int32 → Int32 → G → Option G} {v1 v2 : Int32} {A : TA} {o : OR4} {j f : Nat} {g : G} (hw : 21 ≤ w) (hA : WA A) (hg : goodO A.N o) (hp : RPl P g) (h : RW w A g) (hs : stW w [] g) (hat : ∀ i, i < (oSteps o).length → (pSteps P)[j + i]? = (oSteps o)[i]?) (hf : (oSteps o).length < f) : ∃ g', RW w (carO A o) g' ∧ stW w [] g' ∧ fC w g g' ∧ k7_pass_14 w K f v1 v2 (nI j) g = k7_pass_14 w K (f - (oSteps o).length) v1 v2 (nI (j + (oSteps o).length)) g' := by
  obtain ⟨hd, hm, hs3, hs0, -⟩ := id hg
  have ht := tst_ok hg
  have hlen : (oSteps o).length = o.2.2.1.length + ((tstS o).length + 1) := by rw [oSteps_eq]; simp only [List.length_append, List.length_cons, List.length_nil]
  have hsum : ∃ st1 : List Int32, st1 = (if 3 ≤ o.1 then [valS A o.2.2.1] else []) ∧ runS A o.2.2.1 [] = some st1 ∧ ∀ s, s ∈ o.2.2.1 → stepOK A.N s := by
    by_cases e3 : 3 ≤ o.1
    · exact ⟨_, rfl, by rw [if_pos e3]; exact (hs3 e3).2 A [], (hs3 e3).1⟩
    · refine ⟨_, rfl, by rw [if_neg e3, hs0 (by omega)]; rfl, fun s hs => ?_⟩
      rw [hs0 (by omega)] at hs
      cases hs
  obtain ⟨st1, q1, q2, q3⟩ := hsum
  obtain ⟨g1, r1, s1, f1, l1, e1⟩ := steps_ok (P := P) (K := K) (v1 := v1) (v2 := v2) hw hA o.2.2.1 j f [] st1 g hp h hs (by simp) (fun i hi => by
    rw [hat i (by omega), oSteps_eq, List.getElem?_append_left hi]) q3 q2 (by omega)
  obtain ⟨g2, r2, s2, f2, l2, e2⟩ := steps_ok (P := P) (K := K) (v1 := v1) (v2 := v2) hw hA (tstS o) (j + o.2.2.1.length) (f - o.2.2.1.length) st1 (valS A (tstS o) :: st1) g1 (hp.C hw f1) r1 s1 l1 (fun i hi => by
    rw [show j + o.2.2.1.length + i = j + (o.2.2.1.length + i) by omega, hat _ (by omega), oSteps_eq, List.getElem?_append_right (by omega), List.getElem?_append_left (by omega)]
    congr 1
    omega) ht.1 (ht.2 A st1) (by omega)
  have hp2 := (hp.C hw f1).C hw f2
  have h0 : (pSteps P)[j + o.2.2.1.length + (tstS o).length]? = some (doStep o.1, nI o.2.1) := by
    rw [show j + o.2.2.1.length + (tstS o).length = j + (o.2.2.1.length + (tstS o).length) by omega, hat _ (by omega), oSteps_eq, List.getElem?_append_right (by omega), List.getElem?_append_right (by omega)]
    rw [show o.2.2.1.length + (tstS o).length - o.2.2.1.length - (tstS o).length = 0 by omega]
    rfl
  have hlt : j + o.2.2.1.length + (tstS o).length < (pSteps P).length := (List.getElem?_eq_some_iff.mp h0).1
  have h400 := hp.2.2.1
  obtain ⟨f9, hf9⟩ : ∃ z, f - o.2.2.1.length - (tstS o).length = z + 1 := ⟨f - o.2.2.1.length - (tstS o).length - 1, by omega⟩
  obtain ⟨v', u1, u2⟩ := at14 (w := w) (K := K) (f := f9) (v1 := v1) (v2 := v2) hp2 h0
  obtain ⟨g3, e3, r3, s3, f3⟩ := order_ok (d := o.1) (m := o.2.1) (t := valS A (tstS o)) (x := valS A o.2.2.1) (v' := v') (st' := []) hA r2 (by rw [q1]) s2 (by omega) hd hm (u1 (by
    rcases (show o.1 = 0 ∨ o.1 = 1 ∨ o.1 = 2 ∨ o.1 = 3 ∨ o.1 = 4 by omega) with z | z | z | z | z <;> rw [z] <;> rfl))
  refine ⟨g3, r3, s3, (f1.trans f2).trans f3, ?_⟩
  rw [e1, e2, hf9, u2, e3, some_bind, hlen]
  congr 1
  · omega
  · congr 1
    omega
theorem carO_N {A : TA} {o : OR4} : (carO A o).N = A.N := carA_N
theorem carL_N : ∀ (L : List OR4) (A : TA), (L.foldl carO A).N = A.N := by
  intro L
  induction L with
  | nil => intro A; rfl
  | cons o L ih =>
    intro A
    show (L.foldl carO (carO A o)).N = A.N
    rw [ih, carO_N]
theorem WA.carL : ∀ (L : List OR4) {A : TA}, WA A → (∀ o, o ∈ L → goodO A.N o) → WA (L.foldl carO A) := by
  intro L
  induction L with
  | nil => intro A h _; exact h
  | cons o L ih =>
    intro A h hg
    refine ih (A := carO A o) (h.car (hg o List.mem_cons_self).2.1) (fun o' ho' => ?_)
    rw [carO_N]
    exact hg o' (List.mem_cons_of_mem _ ho')
theorem plan_ok {w : Nat} {P : List OR4} {K : Int32 → Int32 → G → Option G} {v1 v2 : Int32} (hw : 21 ≤ w) : ∀ (L L0 : List OR4) (f : Nat) (A : TA) (g : G), P = L0 ++ L → WA A → (∀ o, o ∈ L → goodO A.N o) → RPl P g → RW w A g → stW w [] g → (pSteps L).length < f → ∃ g', RW w (L.foldl carO A) g' ∧ fC w g g' ∧ k7_pass_14 w K f v1 v2 (nI (pSteps L0).length) g = k7_pass_60 w K v1 v2 g' := by
  intro L
  induction L with
  | nil =>
    intro L0 f A g hP hA hg hp h hs hf
    obtain ⟨f, rfl⟩ : ∃ z, f = z + 1 := ⟨f - 1, by omega⟩
    refine ⟨g, h, fC.refl, ?_⟩
    have e : P = L0 := by rw [hP, List.append_nil]
    subst e
    have h400 := hp.2.2.1
    conv => lhs; unfold k7_pass_14
    rw [hp.2.2.2.1, if_pos (by rw [nI_leI (by omega) (by omega)]; omega)]
  | cons o L ih =>
    intro L0 f A g hP hA hg hp h hs hf
    have hc : pSteps (o :: L) = oSteps o ++ pSteps L := rfl
    rw [hc, List.length_append] at hf
    have hall : pSteps P = pSteps L0 ++ (oSteps o ++ pSteps L) := by
      rw [hP]
      show (L0 ++ o :: L).flatMap oSteps = _
      rw [List.flatMap_append]
      rfl
    obtain ⟨g1, r1, s1, f1, e1⟩ := oneO_ok (K := K) (v1 := v1) (v2 := v2) (j := (pSteps L0).length) (f := f) hw hA (hg o List.mem_cons_self) hp h hs (fun i hi => by
      rw [hall, List.getElem?_append_right (by omega), List.getElem?_append_left (by omega)]
      congr 1
      omega) (by omega)
    have hw1 : WA (carO A o) := hA.car (hg o List.mem_cons_self).2.1
    obtain ⟨g2, r2, f2, e2⟩ := ih (L0 ++ [o]) (f - (oSteps o).length) (carO A o) g1 (by rw [hP]; simp) hw1 (fun o' ho' => by rw [carO_N]; exact hg o' (List.mem_cons_of_mem _ ho')) (hp.C hw f1) r1 s1 (by omega)
    refine ⟨g2, r2, f1.trans f2, ?_⟩
    rw [e1, ← e2]
    congr 2
    show _ = ((L0 ++ [o]).flatMap oSteps).length
    rw [List.flatMap_append, List.length_append]
    show _ = (pSteps L0).length + (oSteps o ++ []).length
    rw [List.append_nil]
