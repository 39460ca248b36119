/-! lines: orders, mirrors, numbers of the train -/
theorem tok_1 {k : Nat} : (tok k).1 = k := by
  unfold tok
  split
  · rfl
  · split
    · rename_i h; exact h.symm
    · split
      · rename_i h; exact h.symm
      · rfl
def LN (J : List It) (p q : Nat) (D : List DS) (l : List SS) (g : G) : Prop := ∃ g1 g' l', k0_line g = some (1, g1) ∧ k0_take 59 g1 = some (1, g') ∧ GS J q (D ++ l') g' ∧ l'.map (stJ J) = l ∧ fG g g' ∧ p < J.length ∧ kdJ J p ≠ 0
theorem nx_of {J : List It} {q : Nat} {x : It} (h : J[q]? = some x) (h1 : x.1 = 59 ∨ x.1 = 139) : nx J q ∧ kdJ J q ≠ 150 ∧ kdJ J q ≠ 151 := by
  have := kdJ_of h
  unfold nx
  omega
theorem sum0_ok {N p : Nat} {J : List It} {D : List DS} {g : G} {l : List SS} {i : List It} (h : PX N 3 false l i) (hS : GS J p D g) (hJ : AtJ J p i) (hp : p ≤ J.length) (hl : D.length + l.length ≤ 400) (hn : nx J (p + (ns i).length)) : GR J (k0_sum 0 g) (p + (ns i).length) D l g := sumV (F := 98) (a := nI 0) (gram_ok 3 false l i h 98 0 p D g (by omega) (by omega) hS hJ hp hl (fun z => by cases z)) (hJ.le hp) hn
theorem test0_ok {N p : Nat} {J : List It} {D : List DS} {g : G} {l : List SS} {i : List It} (h : PX N 4 true l i) (hS : GS J p D g) (hJ : AtJ J p i) (hp : p ≤ J.length) (hl : D.length + l.length ≤ 400) (hn : nx J (p + (ns i).length)) (h1 : kdJ J (p + (ns i).length) ≠ 150) (h2 : kdJ J (p + (ns i).length) ≠ 151) : GR J (k0_test 0 g) (p + (ns i).length) D l g := test_of (F := 99) (a := nI 0) (both_of (F := 98) (a := nI 0) (gram_ok 4 true l i h 98 0 p D g (by omega) (by omega) hS hJ hp hl (fun _ => hn)) (hJ.le hp) h1) (hJ.le hp) h2
theorem ns_bl {l : List It} : ns (bl :: l) = ns l := rfl
theorem ns_tok {k : Nat} {l : List It} (h : k ≠ 1000) : ns (tok k :: l) = tok k :: ns l := by
  unfold ns
  rw [List.filter_cons_of_pos (by rw [tok_1]; simpa using h)]
set_option maxHeartbeats 2000000 in
theorem gorder_ok {N p : Nat} {J : List It} {D : List DS} {g : G} {o : OR4} {i : List It} (h : PO N o i) (hN : N ≤ 10) (hS : GS J p D g) (hJ : AtJ J p i) (hp : p ≤ J.length) (hl : D.length + (oSteps o).length ≤ 400) : LN J p (p + (ns i).length) D (oSteps o) g := by
  obtain ⟨d, n, la, lt⟩ := o
  obtain ⟨ho, hn, i1, i2, h1, h2, rfl⟩ := h
  have ho : d < 5 := ho
  have hn : n < N := hn
  have h1 : (d < 3 ∧ la = []) ∨ (3 ≤ d ∧ PX N 3 false la i1) := h1
  have h2 : lt = [] ∨ (lt ≠ [] ∧ PX N 4 true lt i2) := h2
  have hl : D.length + (la ++ ((if lt = [] then [(7, 0)] else lt) ++ [(doStep d, nI n)])).length ≤ 400 := hl
  rw [List.length_append, List.length_append, List.length_singleton] at hl
  obtain ⟨R1, hR1⟩ : ∃ R, R = (if d < 3 then [] else bl :: tok 134 :: bl :: i1) := ⟨_, rfl⟩
  obtain ⟨R2, hR2⟩ : ∃ R, R = (if lt = [] then [] else bl :: tok 139 :: bl :: i2) := ⟨_, rfl⟩
  have e0 : ordI (d, n, la, lt) i1 i2 = tok (doStep d) :: bl :: nmI n :: (R1 ++ (R2 ++ [tok 59])) := by rw [hR1, hR2]; rfl
  rw [e0] at hJ ⊢
  obtain ⟨s, hs⟩ : ∃ s, s = doStep d := ⟨_, rfl⟩
  have hs1 : s = 136 ∨ s = 137 ∨ s = 138 ∨ s = 133 ∨ s = 135 := by
    rw [hs]; unfold doStep
    rcases (show d = 0 ∨ d = 1 ∨ d = 2 ∨ d = 3 ∨ d = 4 by omega) with rfl | rfl | rfl | rfl | rfl <;> decide
  have hs2 : (d < 3 ∧ (s = 136 ∨ s = 137 ∨ s = 138)) ∨ (3 ≤ d ∧ (s = 133 ∨ s = 135)) := by
    rw [hs]; unfold doStep
    rcases (show d = 0 ∨ d = 1 ∨ d = 2 ∨ d = 3 ∨ d = 4 by omega) with rfl | rfl | rfl | rfl | rfl <;> decide
  rw [← hs] at hJ ⊢
  have q0 : J[p]? = some (tok s) := hJ.hd (by rw [tok_1]; omega)
  have k0 : kdJ J p = s := by rw [kdJ_of q0, tok_1]
  have j1 := (hJ.tl (by rw [tok_1]; omega)).bl rfl
  have q1 : J[p + 1]? = some (nmI n) := j1.hd (show (2 : Nat) ≠ 1000 by decide)
  have j2 := j1.tl (show (2 : Nat) ≠ 1000 by decide)
  have hl0 := lt_of_at q0
  have hl1 := lt_of_at q1
  have j3 := j2.r
  have j4 := j3.r
  have q59 : J[p + 1 + 1 + (ns R1).length + (ns R2).length]? = some (tok 59) := j4.hd (show (59 : Nat) ≠ 1000 by decide)
  have hl9 := lt_of_at q59
  have hx9 := nx_of q59 (Or.inl rfl)
  have elen : p + (ns (tok s :: bl :: nmI n :: (R1 ++ (R2 ++ [tok 59])))).length = p + 1 + 1 + (ns R1).length + (ns R2).length + 1 := by
    rw [ns_tok (by omega), ns_bl]
    have : ns (nmI n :: (R1 ++ (R2 ++ [tok 59]))) = nmI n :: ns (R1 ++ (R2 ++ [tok 59])) := rfl
    rw [this, ns_app, ns_app]
    have : ns [tok 59] = [tok 59] := rfl
    rw [this]
    simp only [List.length_cons, List.length_append, List.length_nil]
    omega
  rw [elen]
  -- what is behind the sum
  have hb : nx J (p + 1 + 1 + (ns R1).length) ∧ (lt = [] → kdJ J (p + 1 + 1 + (ns R1).length) ≠ 139) := by
    by_cases e : lt = []
    · have : R2 = [] := by rw [hR2, if_pos e]
      rw [this] at q59
      have q59' : J[p + 1 + 1 + (ns R1).length]? = some (tok 59) := q59
      refine ⟨(nx_of q59' (Or.inl rfl)).1, fun _ => ?_⟩
      rw [kdJ_of q59']
      decide
    · have : R2 = bl :: tok 139 :: bl :: i2 := by rw [hR2, if_neg e]
      rw [this] at j3
      have q139 : J[p + 1 + 1 + (ns R1).length]? = some (tok 139) := AtJ.hd (AtJ.bl j3 rfl) (show (139 : Nat) ≠ 1000 by decide)
      exact ⟨(nx_of q139 (Or.inr rfl)).1, fun z => absurd z e⟩
  -- the order's words
  have A : GR J (k0_order (nI s) g) (p + 1 + 1 + (ns R1).length) D la g := by
    obtain ⟨g1, t1, t2, t3⟩ := take_yes (k := s) hS hp k0
    obtain ⟨g2, u1, u2, u3⟩ := take_yes (k := 2) t2 (by omega) (kdJ_of q1)
    have u1 : k0_take 2 g1 = some (1, g2) := u1
    have z1 : k8_isOrder (nI s) g = some 1 := by rcases hs1 with e | e | e | e | e <;> (rw [e]; rfl)
    unfold k0_order
    rw [z1, some_bind, if_neg (show ¬ (1 : Int32) = 0 by decide), t1, some_bind, if_neg (show ¬ (1 : Int32) = 0 by decide), u1, some_bind, if_neg (show ¬ (1 : Int32) = 0 by decide)]
    rcases h1 with ⟨hd, rfl⟩ | ⟨hd, hP⟩
    · have hs3 : s = 136 ∨ s = 137 ∨ s = 138 := by omega
      have z2 : k8_isOrderBySum (nI s) g2 = some 0 := by rcases hs3 with e | e | e <;> (rw [e]; rfl)
      rw [z2, some_bind, if_pos rfl]
      have : R1 = [] := by rw [hR1, if_pos hd]
      rw [this]
      exact ⟨g2, [], rfl, by rw [List.append_nil]; exact u2, rfl, t3.trans u3⟩
    · have hs3 : s = 133 ∨ s = 135 := by omega
      have z2 : k8_isOrderBySum (nI s) g2 = some 1 := by rcases hs3 with e | e <;> (rw [e]; rfl)
      rw [z2, some_bind, if_neg (show ¬ (1 : Int32) = 0 by decide)]
      have e1 : R1 = bl :: tok 134 :: bl :: i1 := by rw [hR1, if_neg (by omega)]
      have j5 := j2.l
      rw [e1] at j5
      have j6 := AtJ.bl j5 rfl
      have q134 : J[p + 1 + 1]? = some (tok 134) := j6.hd (show (134 : Nat) ≠ 1000 by decide)
      have j7 := (j6.tl (show (134 : Nat) ≠ 1000 by decide)).bl rfl
      have hl2 := lt_of_at q134
      obtain ⟨g3, v1, v2, v3⟩ := take_yes (k := 134) u2 (by omega) (kdJ_of q134)
      have v1 : k0_take 134 g2 = some (1, g3) := v1
      have er : p + 1 + 1 + (ns R1).length = p + 1 + 1 + 1 + (ns i1).length := by
        rw [e1, ns_bl, ns_tok (by decide), ns_bl, List.length_cons]
        omega
      rw [er] at hb ⊢
      obtain ⟨g4, m, w1, w2, w3, w4⟩ := sum0_ok hP v2 j7 (by omega) (by omega) hb.1
      rw [v1, some_bind, if_neg (show ¬ (1 : Int32) = 0 by decide), w1, some_bind, if_neg (show ¬ (1 : Int32) = 0 by decide)]
      exact ⟨g4, m, rfl, w2, w3, ((t3.trans u3).trans v3).trans w4⟩
  obtain ⟨g1, m1, a1, a2, a3, a4, a5⟩ := A.len
  have e128 : k0_take 128 g = some (0, g) := take_no (k := 128) hS hp (by rw [k0]; omega) (by decide)
  have e131 : k0_take 131 g = some (0, g) := take_no (k := 131) hS hp (by rw [k0]; omega) (by decide)
  have e132 : k0_take 132 g = some (0, g) := take_no (k := 132) hS hp (by rw [k0]; omega) (by decide)
  have hval : (if usesV s = true then valJ J (p + 1) else 0) = nI n := by
    have : usesV s = true := by rcases hs1 with e | e | e | e | e <;> (rw [e]; rfl)
    rw [if_pos this, valJ_nm (by rw [k0]; omega) q1 (by omega)]
  have hst : stJ J (s, p + 1) = (s, nI n) := by unfold stJ; rw [hval]
  have key : ∃ g2 l', k0_line g = some (1, g2) ∧ GS J (p + 1 + 1 + (ns R1).length + (ns R2).length) (D ++ l') g2 ∧ l'.map (stJ J) = oSteps (d, n, la, lt) ∧ fG g g2 := by
    unfold k0_line
    rw [e128, some_bind, if_pos rfl, e131, some_bind, if_pos rfl, e132, some_bind, if_pos rfl]
    dsimp only
    rw [hS.at', hS.kind hp, some_bind, bd_eq, nI_1, k0, a1, some_bind, if_neg (show ¬ (1 : Int32) = 0 by decide)]
    by_cases e : lt = []
    · have hl' : (if lt = [] then [((7 : Nat), (0 : Int32))] else lt) = [(7, 0)] := if_pos e
      rw [hl'] at hl
      have hl : D.length + (la.length + (1 + 1)) ≤ 400 := hl
      have er : R2 = [] := by rw [hR2, if_pos e]
      have e139 : k0_take 139 g1 = some (0, g1) := take_no a2 (by omega) (hb.2 e) (by decide)
      obtain ⟨g2, b1, b2, b3⟩ := write_ok (c := 7) (τ := p + 1) a2 (by omega) (by omega)
      obtain ⟨g3, c1, c2, c3⟩ := write_ok (c := s) (τ := p + 1) b2 (by omega) (by rw [List.length_append]; show (D ++ m1).length + 1 < 400; omega)
      have b1 : k2_write 8 7 (nI (p + 1)) g1 = some g2 := b1
      rw [e139, some_bind, if_pos rfl, b1, some_bind]
      unfold k0_line_103
      rw [c1, some_bind]
      refine ⟨g3, m1 ++ ([(7, p + 1)] ++ [(s, p + 1)]), rfl, ?_, ?_, (a4.trans b3).trans c3⟩
      · rw [er, ← List.append_assoc, ← List.append_assoc]
        exact c2
      · show _ = la ++ ((if lt = [] then [(7, 0)] else lt) ++ [(doStep d, nI n)])
        rw [hl', List.map_append, List.map_append, a3, ← hs, ← hst]
        rfl
    · have hP : PX N 4 true lt i2 := by
        rcases h2 with z | z
        · exact absurd z e
        · exact z.2
      rw [if_neg e] at hl
      have er : R2 = bl :: tok 139 :: bl :: i2 := by rw [hR2, if_neg e]
      have j5 := j3.l
      rw [er] at j5
      have j6 := AtJ.bl j5 rfl
      have q139 : J[p + 1 + 1 + (ns R1).length]? = some (tok 139) := j6.hd (show (139 : Nat) ≠ 1000 by decide)
      have j7 := (j6.tl (show (139 : Nat) ≠ 1000 by decide)).bl rfl
      have hl3 := lt_of_at q139
      obtain ⟨g2, b1, b2, b3⟩ := take_yes (k := 139) a2 (by omega) (kdJ_of q139)
      have b1 : k0_take 139 g1 = some (1, g2) := b1
      have er2 : p + 1 + 1 + (ns R1).length + (ns R2).length = p + 1 + 1 + (ns R1).length + 1 + (ns i2).length := by
        rw [er, ns_bl, ns_tok (by decide), ns_bl, List.length_cons]
        omega
      rw [er2] at hx9 ⊢
      obtain ⟨g3, m2, c1, c2, c3, c4, c5⟩ := (test0_ok hP b2 j7 (by omega) (by omega) hx9.1 hx9.2.1 hx9.2.2).len
      obtain ⟨g4, w1, w2, w3⟩ := write_ok (c := s) (τ := p + 1) c2 (by omega) (by omega)
      rw [b1, some_bind, if_neg (show ¬ (1 : Int32) = 0 by decide), c1, some_bind, if_neg (show ¬ (1 : Int32) = 0 by decide)]
      unfold k0_line_103
      rw [w1, some_bind]
      refine ⟨g4, m1 ++ (m2 ++ [(s, p + 1)]), rfl, ?_, ?_, ((a4.trans b3).trans c4).trans w3⟩
      · rw [← List.append_assoc, ← List.append_assoc]
        exact w2
      · show _ = la ++ ((if lt = [] then [(7, 0)] else lt) ++ [(doStep d, nI n)])
        rw [if_neg e, List.map_append, List.map_append, a3, c3, ← hs, ← hst]
        rfl
  obtain ⟨g2, l', b1, b2, b3, b4⟩ := key
  obtain ⟨g3, c1, c2, c3⟩ := take_yes (k := 59) b2 (by omega) (kdJ_of q59)
  exact ⟨g2, g3, l', b1, c1, c2, b3, b4.trans c3, hl0, by omega⟩
/-- a mirror's line, whatever its name -/
def mirN (w : List Int32) (x : Mi) : List It := tok 128 :: bl :: (2, w) :: bl :: tok 129 :: bl :: numI x.1 :: bl :: tok 130 :: bl :: ((if x.2.1 = true then [tok 45] else []) ++ [numI x.2.2, tok 59])
theorem mirN_I {m : Nat} {x : Mi} : mirI m x = mirN (109 :: dc m) x := rfl
theorem gmir_ok {w : List Int32} {p : Nat} {x : Mi} {J : List It} {D : List DS} {g : G} (hS : GS J p D g) (hJ : AtJ J p (mirN w x)) (hp : p ≤ J.length) : LN J p (p + (ns (mirN w x)).length) D [] g := by
  have j0 : AtJ J p (tok 128 :: bl :: (2, w) :: bl :: tok 129 :: bl :: numI x.1 :: bl :: tok 130 :: bl :: ((if x.2.1 = true then [tok 45] else []) ++ [numI x.2.2, tok 59])) := hJ
  have q0 : J[p]? = some (tok 128) := j0.hd (show (128 : Nat) ≠ 1000 by decide)
  have j1 := (j0.tl (show (128 : Nat) ≠ 1000 by decide)).bl rfl
  have q1 : J[p + 1]? = some (2, w) := j1.hd (show (2 : Nat) ≠ 1000 by decide)
  have j2 := (j1.tl (show (2 : Nat) ≠ 1000 by decide)).bl rfl
  have q2 : J[p + 1 + 1]? = some (tok 129) := j2.hd (show (129 : Nat) ≠ 1000 by decide)
  have j3 := (j2.tl (show (129 : Nat) ≠ 1000 by decide)).bl rfl
  have q3 : J[p + 1 + 1 + 1]? = some (numI x.1) := j3.hd (show (3 : Nat) ≠ 1000 by decide)
  have j4 := (j3.tl (show (3 : Nat) ≠ 1000 by decide)).bl rfl
  have q4 : J[p + 1 + 1 + 1 + 1]? = some (tok 130) := j4.hd (show (130 : Nat) ≠ 1000 by decide)
  have j5 := (j4.tl (show (130 : Nat) ≠ 1000 by decide)).bl rfl
  have l4 := lt_of_at q4
  obtain ⟨g1, a1, a2, a3⟩ := take_yes (k := 128) hS hp (kdJ_of q0)
  obtain ⟨g2, b1, b2, b3⟩ := take_yes (k := 2) a2 (by omega) (kdJ_of q1)
  obtain ⟨g3, c1, c2, c3⟩ := take_yes (k := 129) b2 (by omega) (kdJ_of q2)
  obtain ⟨g4, d1, d2, d3⟩ := take_yes (k := 3) c2 (by omega) (kdJ_of q3)
  obtain ⟨g5, e1, e2, e3⟩ := take_yes (k := 130) d2 (by omega) (kdJ_of q4)
  have a1 : k0_take 128 g = some (1, g1) := a1
  have b1 : k0_take 2 g1 = some (1, g2) := b1
  have c1 : k0_take 129 g2 = some (1, g3) := c1
  have d1 : k0_take 3 g3 = some (1, g4) := d1
  have e1 : k0_take 130 g4 = some (1, g5) := e1
  have hf := (((a3.trans b3).trans c3).trans d3).trans e3
  have hz : kdJ J p ≠ 0 := by rw [kdJ_of q0]; decide
  unfold LN k0_line k0_mirror
  rw [a1, some_bind, if_neg (show ¬ (1 : Int32) = 0 by decide)]
  rw [b1, some_bind, if_neg (show ¬ (1 : Int32) = 0 by decide), c1, some_bind, if_neg (show ¬ (1 : Int32) = 0 by decide), d1, some_bind, if_neg (show ¬ (1 : Int32) = 0 by decide), e1, some_bind, if_neg (show ¬ (1 : Int32) = 0 by decide)]
  cases hx : x.2.1 with
  | true =>
    rw [hx] at j5
    have j5 : AtJ J (p + 1 + 1 + 1 + 1 + 1) [tok 45, numI x.2.2, tok 59] := j5
    have q5 : J[p + 1 + 1 + 1 + 1 + 1]? = some (tok 45) := j5.hd (show (45 : Nat) ≠ 1000 by decide)
    have j6 := j5.tl (show (45 : Nat) ≠ 1000 by decide)
    have q6 : J[p + 1 + 1 + 1 + 1 + 1 + 1]? = some (numI x.2.2) := j6.hd (show (3 : Nat) ≠ 1000 by decide)
    have j7 := j6.tl (show (3 : Nat) ≠ 1000 by decide)
    have q7 : J[p + 1 + 1 + 1 + 1 + 1 + 1 + 1]? = some (tok 59) := j7.hd (show (59 : Nat) ≠ 1000 by decide)
    have l7 := lt_of_at q7
    obtain ⟨g6, u1, u2, u3⟩ := take_yes (k := 45) e2 (by omega) (kdJ_of q5)
    obtain ⟨g7, v1, v2, v3⟩ := take_yes (k := 3) u2 (by omega) (kdJ_of q6)
    obtain ⟨g8, w1, w2, w3⟩ := take_yes (k := 59) v2 (by omega) (kdJ_of q7)
    have u1 : k0_take 45 g5 = some (1, g6) := u1
    have v1 : k0_take 3 g6 = some (1, g7) := v1
    rw [u1, some_bind, v1, some_bind, zr_1, some_bind, zr_1]
    refine ⟨g7, g8, [], rfl, w1, ?_, rfl, ((hf.trans u3).trans v3).trans w3, by omega, hz⟩
    have el : (ns (mirN w x)).length = 8 := by
      unfold mirN
      rw [hx]
      rfl
    rw [el, List.append_nil]
    exact w2
  | false =>
    rw [hx] at j5
    have j6 : AtJ J (p + 1 + 1 + 1 + 1 + 1) [numI x.2.2, tok 59] := j5
    have q6 : J[p + 1 + 1 + 1 + 1 + 1]? = some (numI x.2.2) := j6.hd (show (3 : Nat) ≠ 1000 by decide)
    have j7 := j6.tl (show (3 : Nat) ≠ 1000 by decide)
    have q7 : J[p + 1 + 1 + 1 + 1 + 1 + 1]? = some (tok 59) := j7.hd (show (59 : Nat) ≠ 1000 by decide)
    have l7 := lt_of_at q7
    have u1 : k0_take 45 g5 = some (0, g5) := take_no e2 (by omega) (by rw [kdJ_of q6]; show ¬ (3 : Nat) = 45; decide) (by decide)
    obtain ⟨g7, v1, v2, v3⟩ := take_yes (k := 3) e2 (by omega) (kdJ_of q6)
    obtain ⟨g8, w1, w2, w3⟩ := take_yes (k := 59) v2 (by omega) (kdJ_of q7)
    have v1 : k0_take 3 g5 = some (1, g7) := v1
    rw [u1, some_bind, v1, some_bind, zr_1, some_bind, zr_1]
    refine ⟨g7, g8, [], rfl, w1, ?_, rfl, (hf.trans v3).trans w3, by omega, hz⟩
    have el : (ns (mirN w x)).length = 7 := by
      unfold mirN
      rw [hx]
      rfl
    rw [el, List.append_nil]
    exact w2
