/-! the tape read, then taught -/
theorem GK.lt {x : It} (h : GK x) : x.1 < 1000 := by
  rcases h with ⟨s, hs, rfl⟩ | ⟨n, _, rfl⟩ | rfl | rfl | ⟨n, _, rfl⟩ | ⟨b, hb, rfl⟩ | rfl | rfl
  · show 128 + s < 1000; omega
  · show 2 < 1000; decide
  · show 2 < 1000; decide
  · show 2 < 1000; decide
  · show 3 < 1000; decide
  · have : ∀ b, b ∈ symL → b < 1000 := by decide
    exact this b hb
  · show 4 < 1000; decide
  · show 5 < 1000; decide
theorem okI_lt : ∀ (I : List It), okI I → ∀ x, x ∈ ns I → x.1 < 1000 := by
  intro I
  induction I with
  | nil => intro _ x hx; cases hx
  | cons y l ih =>
    intro h x hx
    have hx := List.mem_filter.mp hx
    rcases List.mem_cons.mp hx.1 with e | e
    · rcases h.1 with z | z
      · have : x.1 ≠ 1000 := of_decide_eq_true hx.2
        rw [e] at this
        exact absurd z.1 this
      · rw [e]; exact z.1.lt
    · exact ih h.2 x (List.mem_filter.mpr ⟨e, hx.2⟩)
theorem tkL_len : ∀ (I : List It) p, (tkL I p).length = (ns I).length := by
  intro I
  induction I with
  | nil => intro p; rfl
  | cons y l ih =>
    intro p
    unfold tkL ns
    by_cases e : y.1 = 1000
    · rw [if_pos e, List.filter_cons_of_neg (by simpa using e)]
      exact ih _
    · rw [if_neg e, List.filter_cons_of_pos (by simpa using e), List.length_cons, List.length_cons, ih]
      rfl
theorem gtD_l {a b : List Int32} {i : Nat} (h : i < a.length) : (a ++ b).getD i 0 = a.getD i 0 := by
  rw [List.getD_eq_getElem?_getD, List.getD_eq_getElem?_getD, List.getElem?_append_left h]
theorem gtD_r {a b : List Int32} {i : Nat} : (a ++ b).getD (a.length + i) 0 = b.getD i 0 := by
  rw [List.getD_eq_getElem?_getD, List.getD_eq_getElem?_getD, List.getElem?_append_right (Nat.le_add_right _ _), Nat.add_sub_cancel_left]
theorem tkL_at : ∀ (I : List It) (p i : Nat) (x : It), (ns I)[i]? = some x → ∃ q, (tkL I p)[i]? = some (x.1, p + q, x.2.length, vI x) ∧ q + x.2.length ≤ (spl I).length ∧ ∀ k, k < x.2.length → (spl I).getD (q + k) 0 = x.2.getD k 0 := by
  intro I
  induction I with
  | nil => intro p i x h; simp [ns] at h
  | cons y l ih =>
    intro p i x h
    unfold tkL
    unfold ns at h
    have el : (spl (y :: l)).length = y.2.length + (spl l).length := by rw [spl_cons, List.length_append]
    by_cases e : y.1 = 1000
    · rw [List.filter_cons_of_neg (by simpa using e)] at h
      rw [if_pos e]
      obtain ⟨q, h1, h2, h3⟩ := ih (p + y.2.length) i x h
      refine ⟨y.2.length + q, by rw [← Nat.add_assoc]; exact h1, by omega, fun k hk => ?_⟩
      rw [spl_cons, Nat.add_assoc, gtD_r]
      exact h3 k hk
    · rw [List.filter_cons_of_pos (by simpa using e)] at h
      rw [if_neg e]
      cases i with
      | zero =>
        have ey : y = x := by simpa using h
        rw [← ey]
        refine ⟨0, rfl, by omega, fun k hk => ?_⟩
        rw [spl_cons, Nat.zero_add, gtD_l hk]
      | succ i =>
        rw [List.getElem?_cons_succ] at h
        obtain ⟨q, h1, h2, h3⟩ := ih (p + y.2.length) i x h
        refine ⟨y.2.length + q, ?_, by omega, fun k hk => ?_⟩
        · rw [← Nat.add_assoc]
          simpa using h1
        · rw [spl_cons, Nat.add_assoc, gtD_r]
          exact h3 k hk
theorem tl_bf {W : List Int32} {I : List It} {g : G} (h : TP W g) (hW : W = spl I) (ho : okI I) (ht : TL (tkL I 0 ++ [(0, W.length, 0, 0)]) g) (hl : (ns I).length ≤ 400) : BF W (ns I) g ∧ V0 (ns I) 0 g := by
  obtain ⟨t1, t2⟩ := ht
  have hlen := tkL_len I 0
  rw [List.length_append, hlen] at t1
  have hend := t2 (ns I).length (0, W.length, 0, 0) (by rw [List.getElem?_append_right (by omega), hlen, Nat.sub_self]; rfl)
  have hat : ∀ i x, (ns I)[i]? = some x → ∃ q, g 4 i = nI x.1 ∧ g 5 i = nI q ∧ g 6 i = nI x.2.length ∧ g 7 i = vI x ∧ q + x.2.length ≤ W.length ∧ AtW W q x.2 := fun i x hi => by
    obtain ⟨q, h1, h2, h3⟩ := tkL_at I 0 i x hi
    rw [Nat.zero_add] at h1
    obtain ⟨a1, a2, a3, a4⟩ := t2 i _ (by rw [List.getElem?_append_left (List.getElem?_eq_some_iff.mp h1).1]; exact h1)
    refine ⟨q, a1, a2, a3, a4, by rw [hW]; exact h2, by rw [hW]; exact h2, fun k hk => ?_⟩
    unfold bAt
    rw [if_pos (by rw [hW]; omega), hW]
    exact h3 k hk
  refine ⟨⟨h, t1, hl, hend.1, fun i x hi => ?_⟩, fun i x hi => ⟨fun z => absurd z (Nat.not_lt_zero _), fun _ => ?_⟩, hend.2.2.2⟩
  · obtain ⟨q, a1, a2, a3, a4, a5, a6⟩ := hat i x hi
    exact ⟨okI_lt I ho x (List.mem_iff_getElem?.mpr ⟨i, hi⟩), a1, ⟨q, a2, a5, a6⟩, a3⟩
  · obtain ⟨q, a1, a2, a3, a4, a5, a6⟩ := hat i x hi
    exact a4
theorem mp_at {α β : Type} {f : α → β} {l : List α} {i : Nat} {v : β} (h : (l.map f)[i]? = some v) : ∃ x, l[i]? = some x ∧ f x = v := by
  rw [List.getElem?_map] at h
  cases e : l[i]? with
  | none => rw [e] at h; cases h
  | some x => rw [e] at h; exact ⟨x, rfl, Option.some.inj h⟩
/-- what a text must keep -/
def TXT (N : Nat) (hw hl : Option Nat) (M : List (List Int32 × Mi)) (L : List (OR4 × List It)) : Prop := M.length ≤ 10 ∧ DN (M.map Prod.fst) ∧ (∀ y, y ∈ M → miOK y.2) ∧ L.length ≤ 16 ∧ (∀ y, y ∈ L → PO N y.1 y.2) ∧ (∀ n, n < N → (M.map Prod.fst)[n]? = some (109 :: dc n)) ∧ (∀ V, hw = some V → V ≤ 180) ∧ (∀ V, hl = some V → big V 10000) ∧ okI (allN hw hl M L) ∧ (ns (allN hw hl M L)).length ≤ 400 ∧ (pSteps (L.map Prod.fst)).length ≤ 400
theorem teach_ok {N : Nat} {W : List Int32} {hw hl : Option Nat} {M : List (List Int32 × Mi)} {L : List (OR4 × List It)} {g : G} {A : TA} (hN : N ≤ 10) (hT : TXT N hw hl M L) (hP : TP W g) (hW : W = spl (allN hw hl M L)) (hA : TrM A (M.map Prod.snd) (Wv hw) (lv hl)) : ∃ g', k8_teach g = some (0, g') ∧ RC A (L.map Prod.fst) g' := by
  obtain ⟨c1, c2, c3, c4, c5, c6, c7, c8, c9, c10, c11⟩ := hT
  obtain ⟨J, hJ⟩ : ∃ J, J = ns (allN hw hl M L) := ⟨_, rfl⟩
  obtain ⟨g1, r1, r2, r3⟩ := readTape_ok hP hW c9 (by rw [tkL_len]; exact c10)
  have hP1 : TP W g1 := ⟨by rw [r3 1 (by omega)]; exact hP.1, hP.2.1, hP.2.2.1, fun j hj => by rw [r3 2 (by omega)]; exact hP.2.2.2 j hj⟩
  obtain ⟨b1, b2⟩ := tl_bf hP1 hW c9 r2 c10
  rw [← hJ] at b1 b2
  obtain ⟨g2, D, m1, m2, m3, m4, m5, m6, m7, m8⟩ := misfit_ok (M := lnW hw hl M L) hN b1 (ln_ok c5) (by rw [ln_fst]; exact hJ) (by have := @ln_len hw hl M L; omega) (by rw [ln_snd]; exact c11)
  rw [ln_snd] at m3
  have b3 : BF W J g2 := b1.fr (fun a h1 h2 => m4 a (by omega) (by omega) (by omega) (by omega))
  have b4 : V0 J 0 g2 := ⟨fun i x hi => by rw [m4 7 (by decide) (by decide) (by decide) (by decide)]; exact b2.1 i x hi, by rw [m4 7 (by decide) (by decide) (by decide) (by decide)]; exact b2.2⟩
  rw [hJ] at b3 b4
  obtain ⟨g3, n1, n2⟩ := mist_ok hN b3 b4 m5 m6 m7 m8 c1 c2 c3 c4 c5 c6 c7 c8
  rw [← hJ] at n2
  obtain ⟨q1, q2, q3, q4, q5, q6, q7, q8, q9⟩ := n2
  obtain ⟨s1, s2, s3, s4, s5, s6, s7, s8⟩ := m2
  have hD : D.length = (pSteps (L.map Prod.fst)).length := by rw [← m3, List.length_map]
  obtain ⟨g4, hg4⟩ : ∃ z, z = up (up g3 0 8 (-1)) 1 1 0 := ⟨_, rfl⟩
  have f4 : ∀ a, 1 < a → g4 a = g3 a := fun a ha => by rw [hg4, up_ne (by omega), up_ne (by omega)]
  have v4 : V0 J (J.length + 1) g4 := ⟨fun i x hi => by rw [f4 7 (by decide)]; exact q2.1 i x hi, by rw [f4 7 (by decide)]; exact q2.2⟩
  have d4 : Dg J D g4 := fun j q hq => by
    rw [f4 11 (by decide), f4 12 (by decide), q3.1 11 (by decide) (by decide) (by decide) (by decide) (by decide) (by decide), q3.1 12 (by decide) (by decide) (by decide) (by decide) (by decide) (by decide)]
    exact s8 j q hq
  obtain ⟨g5, t1, t2, t3, t4, t5, t6⟩ := take_over (J := J) (D := D) (g := g4) s2 s7 v4 (by rw [f4 3 (by decide)]; exact q1.2.1) d4 (by rw [f4 8 (by decide), q3.2]; exact s6)
  have h164 : g5 16 4 = nI M.length := by
    rw [t6 4 (by decide) (by decide), f4 8 (by decide)]
    have := q4.2.1
    rw [this]
    show nI (M.map Prod.fst).length = _
    rw [List.length_map]
  obtain ⟨g6, u1, u2, u3, u4, u5, u6, u7, u8, u9, u10, u11, u12⟩ := begin_ok (g := g5) c1 h164
  obtain ⟨w1, w2, w3, w4, w5, w6, w7, w8, w9⟩ := hA
  have w1' : A.N = M.length := by rw [w1, List.length_map]
  have e8 : ∀ k, 4 ≤ k → k ≤ 8 → g6 16 k = g3 8 k := fun k h1 h2 => by rw [u12 16 (by decide), t6 k h1 h2, f4 8 (by decide)]
  refine ⟨g6, ?_, ⟨by rw [w1']; exact u3, ?_, ?_, ?_, ⟨by omega, fun p hp => ?_, fun p q hp hq e => ?_⟩, fun m hm => ?_, Or.inl u7, ?_, ?_, ?_, fun k hk => ?_, ?_⟩, TrM.wa ⟨w1, w2, w3, w4, w5, w6, w7, w8, w9⟩ (fun x hx => ?_) (by rw [List.length_map]; exact c1), ⟨by rw [List.length_map]; exact c4, ?_, c11, ?_, fun j c v hj => ?_⟩, ?_⟩
  · unfold k8_teach
    rw [r1, some_bind, m1, some_bind, bd_eq, if_neg (show ¬ (0 : Int32) ≤ -1 by decide), n1, some_bind, bd_eq, bd_eq]
    unfold k8_teach_37 k8_teach_54
    rw [if_neg (show ¬ (0 : Int32) ≤ -1 by decide), bd_eq, bd_eq, if_pos (show (-1 : Int32) < 0 by decide)]
    show (k2_takeOver 16 8 (up (up g3 0 8 (-1)) 1 1 0)).bind _ = _
    rw [← hg4, t1, some_bind, u1, some_bind]
  · rw [w2]
    show g6 22 8 = _
    rw [u4, t6 6 (by decide) (by decide), f4 8 (by decide)]
    exact q8
  · rw [w3]
    show g6 22 9 = _
    rw [u5, t6 7 (by decide) (by decide), f4 8 (by decide)]
    exact q9
  · have : cov A = -1 := by
      unfold cov
      rw [w7]
      rfl
    rw [this]
    exact u6
  · have hp2 : p < M.length := by omega
    have := (u2 p hp2).2.2.2
    rw [w5 p (by rw [List.length_map]; exact hp2)]
    exact ⟨this, hp⟩
  · rw [w5 p (by rw [List.length_map]; omega), w5 q (by rw [List.length_map]; omega)] at e
    exact e
  · have hm2 : m < M.length := by omega
    obtain ⟨y1, y2, y3, y4⟩ := u2 m hm2
    have hM1 : M[m]? = some M[m] := List.getElem?_eq_getElem hm2
    obtain ⟨z1, z2, z3⟩ := w4 m M[m].2 (by rw [List.getElem?_map, hM1]; rfl)
    have a1 : g3 9 m = nI M[m].2.1 := q5 m _ (by show (M.map _)[m]? = _; rw [List.getElem?_map, hM1]; rfl)
    have a2 : g3 10 m = ofV M[m].2 := q6 m _ (by show (M.map _)[m]? = _; rw [List.getElem?_map, hM1]; rfl)
    rw [z1, z2, z3]
    refine ⟨?_, y2, ?_⟩
    · show g6 23 m = _
      rw [y1, t4 m (by omega), f4 9 (by decide), a1]
    · show g6 25 m = _
      rw [y3, t5 m (by omega), f4 10 (by decide), a2]
  · rw [w6]; exact u8
  · rw [w7]; exact u9
  · rw [w9]; exact u10
  · rw [w6] at hk; exact absurd hk (Nat.not_lt_zero _)
  · rw [w8]; exact u11
  · obtain ⟨y, hy, e⟩ := List.mem_map.mp hx
    rw [← e]; exact c3 y hy
  · rw [e8 5 (by decide) (by decide), List.length_map]
    exact q7
  · rw [e8 8 (by decide) (by decide), q3.2, s6, hD]
  · rw [← m3] at hj
    obtain ⟨q, hq, e⟩ := mp_at hj
    obtain ⟨x1, x2⟩ := t2 j q hq
    have e1 : q.1 = c := congrArg Prod.fst e
    have e2 : (if usesV q.1 = true then valJ J q.2 else 0) = v := congrArg Prod.snd e
    rw [u12 19 (by decide), u12 20 (by decide)]
    refine ⟨by rw [x1, e1], fun hu => ?_⟩
    rw [e1, if_pos hu] at e2
    rw [x2, e2]
  · rw [u12 1 (by decide), t3 1 (by omega), hg4, up_self]
