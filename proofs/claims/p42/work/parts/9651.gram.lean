/-! rules of the grammar: one behind the other, two joined -/
def GR (J : List It) (z : Option (Int32 × G)) (p : Nat) (D : List DS) (l : List SS) (g : G) : Prop := ∃ g' l', z = some (1, g') ∧ GS J p (D ++ l') g' ∧ l'.map (stJ J) = l ∧ fG g g'
theorem kG_prod {d : Nat} {a b : Int32} {g : G} : kG0 (d + 1) 4 a b g = kb0_product (kG0 d) a g := rfl
theorem kG_sum {d : Nat} {a b : Int32} {g : G} : kG0 (d + 1) 3 a b g = kb0_sum (kG0 d) a g := rfl
theorem kG_val {d : Nat} {a b : Int32} {g : G} : kG0 (d + 1) 5 a b g = kb0_value (kG0 d) a g := rfl
theorem kG_pair {d : Nat} {a b : Int32} {g : G} : kG0 (d + 1) 6 a b g = kb0_pair (kG0 d) a b g := rfl
theorem kG_sing {d : Nat} {a b : Int32} {g : G} : kG0 (d + 1) 2 a b g = kb0_single (kG0 d) a g := rfl
theorem kG_both {d : Nat} {a b : Int32} {g : G} : kG0 (d + 1) 1 a b g = kb0_both (kG0 d) a g := rfl
theorem kG_test {d : Nat} {a b : Int32} {g : G} : kG0 (d + 1) 0 a b g = kb0_test (kG0 d) a g := rfl
theorem GR.len {J : List It} {z : Option (Int32 × G)} {p : Nat} {D : List DS} {l : List SS} {g : G} (h : GR J z p D l g) : ∃ g' l', z = some (1, g') ∧ GS J p (D ++ l') g' ∧ l'.map (stJ J) = l ∧ fG g g' ∧ (D ++ l').length = D.length + l.length := by
  obtain ⟨g', l', h1, h2, h3, h4⟩ := h
  exact ⟨g', l', h1, h2, h3, h4, by rw [List.length_append, ← h3, List.length_map]⟩
theorem FU_1 : FU = 99999 + 1 := rfl
theorem prod_end {J : List It} {F q : Nat} {D : List DS} {a v : Int32} {g : G} {R : Nat → Int32 → Int32 → G → Option (Int32 × G)} (h : GS J q D g) (hq : q ≤ J.length) (h1 : kdJ J q ≠ 42) (h2 : kdJ J q ≠ 47) (hv : ¬ (400 : Int32) ≤ v) : k0_product_12 R (F + 1) a v g = some (1, g) := by
  unfold k0_product_12
  rw [if_neg hv]
  have e1 : k0_isNext 42 g = some 0 := next_no h hq h1 (by decide)
  have e2 : k0_isNext 47 g = some 0 := next_no h hq h2 (by decide)
  rw [e1, some_bind, if_pos rfl, e2, some_bind, if_pos rfl]
theorem prod_of {J : List It} {F q : Nat} {D : List DS} {l : List SS} {a b : Int32} {g : G} (h : GR J (kG0 F 5 a 0 g) q D l g) (hq : q ≤ J.length) (h1 : kdJ J q ≠ 42) (h2 : kdJ J q ≠ 47) : GR J (kG0 (F + 1) 4 a b g) q D l g := by
  obtain ⟨g1, l1, e1, e2, e3, e4⟩ := h
  refine ⟨g1, l1, ?_, e2, e3, e4⟩
  rw [kG_prod]
  unfold kb0_product
  rw [e1, some_bind, if_neg (show ¬ (1 : Int32) = 0 by decide)]
  rw [FU_1]
  exact prod_end e2 hq h1 h2 (by decide)
theorem prod_bin {J : List It} {F q1 q2 k : Nat} {D : List DS} {l1 l2 : List SS} {a b : Int32} {g : G} (h : GR J (kG0 F 5 a 0 g) q1 D l1 g) (hq1 : q1 < J.length) (hq2 : q2 ≤ J.length) (hk : kdJ J q1 = k) (hk2 : k = 42 ∨ k = 47) (h2 : ∀ D1 g1, GS J (q1 + 1) D1 g1 → D1.length = D.length + l1.length → GR J (kG0 F 5 a 0 g1) q2 D1 l2 g1) (n1 : kdJ J q2 ≠ 42) (n2 : kdJ J q2 ≠ 47) (hl : D.length + l1.length + l2.length < 400) : GR J (kG0 (F + 1) 4 a b g) q2 D (l1 ++ (l2 ++ [(k, 0)])) g := by
  obtain ⟨g1, m1, e1, e2, e3, e4, e5⟩ := h.len
  obtain ⟨p1, p2⟩ := e2.put (q := q1 + 1)
  obtain ⟨g2, m2, f1, f2, f3, f4, f5⟩ := (h2 _ _ p1 e5).len
  obtain ⟨g3, w1, w2, w3⟩ := write_ok (c := k) (τ := q2) f2 (by omega) (by omega)
  have hu : usesV k = false := by rcases hk2 with rfl | rfl <;> rfl
  refine ⟨g3, m1 ++ (m2 ++ [(k, q2)]), ?_, by rw [List.append_assoc] at w2; rw [List.append_assoc] at w2; exact w2, ?_, ((e4.trans p2).trans f4).trans w3⟩
  · rw [kG_prod]
    unfold kb0_product
    rw [e1, some_bind, if_neg (show ¬ (1 : Int32) = 0 by decide), FU_1]
    unfold k0_product_12
    rw [if_neg (by decide)]
    have e37 : k0_product_37 (kG0 F) (k0_product_12 (kG0 F) 99999) a 0 g1 = some (1, g3) := by
      unfold k0_product_37
      rw [e2.at', e2.kind (by omega), some_bind, hk, bd_eq, nI_1, f1, some_bind, if_neg (show ¬ (1 : Int32) = 0 by decide)]
      show (k2_write 8 (nI k) (g2 13 2) g2).bind _ = _
      rw [f2.at', w1, some_bind, bd_eq]
      exact prod_end (F := 99998) w2 hq2 n1 n2 (by decide)
    rcases hk2 with z | z
    · have i1 : k0_isNext 42 g1 = some 1 := next_yes e2 (by omega) (hk.trans z)
      rw [i1, some_bind, if_neg (by decide)]
      exact e37
    · have i1 : k0_isNext 42 g1 = some 0 := next_no e2 (by omega) (by rw [hk, z]; decide) (by decide)
      have i2 : k0_isNext 47 g1 = some 1 := next_yes e2 (by omega) (hk.trans z)
      rw [i1, some_bind, if_pos rfl, i2, some_bind, if_neg (by decide)]
      exact e37
  · rw [List.map_append, List.map_append, e3, f3]
    congr 2
    show [(k, if usesV k = true then _ else 0)] = _
    rw [hu]
    rfl
theorem sum_end {J : List It} {F q : Nat} {D : List DS} {a v : Int32} {g : G} {R : Nat → Int32 → Int32 → G → Option (Int32 × G)} (h : GS J q D g) (hq : q ≤ J.length) (h1 : kdJ J q ≠ 43) (h2 : kdJ J q ≠ 45) (hv : ¬ (400 : Int32) ≤ v) : k0_sum_12 R (F + 1) a v g = some (1, g) := by
  unfold k0_sum_12
  rw [if_neg hv]
  have e1 : k0_isNext 43 g = some 0 := next_no h hq h1 (by decide)
  have e2 : k0_isNext 45 g = some 0 := next_no h hq h2 (by decide)
  rw [e1, some_bind, if_pos rfl, e2, some_bind, if_pos rfl]
theorem sum_of {J : List It} {F q : Nat} {D : List DS} {l : List SS} {a b : Int32} {g : G} (h : GR J (kG0 F 4 a 0 g) q D l g) (hq : q ≤ J.length) (h1 : kdJ J q ≠ 43) (h2 : kdJ J q ≠ 45) : GR J (kG0 (F + 1) 3 a b g) q D l g := by
  obtain ⟨g1, l1, e1, e2, e3, e4⟩ := h
  refine ⟨g1, l1, ?_, e2, e3, e4⟩
  rw [kG_sum]
  unfold kb0_sum
  rw [e1, some_bind, if_neg (show ¬ (1 : Int32) = 0 by decide)]
  rw [FU_1]
  exact sum_end e2 hq h1 h2 (by decide)
theorem sum_bin {J : List It} {F q1 q2 k : Nat} {D : List DS} {l1 l2 : List SS} {a b : Int32} {g : G} (h : GR J (kG0 F 4 a 0 g) q1 D l1 g) (hq1 : q1 < J.length) (hq2 : q2 ≤ J.length) (hk : kdJ J q1 = k) (hk2 : k = 43 ∨ k = 45) (h2 : ∀ D1 g1, GS J (q1 + 1) D1 g1 → D1.length = D.length + l1.length → GR J (kG0 F 4 a 0 g1) q2 D1 l2 g1) (n1 : kdJ J q2 ≠ 43) (n2 : kdJ J q2 ≠ 45) (hl : D.length + l1.length + l2.length < 400) : GR J (kG0 (F + 1) 3 a b g) q2 D (l1 ++ (l2 ++ [(k, 0)])) g := by
  obtain ⟨g1, m1, e1, e2, e3, e4, e5⟩ := h.len
  obtain ⟨p1, p2⟩ := e2.put (q := q1 + 1)
  obtain ⟨g2, m2, f1, f2, f3, f4, f5⟩ := (h2 _ _ p1 e5).len
  obtain ⟨g3, w1, w2, w3⟩ := write_ok (c := k) (τ := q2) f2 (by omega) (by omega)
  have hu : usesV k = false := by rcases hk2 with rfl | rfl <;> rfl
  refine ⟨g3, m1 ++ (m2 ++ [(k, q2)]), ?_, by rw [List.append_assoc] at w2; rw [List.append_assoc] at w2; exact w2, ?_, ((e4.trans p2).trans f4).trans w3⟩
  · rw [kG_sum]
    unfold kb0_sum
    rw [e1, some_bind, if_neg (show ¬ (1 : Int32) = 0 by decide), FU_1]
    unfold k0_sum_12
    rw [if_neg (by decide)]
    have e37 : k0_sum_37 (kG0 F) (k0_sum_12 (kG0 F) 99999) a 0 g1 = some (1, g3) := by
      unfold k0_sum_37
      rw [e2.at', e2.kind (by omega), some_bind, hk, bd_eq, nI_1, f1, some_bind, if_neg (show ¬ (1 : Int32) = 0 by decide)]
      show (k2_write 8 (nI k) (g2 13 2) g2).bind _ = _
      rw [f2.at', w1, some_bind, bd_eq]
      exact sum_end (F := 99998) w2 hq2 n1 n2 (by decide)
    rcases hk2 with z | z
    · have i1 : k0_isNext 43 g1 = some 1 := next_yes e2 (by omega) (hk.trans z)
      rw [i1, some_bind, if_neg (by decide)]
      exact e37
    · have i1 : k0_isNext 43 g1 = some 0 := next_no e2 (by omega) (by rw [hk, z]; decide) (by decide)
      have i2 : k0_isNext 45 g1 = some 1 := next_yes e2 (by omega) (hk.trans z)
      rw [i1, some_bind, if_pos rfl, i2, some_bind, if_neg (by decide)]
      exact e37
  · rw [List.map_append, List.map_append, e3, f3]
    congr 2
    show [(k, if usesV k = true then _ else 0)] = _
    rw [hu]
    rfl
theorem both_end {J : List It} {F q : Nat} {D : List DS} {a v : Int32} {g : G} {R : Nat → Int32 → Int32 → G → Option (Int32 × G)} (h : GS J q D g) (hq : q ≤ J.length) (h1 : kdJ J q ≠ 150) (hv : ¬ (400 : Int32) ≤ v) : k0_both_12 R (F + 1) a v g = some (1, g) := by
  unfold k0_both_12
  rw [if_neg hv]
  have e1 : k0_take 150 g = some (0, g) := take_no h hq h1 (by decide)
  rw [e1, some_bind, if_pos rfl]
theorem both_of {J : List It} {F q : Nat} {D : List DS} {l : List SS} {a b : Int32} {g : G} (h : GR J (kG0 F 2 a 0 g) q D l g) (hq : q ≤ J.length) (h1 : kdJ J q ≠ 150) : GR J (kG0 (F + 1) 1 a b g) q D l g := by
  obtain ⟨g1, l1, e1, e2, e3, e4⟩ := h
  refine ⟨g1, l1, ?_, e2, e3, e4⟩
  rw [kG_both]
  unfold kb0_both
  rw [e1, some_bind, if_neg (show ¬ (1 : Int32) = 0 by decide)]
  rw [FU_1]
  exact both_end e2 hq h1 (by decide)
theorem both_bin {J : List It} {F q1 q2 : Nat} {D : List DS} {l1 l2 : List SS} {a b : Int32} {g : G} (h : GR J (kG0 F 2 a 0 g) q1 D l1 g) (hq1 : q1 < J.length) (hq2 : q2 ≤ J.length) (hk : kdJ J q1 = 150) (h2 : ∀ D1 g1, GS J (q1 + 1) D1 g1 → D1.length = D.length + l1.length → GR J (kG0 F 2 a 0 g1) q2 D1 l2 g1) (n1 : kdJ J q2 ≠ 150) (hl : D.length + l1.length + l2.length < 400) : GR J (kG0 (F + 1) 1 a b g) q2 D (l1 ++ (l2 ++ [(150, 0)])) g := by
  obtain ⟨g1, m1, e1, e2, e3, e4, e5⟩ := h.len
  obtain ⟨ga, t1, p1, p2⟩ := take_yes (k := 150) e2 (by omega) hk
  have t1 : k0_take 150 g1 = some (1, ga) := t1
  obtain ⟨g2, m2, f1, f2, f3, f4, f5⟩ := (h2 _ _ p1 e5).len
  obtain ⟨g3, w1, w2, w3⟩ := write_ok (c := 150) (τ := q2) f2 (by omega) (by omega)
  have w1 : k2_write 8 150 (nI q2) g2 = some g3 := w1
  refine ⟨g3, m1 ++ (m2 ++ [(150, q2)]), ?_, by rw [List.append_assoc] at w2; rw [List.append_assoc] at w2; exact w2, ?_, ((e4.trans p2).trans f4).trans w3⟩
  · rw [kG_both]
    unfold kb0_both
    rw [e1, some_bind, if_neg (show ¬ (1 : Int32) = 0 by decide), FU_1]
    unfold k0_both_12
    rw [if_neg (by decide), t1, some_bind, if_neg (show ¬ (1 : Int32) = 0 by decide), f1, some_bind, if_neg (show ¬ (1 : Int32) = 0 by decide)]
    show (k2_write 8 150 (g2 13 2) g2).bind _ = _
    rw [f2.at', w1, some_bind, bd_eq]
    exact both_end (F := 99998) w2 hq2 n1 (by decide)
  · rw [List.map_append, List.map_append, e3, f3]
    rfl
theorem test_end {J : List It} {F q : Nat} {D : List DS} {a v : Int32} {g : G} {R : Nat → Int32 → Int32 → G → Option (Int32 × G)} (h : GS J q D g) (hq : q ≤ J.length) (h1 : kdJ J q ≠ 151) (hv : ¬ (400 : Int32) ≤ v) : k0_test_12 R (F + 1) a v g = some (1, g) := by
  unfold k0_test_12
  rw [if_neg hv]
  have e1 : k0_take 151 g = some (0, g) := take_no h hq h1 (by decide)
  rw [e1, some_bind, if_pos rfl]
theorem test_of {J : List It} {F q : Nat} {D : List DS} {l : List SS} {a b : Int32} {g : G} (h : GR J (kG0 F 1 a 0 g) q D l g) (hq : q ≤ J.length) (h1 : kdJ J q ≠ 151) : GR J (kG0 (F + 1) 0 a b g) q D l g := by
  obtain ⟨g1, l1, e1, e2, e3, e4⟩ := h
  refine ⟨g1, l1, ?_, e2, e3, e4⟩
  rw [kG_test]
  unfold kb0_test
  rw [e1, some_bind, if_neg (show ¬ (1 : Int32) = 0 by decide)]
  rw [FU_1]
  exact test_end e2 hq h1 (by decide)
theorem test_bin {J : List It} {F q1 q2 : Nat} {D : List DS} {l1 l2 : List SS} {a b : Int32} {g : G} (h : GR J (kG0 F 1 a 0 g) q1 D l1 g) (hq1 : q1 < J.length) (hq2 : q2 ≤ J.length) (hk : kdJ J q1 = 151) (h2 : ∀ D1 g1, GS J (q1 + 1) D1 g1 → D1.length = D.length + l1.length → GR J (kG0 F 1 a 0 g1) q2 D1 l2 g1) (n1 : kdJ J q2 ≠ 151) (hl : D.length + l1.length + l2.length < 400) : GR J (kG0 (F + 1) 0 a b g) q2 D (l1 ++ (l2 ++ [(151, 0)])) g := by
  obtain ⟨g1, m1, e1, e2, e3, e4, e5⟩ := h.len
  obtain ⟨ga, t1, p1, p2⟩ := take_yes (k := 151) e2 (by omega) hk
  have t1 : k0_take 151 g1 = some (1, ga) := t1
  obtain ⟨g2, m2, f1, f2, f3, f4, f5⟩ := (h2 _ _ p1 e5).len
  obtain ⟨g3, w1, w2, w3⟩ := write_ok (c := 151) (τ := q2) f2 (by omega) (by omega)
  have w1 : k2_write 8 151 (nI q2) g2 = some g3 := w1
  refine ⟨g3, m1 ++ (m2 ++ [(151, q2)]), ?_, by rw [List.append_assoc] at w2; rw [List.append_assoc] at w2; exact w2, ?_, ((e4.trans p2).trans f4).trans w3⟩
  · rw [kG_test]
    unfold kb0_test
    rw [e1, some_bind, if_neg (show ¬ (1 : Int32) = 0 by decide), FU_1]
    unfold k0_test_12
    rw [if_neg (by decide), t1, some_bind, if_neg (show ¬ (1 : Int32) = 0 by decide), f1, some_bind, if_neg (show ¬ (1 : Int32) = 0 by decide)]
    show (k2_write 8 151 (g2 13 2) g2).bind _ = _
    rw [f2.at', w1, some_bind, bd_eq]
    exact test_end (F := 99998) w2 hq2 n1 (by decide)
  · rw [List.map_append, List.map_append, e3, f3]
    rfl
