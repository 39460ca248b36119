/-! jobs told -/
theorem chkJ_in {k J : Nat} {g : G} (hJ : g 30 2 = nI J) (hJ9 : J ≤ 12) (h : k < J) : k8_checkJob (nI k) g = some (0, 0, g) := by
  unfold k8_checkJob
  rw [if_neg (nI_pos (by omega)), hJ, if_pos ((nI_ltI (by omega) (by omega)).mpr h)]
theorem chkJ_out {a : Int32} {J : Nat} {g : G} (hJ : g 30 2 = nI J) (h : ¬ (¬ a < 0 ∧ a < nI J)) : k8_checkJob a g = some (3, 0, g) := by
  unfold k8_checkJob k8_checkJob_18
  by_cases h1 : a < 0
  · rw [if_pos h1]
  · rw [if_neg h1, hJ, if_neg (fun h2 => h ⟨h1, h2⟩)]
theorem isJ_in {k J : Nat} {g : G} (hJ : g 79 6 = nI J) (hJ9 : J ≤ 12) (h : k < J) : k11_isJob (nI k) g = some (1, up g 47 0 0) := by
  unfold k11_isJob k11_isJob_25
  rw [k11_isIn_n, some_bind, hJ, if_neg (nI_pos (by omega)), if_neg (fun h2 => (lt_pred (by omega)).mp h2 ((nI_ltI (by omega) (by omega)).mpr h)), if_neg (by decide)]
  exact zr_01 (Or.inr rfl)
theorem isJ_out {a : Int32} {J : Nat} {g : G} (hJ : g 79 6 = nI J) (hJ9 : J ≤ 12) (h : ¬ (¬ a < 0 ∧ a < nI J)) : k11_isJob a g = some (0, up g 47 0 1) := by
  unfold k11_isJob k11_isJob_25
  have e : (if a < 0 then (0 : Int32) else if nI J - 1 < a then 0 else 1) = 0 := by
    by_cases h1 : a < 0
    · rw [if_pos h1]
    · rw [if_neg h1, if_pos ((lt_pred (by omega)).mpr (fun h2 => h ⟨h1, h2⟩))]
  rw [k11_isIn_n, some_bind, hJ, e, if_pos rfl]
  exact zr_01 (Or.inl rfl)
theorem InvC.Q {n N J : Nat} {rw : Nat → Nat} {g : G} (h : InvC n N J rw g) : RelQ 30 79 N J g := h.2.2.2.2.1
theorem p_kindOfJob : S_kindOfJob Inv := by
  intro n g f a h
  obtain ⟨N, J, rw, h⟩ := h
  obtain ⟨q1, q2, q3, q4, q5, q6, q7⟩ := h.Q
  by_cases hm : ¬ a < 0 ∧ a < nI J
  · obtain ⟨k, hk, rfl⟩ := (in_c (by omega)).mp hm
    refine ⟨(0, g, vp_updL f 0 (g 84 k).toInt64), (g 84 k, up g 47 0 0), ?_, ?_, (show up g 47 0 0 47 0 = 0 from up_self), fun _ => rfl, h.thrown.next⟩
    · unfold w_kindOfJob k8_kindOfJob k3_kindIn
      rw [chkJ_in q2 q1 hk, xb_0, if_neg (nI_pos (by omega)), q2, if_neg (by rw [nI_leI (by omega) (by omega)]; omega), ld_n (by omega) (by omega), (q6 k hk).1]
      exact wr1_0
    · unfold k11_kindOfJob
      show (k11_isJob (nI k) g).bind _ = _
      rw [isJ_in q3 q1 hk, some_bind]
      dsimp only
      rw [if_neg (by decide), ld_n (by omega) (by omega), up_other (by decide)]
  · refine ⟨(1, g, f), (0, up g 47 0 1), ?_, ?_, by show up g 47 0 1 47 0 = 1; exact up_self, fun h => absurd h (by show ¬ (1 : Int32) = 0; decide), h.thrown.next⟩
    · unfold w_kindOfJob k8_kindOfJob
      rw [chkJ_out q2 hm, xb_e (by decide)]
      exact wr1_e (by decide)
    · unfold k11_kindOfJob
      show (k11_isJob a g).bind _ = _
      rw [isJ_out q3 q1 hm, some_bind, if_pos rfl]
theorem p_mirrorOfJob : S_mirrorOfJob Inv := by
  intro n g f a h
  obtain ⟨N, J, rw, h⟩ := h
  obtain ⟨q1, q2, q3, q4, q5, q6, q7⟩ := h.Q
  by_cases hm : ¬ a < 0 ∧ a < nI J
  · obtain ⟨k, hk, rfl⟩ := (in_c (by omega)).mp hm
    refine ⟨(0, g, vp_updL f 0 (g 85 k).toInt64), (g 85 k, up g 47 0 0), ?_, ?_, (show up g 47 0 0 47 0 = 0 from up_self), fun _ => rfl, h.thrown.next⟩
    · unfold w_mirrorOfJob k8_mirrorOfJob k3_mirrorIn
      rw [chkJ_in q2 q1 hk, xb_0, if_neg (nI_pos (by omega)), q2, if_neg (by rw [nI_leI (by omega) (by omega)]; omega), ld_n (by omega) (by omega), (q6 k hk).2.1]
      exact wr1_0
    · unfold k11_mirrorOfJob
      show (k11_isJob (nI k) g).bind _ = _
      rw [isJ_in q3 q1 hk, some_bind]
      dsimp only
      rw [if_neg (by decide), ld_n (by omega) (by omega), up_other (by decide)]
  · refine ⟨(1, g, f), (0, up g 47 0 1), ?_, ?_, by show up g 47 0 1 47 0 = 1; exact up_self, fun h => absurd h (by show ¬ (1 : Int32) = 0; decide), h.thrown.next⟩
    · unfold w_mirrorOfJob k8_mirrorOfJob
      rw [chkJ_out q2 hm, xb_e (by decide)]
      exact wr1_e (by decide)
    · unfold k11_mirrorOfJob
      show (k11_isJob a g).bind _ = _
      rw [isJ_out q3 q1 hm, some_bind, if_pos rfl]
/-! a number of a mirror written by both -/
theorem RelR.write {o t N m i : Nat} {rw : Nat → Nat} {g g' : G} {v : Int32} (hO : okO o t) (hi : 1 ≤ i ∧ i ≤ 3) (h : RelR o t N rw g) (hk : ∀ a, a ≠ o → a ≠ o + i → a ≠ t + i → a ≠ 47 → g' a = g a) (ho : ∀ k, k ≠ 13 → g' o k = g o k) (h13 : g' o 13 = 0) (hoi : ∀ j, g' (o + i) j = if j = m then v else g (o + i) j) (hti : ∀ j, g' (t + i) j = if j = m then v else g (t + i) j) : RelR o t N rw g' := by
  unfold okO at hO
  obtain ⟨h1, h2, h3, h4, h5, h6, h7, h8, h9⟩ := h
  have e54 := hk 54 (by omega) (by omega) (by omega) (by omega)
  have et := hk t (by omega) (by omega) (by omega) (by omega)
  have et6 := hk (t + 6) (by omega) (by omega) (by omega) (by omega)
  have key : ∀ k, 1 ≤ k → k ≤ 3 → ∀ j, j < N → g' (o + k) j = g' (t + k) j := by
    intro k k1 k2 j hj
    by_cases e : k = i
    · subst e
      rw [hoi, hti]
      split
      · rfl
      · rcases (show k = 1 ∨ k = 2 ∨ k = 3 by omega) with rfl | rfl | rfl
        · exact (h7 j hj).1
        · exact (h7 j hj).2.1
        · exact (h7 j hj).2.2
    · rw [hk (o + k) (by omega) (by omega) (by omega) (by omega), hk (t + k) (by omega) (by omega) (by omega) (by omega)]
      rcases (show k = 1 ∨ k = 2 ∨ k = 3 by omega) with rfl | rfl | rfl
      · exact (h7 j hj).1
      · exact (h7 j hj).2.1
      · exact (h7 j hj).2.2
  exact ⟨by rw [ho 7 (by decide)]; exact h1, by rw [e54]; exact h2, by rw [ho 8 (by decide), e54]; exact h3, by rw [ho 9 (by decide), e54]; exact h4, isRow_same (hk (o + 4) (by omega) (by omega) (by omega) (by omega)) h5, isRow_same (hk (t + 4) (by omega) (by omega) (by omega) (by omega)) h6, fun j hj => ⟨key 1 (by omega) (by omega) j hj, key 2 (by omega) (by omega) j hj, key 3 (by omega) (by omega) j hj⟩, Or.inl h13, by rw [ho 10 (by decide), covOf_same et et6]; exact h9⟩
