/-! calls that only tell -/
theorem p_errorAt : S_errorAt Inv := by
  intro n g h
  obtain ⟨N, J, rw, h⟩ := h
  exact ⟨_, _, rfl, rfl, h.2.1, (h.thrown (v := 0)).next⟩
theorem p_mirrors : S_mirrors Inv := by
  intro n g h
  obtain ⟨N, J, rw, h⟩ := h
  exact ⟨_, _, rfl, rfl, h.R.1.trans h.R.2.1.symm, (h.thrown (v := 0)).next⟩
theorem p_orders : S_orders Inv := by
  intro n g h
  obtain ⟨N, J, rw, h⟩ := h
  obtain ⟨K, F, B, h1, h2, h3, h4, h5, h6⟩ := h.2.2.2.2.2.2.2
  exact ⟨_, _, rfl, rfl, h5.trans h4.symm, (h.thrown (v := 0)).next⟩
theorem p_minutes : S_minutes Inv := by
  intro n g h
  obtain ⟨N, J, rw, h⟩ := h
  exact ⟨_, _, rfl, rfl, h.2.2.2.2.2.1, (h.thrown (v := 0)).next⟩
theorem p_tapeBytes : S_tapeBytes Inv := by
  intro n g h
  obtain ⟨N, J, rw, h⟩ := h
  obtain ⟨T, t1, t2, t3, -⟩ := h.1
  exact ⟨_, _, rfl, rfl, t2.trans t3.symm, (h.thrown (v := 0)).next⟩
theorem p_jobs : S_jobs Inv := by
  intro n g h
  obtain ⟨N, J, rw, h⟩ := h
  obtain ⟨q1, q2, q3, q4, q5, q6⟩ := h.2.2.2.2.1
  exact ⟨_, _, rfl, rfl, q2.trans q3.symm, (h.thrown (v := 0)).next⟩
theorem p_jobsDone : S_jobsDone Inv := by
  intro n g h
  obtain ⟨N, J, rw, h⟩ := h
  obtain ⟨q1, q2, q3, q4, q5, q6⟩ := h.2.2.2.2.1
  exact ⟨_, _, rfl, rfl, q5, (h.thrown (v := 0)).next⟩
theorem p_minutesToGo : S_minutesToGo Inv := by
  intro n g h
  obtain ⟨N, J, rw, h⟩ := h
  obtain ⟨q1, q2, q3, q4, q5, q6⟩ := h.2.2.2.2.1
  exact ⟨_, _, rfl, rfl, q4, (h.thrown (v := 0)).next⟩
theorem p_lightAtEnd : S_lightAtEnd Inv := by
  intro n g h
  obtain ⟨N, J, rw, h⟩ := h
  obtain ⟨g1, e1, l1, r1⟩ := shine_c hO0 h.R
  obtain ⟨g2, e2, l2, r2⟩ := shine_m hO0 r1
  obtain ⟨m1, m2, m3⟩ := lit_m hO0 r1 l1.2.2.1 l2
  refine ⟨(g1 22 11, g1), (g2 47 22, up g2 47 0 0), ?_, ?_, m1.symm, ((h.lit l1).mlit l2).thrown.next⟩
  · unfold k8_lightAtEnd k4_lastLight
    rw [e1]
    rfl
  · unfold k11_lightAtEnd k11_light
    rw [e2]
    rfl
theorem p_tiltAtEnd : S_tiltAtEnd Inv := by
  intro n g h
  obtain ⟨N, J, rw, h⟩ := h
  obtain ⟨g1, e1, l1, r1⟩ := shine_c hO0 h.R
  obtain ⟨g2, e2, l2, r2⟩ := shine_m hO0 r1
  obtain ⟨m1, m2, m3⟩ := lit_m hO0 r1 l1.2.2.1 l2
  refine ⟨(g1 22 12, g1), (g2 47 23, up g2 47 0 0), ?_, ?_, m2.symm, ((h.lit l1).mlit l2).thrown.next⟩
  · unfold k8_tiltAtEnd k4_lastTilt
    rw [e1]
    rfl
  · unfold k11_tiltAtEnd
    rw [e2]
    rfl
theorem p_isSeen : S_isSeen Inv := by
  intro n g h
  obtain ⟨N, J, rw, h⟩ := h
  obtain ⟨g1, e1, l1, r1⟩ := k4_showsLight_ok hO0 h.R
  have h1 := (h.lit l1).thrown (v := 0)
  have l1' : up g1 47 0 0 22 13 = 1 := by rw [up_other (by decide)]; exact l1.2.2.1
  obtain ⟨g2, e2, l2, r2⟩ := k11_seen_ok hO0 h1.R
  obtain ⟨m1, m2, m3⟩ := lit_m hO0 h1.R l1' l2
  refine ⟨(seenV (g1 22 11) (g1 54 2) (g1 54 1) (g1 22 12), g1), (seenV (g2 47 22) (g2 54 2) (g2 54 1) (g2 47 23), g2), ?_, ?_, ?_, (h1.mlit l2).next⟩
  · unfold k8_isSeen
    rw [e1, some_bind]
    exact zr_01 seenV_01
  · unfold k11_isSeen
    rw [bd_eq, e2, some_bind]
    exact zr_01 seenV_01
  · show seenV (g1 22 11) (g1 54 2) (g1 54 1) (g1 22 12) = seenV (g2 47 22) (g2 54 2) (g2 54 1) (g2 47 23)
    have e54 : g2 54 = g1 54 := by rw [l2.1 54 (by decide) (by decide) (by decide) (by decide), up_ne (by decide)]
    rw [m1, m2, e54, up_other (by decide), up_other (by decide)]
theorem p_clarityOf : S_clarityOf Inv := by
  intro n g f a h
  obtain ⟨N, J, rw, h⟩ := h
  have hN9 := h.R.N9
  by_cases hm : ¬ a < 0 ∧ a < nI N
  · obtain ⟨m, hm1, rfl⟩ := (in_c (by omega)).mp hm
    obtain ⟨g1, e1, l1, r1⟩ := v129 hO0 h.R hm1
    refine ⟨(0, g1, vp_updL f 0 (g1 80 m).toInt64), (g1 80 m, up g1 47 0 0), ?_, ?_, (show up g1 47 0 0 47 0 = 0 from up_self), fun _ => rfl, (h.lit l1).thrown.next⟩
    · unfold w_clarityOf k8_clarityOf
      rw [chk_in h.R.1 hN9 hm1, xb_0, e1]
      exact wr1_0
    · unfold k11_clarityOf
      show (k11_isMirror (nI m) g1).bind _ = _
      rw [isM_in r1.2.1 hN9 hm1, some_bind]
      dsimp only
      rw [if_neg (by decide), ld_n (by omega) (by omega), up_other (by decide)]
  · refine ⟨(1, g, f), (0, up g 47 0 1), ?_, ?_, by show up g 47 0 1 47 0 = 1; exact up_self, fun h => absurd h (by show ¬ (1 : Int32) = 0; decide), h.thrown.next⟩
    · unfold w_clarityOf k8_clarityOf
      rw [chk_out h.R.1 hm, xb_e (by decide)]
      exact wr1_e (by decide)
    · unfold k11_clarityOf
      show (k11_isMirror a g).bind _ = _
      rw [isM_out h.R.2.1 hN9 hm, some_bind, if_pos rfl]
theorem p_bestClarityOf : S_bestClarityOf Inv := by
  intro n g f a h
  obtain ⟨N, J, rw, h⟩ := h
  have hN9 := h.R.N9
  by_cases hm : ¬ a < 0 ∧ a < nI N
  · obtain ⟨m, hm1, rfl⟩ := (in_c (by omega)).mp hm
    obtain ⟨g1, e1, l1, r1⟩ := v145 hO0 h.R hm1
    refine ⟨(0, g1, vp_updL f 0 (g1 81 m).toInt64), (g1 81 m, up g1 47 0 0), ?_, ?_, (show up g1 47 0 0 47 0 = 0 from up_self), fun _ => rfl, (h.lit l1).thrown.next⟩
    · unfold w_bestClarityOf k8_bestClarityOf
      rw [chk_in h.R.1 hN9 hm1, xb_0, e1]
      exact wr1_0
    · unfold k11_bestClarityOf
      show (k11_isMirror (nI m) g1).bind _ = _
      rw [isM_in r1.2.1 hN9 hm1, some_bind]
      dsimp only
      rw [if_neg (by decide), ld_n (by omega) (by omega), up_other (by decide)]
  · refine ⟨(1, g, f), (0, up g 47 0 1), ?_, ?_, by show up g 47 0 1 47 0 = 1; exact up_self, fun h => absurd h (by show ¬ (1 : Int32) = 0; decide), h.thrown.next⟩
    · unfold w_bestClarityOf k8_bestClarityOf
      rw [chk_out h.R.1 hm, xb_e (by decide)]
      exact wr1_e (by decide)
    · unfold k11_bestClarityOf
      show (k11_isMirror a g).bind _ = _
      rw [isM_out h.R.2.1 hN9 hm, some_bind, if_pos rfl]
theorem p_offsetOf : S_offsetOf Inv := by
  intro n g f a h
  obtain ⟨N, J, rw, h⟩ := h
  have hN9 := h.R.N9
  by_cases hm : ¬ a < 0 ∧ a < nI N
  · obtain ⟨m, hm1, rfl⟩ := (in_c (by omega)).mp hm
    obtain ⟨g1, e1, l1, r1⟩ := v130 hO0 h.R hm1
    refine ⟨(0, g1, vp_updL f 0 (g1 82 m).toInt64), (g1 82 m, up g1 47 0 0), ?_, ?_, (show up g1 47 0 0 47 0 = 0 from up_self), fun _ => rfl, (h.lit l1).thrown.next⟩
    · unfold w_offsetOf k8_offsetOf
      rw [chk_in h.R.1 hN9 hm1, xb_0, e1]
      exact wr1_0
    · unfold k11_offsetOf
      show (k11_isMirror (nI m) g1).bind _ = _
      rw [isM_in r1.2.1 hN9 hm1, some_bind]
      dsimp only
      rw [if_neg (by decide), ld_n (by omega) (by omega), up_other (by decide)]
  · refine ⟨(1, g, f), (0, up g 47 0 1), ?_, ?_, by show up g 47 0 1 47 0 = 1; exact up_self, fun h => absurd h (by show ¬ (1 : Int32) = 0; decide), h.thrown.next⟩
    · unfold w_offsetOf k8_offsetOf
      rw [chk_out h.R.1 hm, xb_e (by decide)]
      exact wr1_e (by decide)
    · unfold k11_offsetOf
      show (k11_isMirror a g).bind _ = _
      rw [isM_out h.R.2.1 hN9 hm, some_bind, if_pos rfl]
theorem v141 {o t N m : Nat} {rw : Nat → Nat} {g : G} (hO : okO o t) (h : RelR o t N rw g) (hm : m < N) : ∃ g1, k4_valueOf o 141 (nI m) g = some (g1 (o + 5) m, g1) ∧ litOf o rw N g g1 ∧ RelR o t N rw g1 := by
  obtain ⟨g1, l1, r1, e1, e2⟩ := valueOf_pre hO h hm 141
  have := h.N9
  refine ⟨g1, ?_, l1, r1⟩
  unfold k4_valueOf
  rw [e2, some_bind, if_neg (by decide), e1, some_bind]
  iterate 12 rw [if_neg (by decide)]
  rw [if_pos rfl, ld_n (by omega) (by omega)]
theorem v143 {o t N m : Nat} {rw : Nat → Nat} {g : G} (hO : okO o t) (h : RelR o t N rw g) (hm : m < N) : ∃ g1, k4_valueOf o 143 (nI m) g = some (g1 (o + 6) m, g1) ∧ litOf o rw N g g1 ∧ RelR o t N rw g1 := by
  obtain ⟨g1, l1, r1, e1, e2⟩ := valueOf_pre hO h hm 143
  have := h.N9
  refine ⟨g1, ?_, l1, r1⟩
  unfold k4_valueOf
  rw [e2, some_bind, if_neg (by decide), e1, some_bind]
  iterate 14 rw [if_neg (by decide)]
  rw [if_pos rfl, ld_n (by omega) (by omega)]
theorem v144 {o t N m : Nat} {rw : Nat → Nat} {g : G} (hO : okO o t) (h : RelR o t N rw g) (hm : m < N) : ∃ g1, k4_valueOf o 144 (nI m) g = some (g1 (o + 7) m, g1) ∧ litOf o rw N g g1 ∧ RelR o t N rw g1 := by
  obtain ⟨g1, l1, r1, e1, e2⟩ := valueOf_pre hO h hm 144
  have := h.N9
  refine ⟨g1, ?_, l1, r1⟩
  unfold k4_valueOf
  rw [e2, some_bind, if_neg (by decide), e1, some_bind]
  iterate 15 rw [if_neg (by decide)]
  rw [if_pos rfl, ld_n (by omega) (by omega)]
theorem p_isCovered : S_isCovered Inv := by
  intro n g f a h
  obtain ⟨N, J, rw, h⟩ := h
  have hN9 := h.R.N9
  by_cases hm : ¬ a < 0 ∧ a < nI N
  · obtain ⟨m, hm1, rfl⟩ := (in_c (by omega)).mp hm
    have hc : covOf 79 (up g 47 0 0) = covOf 79 g := covOf_same (up_ne (by decide)) (up_ne (by decide))
    by_cases hq : nI m = covOf 79 g
    · refine ⟨(0, g, vp_updL f 0 1), (1, up g 47 0 0), ?_, ?_, (show up g 47 0 0 47 0 = 0 from up_self), fun _ => rfl, h.thrown.next⟩
      · unfold w_isCovered k8_isCovered
        rw [chk_in h.R.1 hN9 hm1, xb_0, if_pos (h.R.2.2.2.2.2.2.2.2.trans hq.symm)]
        exact wr1_0
      · unfold k11_isCovered
        rw [isM_in h.R.2.1 hN9 hm1, some_bind]
        dsimp only
        rw [if_neg (by decide), k9_cov (by omega), some_bind, hc, if_pos hq, if_neg (by decide)]
    · refine ⟨(0, g, vp_updL f 0 0), (0, up g 47 0 0), ?_, ?_, (show up g 47 0 0 47 0 = 0 from up_self), fun _ => rfl, h.thrown.next⟩
      · unfold w_isCovered k8_isCovered
        rw [chk_in h.R.1 hN9 hm1, xb_0, if_neg (fun e => hq (e.symm.trans h.R.2.2.2.2.2.2.2.2))]
        exact wr1_0
      · unfold k11_isCovered
        rw [isM_in h.R.2.1 hN9 hm1, some_bind]
        dsimp only
        rw [if_neg (by decide), k9_cov (by omega), some_bind, hc, if_neg hq, if_pos rfl]
  · refine ⟨(1, g, f), (0, up g 47 0 1), ?_, ?_, by show up g 47 0 1 47 0 = 1; exact up_self, fun h => absurd h (by show ¬ (1 : Int32) = 0; decide), h.thrown.next⟩
    · unfold w_isCovered k8_isCovered
      rw [chk_out h.R.1 hm, xb_e (by decide)]
      exact wr1_e (by decide)
    · unfold k11_isCovered
      rw [isM_out h.R.2.1 hN9 hm, some_bind, if_pos rfl]
theorem p_mirrorAt : S_mirrorAt Inv := by
  intro n g f a h
  obtain ⟨N, J, rw, h⟩ := h
  have hN9 := h.R.N9
  by_cases hm : ¬ a < 0 ∧ a < nI N
  · have hm0 := hm
    obtain ⟨m, hm1, rfl⟩ := (in_c (by omega)).mp hm
    refine ⟨(0, g, vp_updL f 0 (nI (rw m)).toInt64), (nI (rw m), up g 47 0 0), ?_, ?_, (show up g 47 0 0 47 0 = 0 from up_self), fun _ => rfl, h.thrown.next⟩
    · unfold w_mirrorAt k8_mirrorAt
      rw [if_neg hm0.1, h.R.1, if_pos hm0.2, k4_mirrorIn_n h.R.1 h.R.row hm1]
      exact wr1_0
    · unfold k11_mirrorAt
      show (k11_isMirror (nI m) g).bind _ = _
      rw [isM_in h.R.2.1 hN9 hm1, some_bind]
      dsimp only
      rw [if_neg (by decide), ld_n (by omega) (by omega), up_other (by decide), (h.R.mrow.2.1 m hm1).1]
  · refine ⟨(1, g, f), (0, up g 47 0 1), ?_, ?_, by show up g 47 0 1 47 0 = 1; exact up_self, fun h => absurd h (by show ¬ (1 : Int32) = 0; decide), h.thrown.next⟩
    · unfold w_mirrorAt k8_mirrorAt k8_mirrorAt_18
      by_cases h1 : a < 0
      · rw [if_pos h1]
        exact wr1_e (by decide)
      · rw [if_neg h1, h.R.1, if_neg (fun h2 => hm ⟨h1, h2⟩)]
        exact wr1_e (by decide)
    · unfold k11_mirrorAt
      rw [isM_out h.R.2.1 hN9 hm, some_bind, if_pos rfl]
