/-! each mirror has its place -/
theorem inj_surj : ∀ (N : Nat) (rw : Nat → Nat), (∀ p, p < N → rw p < N) → (∀ p q, p < N → q < N → rw p = rw q → p = q) → ∀ m, m < N → ∃ p, p < N ∧ rw p = m := by
  intro N
  induction N with
  | zero => intro rw _ _ m hm; omega
  | succ N ih =>
    intro rw h1 h2 m hm
    have hlt : ∀ p, p < N → (if rw p = N then rw N else rw p) < N := by
      intro p hp
      by_cases e : rw p = N
      · rw [if_pos e]
        have := h1 N (by omega)
        rcases Nat.lt_or_ge (rw N) N with q | q
        · exact q
        · have e2 : rw p = rw N := by omega
          have := h2 p N (by omega) (by omega) e2
          omega
      · rw [if_neg e]
        have := h1 p (by omega)
        omega
    have hin : ∀ p q, p < N → q < N → (if rw p = N then rw N else rw p) = (if rw q = N then rw N else rw q) → p = q := by
      intro p q hp hq e
      by_cases ep : rw p = N <;> by_cases eq : rw q = N
      · exact h2 p q (by omega) (by omega) (by omega)
      · rw [if_pos ep, if_neg eq] at e
        have := h2 N q (by omega) (by omega) e
        omega
      · rw [if_neg ep, if_pos eq] at e
        have := h2 p N (by omega) (by omega) e
        omega
      · rw [if_neg ep, if_neg eq] at e
        exact h2 p q (by omega) (by omega) e
    have key := ih (fun p => if rw p = N then rw N else rw p) hlt hin
    by_cases hk : m = rw N
    · exact ⟨N, by omega, hk.symm⟩
    · by_cases hmN : m = N
      · have hkN : rw N < N := by
          have := h1 N (by omega)
          omega
        obtain ⟨p, hp, he⟩ := key (rw N) hkN
        by_cases ep : rw p = N
        · exact ⟨p, by omega, by omega⟩
        · have he : (if rw p = N then rw N else rw p) = rw N := he
          rw [if_neg ep] at he
          have := h2 p N (by omega) (by omega) he
          omega
      · obtain ⟨p, hp, he⟩ := key m (by omega)
        have he : (if rw p = N then rw N else rw p) = m := he
        by_cases ep : rw p = N
        · rw [if_pos ep] at he
          omega
        · rw [if_neg ep] at he
          exact ⟨p, by omega, he⟩
theorem isRow.at {g : G} {c N m : Nat} {rw : Nat → Nat} (h : isRow g c N rw) (hm : m < N) : ∃ p, p < N ∧ rw p = m := inj_surj N rw (fun p hp => (h.2.1 p hp).2) h.2.2 m hm
theorem p_lightBehind : S_lightBehind Inv := by
  intro n g f a h
  obtain ⟨N, J, rw, h⟩ := h
  have hN9 := h.R.N9
  by_cases hm : ¬ a < 0 ∧ a < nI N
  · obtain ⟨m, hm1, rfl⟩ := (in_c (by omega)).mp hm
    obtain ⟨g1, e1, l1, r1⟩ := v141 hO0 h.R hm1
    obtain ⟨g2, e2, l2, r2⟩ := shine_m hO0 r1
    obtain ⟨m1, m2, m3⟩ := lit_m hO0 r1 l1.2.2.1 l2
    obtain ⟨q, hq, rfl⟩ := h.R.row.at hm1
    obtain ⟨b1, b2, b3⟩ := m3 q hq
    refine ⟨(0, g1, vp_updL f 0 (g1 (22 + 5) (rw q)).toInt64), (g2 94 (rw q), up g2 47 0 0), ?_, ?_, (show up g2 47 0 0 47 0 = 0 from up_self), fun _ => by show (g1 (22 + 5) (rw q)).toInt64 = (g2 94 (rw q)).toInt64; rw [b1], ((h.lit l1).mlit l2).thrown.next⟩
    · unfold w_lightBehind k8_lightBehind
      rw [chk_in h.R.1 hN9 hm1, xb_0, e1]
      exact wr1_0
    · unfold k11_lightBehind
      show (k11_shine 79 g1).bind _ = _
      rw [e2, some_bind, isM_in r2.2.1 hN9 hm1, some_bind]
      dsimp only
      rw [if_neg (by decide), ld_n (by omega) (by omega), up_other (by decide)]
  · obtain ⟨g2, e2, l2, r2⟩ := shine_m hO0 h.R
    refine ⟨(1, g, f), (0, up g2 47 0 1), ?_, ?_, by show up g2 47 0 1 47 0 = 1; exact up_self, fun h => absurd h (by show ¬ (1 : Int32) = 0; decide), (h.mlit l2).thrown.next⟩
    · unfold w_lightBehind k8_lightBehind
      rw [chk_out h.R.1 hm, xb_e (by decide)]
      exact wr1_e (by decide)
    · unfold k11_lightBehind
      show (k11_shine 79 g).bind _ = _
      rw [e2, some_bind, isM_out r2.2.1 hN9 hm, some_bind, if_pos rfl]
theorem p_tiltBehind : S_tiltBehind Inv := by
  intro n g f a h
  obtain ⟨N, J, rw, h⟩ := h
  have hN9 := h.R.N9
  by_cases hm : ¬ a < 0 ∧ a < nI N
  · obtain ⟨m, hm1, rfl⟩ := (in_c (by omega)).mp hm
    obtain ⟨g1, e1, l1, r1⟩ := v144 hO0 h.R hm1
    obtain ⟨g2, e2, l2, r2⟩ := shine_m hO0 r1
    obtain ⟨m1, m2, m3⟩ := lit_m hO0 r1 l1.2.2.1 l2
    obtain ⟨q, hq, rfl⟩ := h.R.row.at hm1
    obtain ⟨b1, b2, b3⟩ := m3 q hq
    refine ⟨(0, g1, vp_updL f 0 (g1 (22 + 7) (rw q)).toInt64), (g2 95 (rw q), up g2 47 0 0), ?_, ?_, (show up g2 47 0 0 47 0 = 0 from up_self), fun _ => by show (g1 (22 + 7) (rw q)).toInt64 = (g2 95 (rw q)).toInt64; rw [b3], ((h.lit l1).mlit l2).thrown.next⟩
    · unfold w_tiltBehind k8_tiltBehind
      rw [chk_in h.R.1 hN9 hm1, xb_0, e1]
      exact wr1_0
    · unfold k11_tiltBehind
      show (k11_shine 79 g1).bind _ = _
      rw [e2, some_bind, isM_in r2.2.1 hN9 hm1, some_bind]
      dsimp only
      rw [if_neg (by decide), ld_n (by omega) (by omega), up_other (by decide)]
  · obtain ⟨g2, e2, l2, r2⟩ := shine_m hO0 h.R
    refine ⟨(1, g, f), (0, up g2 47 0 1), ?_, ?_, by show up g2 47 0 1 47 0 = 1; exact up_self, fun h => absurd h (by show ¬ (1 : Int32) = 0; decide), (h.mlit l2).thrown.next⟩
    · unfold w_tiltBehind k8_tiltBehind
      rw [chk_out h.R.1 hm, xb_e (by decide)]
      exact wr1_e (by decide)
    · unfold k11_tiltBehind
      show (k11_shine 79 g).bind _ = _
      rw [e2, some_bind, isM_out r2.2.1 hN9 hm, some_bind, if_pos rfl]
theorem p_lostAt : S_lostAt Inv := by
  intro n g f a h
  obtain ⟨N, J, rw, h⟩ := h
  have hN9 := h.R.N9
  by_cases hm : ¬ a < 0 ∧ a < nI N
  · obtain ⟨m, hm1, rfl⟩ := (in_c (by omega)).mp hm
    obtain ⟨g1, e1, l1, r1⟩ := v143 hO0 h.R hm1
    obtain ⟨g2, e2, l2, r2⟩ := shine_m hO0 r1
    obtain ⟨m1, m2, m3⟩ := lit_m hO0 r1 l1.2.2.1 l2
    obtain ⟨q, hq, rfl⟩ := h.R.row.at hm1
    obtain ⟨b1, b2, b3⟩ := m3 q hq
    refine ⟨(0, g1, vp_updL f 0 (g1 (22 + 6) (rw q)).toInt64), (g2 93 (rw q) - g2 94 (rw q), up g2 47 0 0), ?_, ?_, (show up g2 47 0 0 47 0 = 0 from up_self), fun _ => by show (g1 (22 + 6) (rw q)).toInt64 = (g2 93 (rw q) - g2 94 (rw q)).toInt64; rw [b2], ((h.lit l1).mlit l2).thrown.next⟩
    · unfold w_lostAt k8_lostAt
      rw [chk_in h.R.1 hN9 hm1, xb_0, e1]
      exact wr1_0
    · unfold k11_lostAt
      show (k11_shine 79 g1).bind _ = _
      rw [e2, some_bind, isM_in r2.2.1 hN9 hm1, some_bind]
      dsimp only
      rw [if_neg (by decide), ld_n (by omega) (by omega), ld_n (by omega) (by omega), up_other (by decide), up_other (by decide)]
  · obtain ⟨g2, e2, l2, r2⟩ := shine_m hO0 h.R
    refine ⟨(1, g, f), (0, up g2 47 0 1), ?_, ?_, by show up g2 47 0 1 47 0 = 1; exact up_self, fun h => absurd h (by show ¬ (1 : Int32) = 0; decide), (h.mlit l2).thrown.next⟩
    · unfold w_lostAt k8_lostAt
      rw [chk_out h.R.1 hm, xb_e (by decide)]
      exact wr1_e (by decide)
    · unfold k11_lostAt
      show (k11_shine 79 g).bind _ = _
      rw [e2, some_bind, isM_out r2.2.1 hN9 hm, some_bind, if_pos rfl]
