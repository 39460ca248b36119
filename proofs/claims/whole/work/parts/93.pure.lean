/-! dust by hand: the class shines between its write and the reference's -/
theorem litOf.over {o N a m : Nat} {rw : Nat → Nat} {g g' G1 G2 : G} {v : Int32} (h : litOf o rw N g g') (ha : a ≠ o ∧ a ≠ o + 1 ∧ a ≠ o + 3 ∧ a ≠ o + 5 ∧ a ≠ o + 6 ∧ a ≠ o + 7) (h1 : G1 = up g a m v) (h2 : G2 = up g' a m v) : litOf o rw N G1 G2 := by
  subst h1
  subst h2
  obtain ⟨k1, k2, k3, k4, k5, k6⟩ := h
  have e : ∀ b, b ≠ a → up g a m v b = g b := fun b hb => up_ne hb
  have e' : ∀ b, b ≠ a → up g' a m v b = g' b := fun b hb => up_ne hb
  obtain ⟨a0, a1, a3, a5, a6, a7⟩ := ha
  refine ⟨fun b b0 b1 b2 b3 => ?_, fun k c1 c2 c3 => ?_, ?_, fun q hq => ?_, ?_, ?_⟩
  · by_cases hb : b = a
    · subst hb
      funext j
      by_cases hj : j = m
      · subst hj; rw [up_self, up_self]
      · rw [up_slot hj, up_slot hj, k1 b b0 b1 b2 b3]
    · rw [e b hb, e' b hb, k1 b b0 b1 b2 b3]
  · rw [e o (Ne.symm a0), e' o (Ne.symm a0)]
    exact k2 k c1 c2 c3
  · rw [e' o (Ne.symm a0)]
    exact k3
  · rw [e (o + 1) (Ne.symm a1), e (o + 3) (Ne.symm a3), e o (Ne.symm a0), e' (o + 5) (Ne.symm a5), e' (o + 6) (Ne.symm a6), e' (o + 7) (Ne.symm a7)]
    exact k4 q hq
  · rw [e (o + 1) (Ne.symm a1), e (o + 3) (Ne.symm a3), e o (Ne.symm a0), e' o (Ne.symm a0)]
    exact k5
  · rw [e (o + 3) (Ne.symm a3), e' o (Ne.symm a0)]
    exact k6
theorem p_dustMirror : S_dustMirror Inv := by
  intro n g f a v h
  obtain ⟨N, J, rw, h⟩ := h
  have hN9 := h.R.N9
  by_cases hm : ¬ a < 0 ∧ a < nI N
  · obtain ⟨m, hm1, rfl⟩ := (in_c (by omega)).mp hm
    by_cases hv : v < 0 ∨ 100 < v
    · refine ⟨(2, g, f), (0, up (up g 47 0 0) 47 0 2), ?_, ?_, (show up (up g 47 0 0) 47 0 2 47 0 = 2 from up_self), fun h => absurd h (by show ¬ (2 : Int32) = 0; decide), h.thrown.thrown.next⟩
      · unfold w_dustMirror k8_dustMirror k8_dustMirror_15
        rw [chk_in h.R.1 hN9 hm1, xb_0]
        rcases hv with hv | hv
        · rw [if_pos hv]
          rfl
        · by_cases h1 : v < 0
          · rw [if_pos h1]
            rfl
          · rw [if_neg h1, if_neg (Int32.not_le.mpr hv)]
            rfl
      · unfold k11_dustMirror
        show (k11_isMirror (nI m) g).bind _ = _
        rw [isM_in h.R.2.1 hN9 hm1, some_bind]
        dsimp only
        have e : (if v < 0 then (0 : Int32) else if (100 : Int32) < v then 0 else 1) = 0 := by
          rcases hv with hv | hv
          · rw [if_pos hv]
          · split
            · rfl
            · rfl
        rw [if_neg (by decide), k11_isIn_n, some_bind, e, if_pos rfl]
        rfl
    · have hv1 : ¬ v < 0 := fun q => hv (Or.inl q)
      have hv2 : ¬ 100 < v := fun q => hv (Or.inr q)
      have hrg := h.2.2.2.1 m hm1
      have hceq : g 23 m = g 80 m := (h.R.2.2.2.2.2.2.1 m hm1).1
      obtain ⟨d1, d2, d3⟩ := dust_eq (c := g 80 m) (d := v) hrg.1 ⟨hv1, Int32.not_lt.mp hv2⟩
      obtain ⟨x, hx⟩ : ∃ x, x = (if 0 < g 80 m - v then g 80 m - v else 0) := ⟨_, rfl⟩
      rw [← hx] at d1 d2 d3
      have has : k4_has 22 (nI m) g = some 1 := k4_has_n h.R.1 hN9 hm1
      -- both writes
      have hw : InvC n N J rw (up (up (up (up g 23 m x) 22 13 0) 47 0 0) 80 m x) := by
        refine h.write (i := 1) (m := m) (v := x) (by omega) (fun a b1 b2 b3 b4 => ?_) (fun k hk => ?_) ?_ (fun j => ?_) (fun j => ?_) ?_ ?_ (fun j hj => ?_)
        · rw [up_ne b3, up_ne b4, up_ne b1, up_ne b2]
        · rw [up_other (by decide), up_other (by decide), up_slot hk, up_other (by decide)]
        · rw [up_other (by decide), up_other (by decide), up_self]
        · rw [up_other (by decide), up_other (by decide), up_other (by decide)]
          by_cases e : j = m
          · subst e; rw [up_self, if_pos rfl]
          · rw [up_slot e, if_neg e]
        · by_cases e : j = m
          · subst e; rw [up_self, if_pos rfl]
          · rw [up_slot e, if_neg e, up_other (by decide), up_other (by decide), up_other (by decide)]
        · rw [up_other (by decide), up_slot (by decide), up_other (by decide), up_other (by decide)]
        · rw [up_other (by decide), up_slot (by decide), up_other (by decide), up_other (by decide)]
        · obtain ⟨c1, c2, c3⟩ := h.2.2.2.1 j hj
          refine ⟨?_, ?_, ?_⟩
          · by_cases e : j = m
            · subst e; rw [up_self]; exact ⟨d2, d3⟩
            · rw [up_slot e, up_other (by decide), up_other (by decide), up_other (by decide)]; exact c1
          · rw [up_other (by decide), up_other (by decide), up_other (by decide), up_other (by decide)]; exact c2
          · rw [up_other (by decide), up_other (by decide), up_other (by decide), up_other (by decide)]; exact c3
      -- the class's light
      have hNw : (up (up g 23 m x) 22 13 0) 22 7 = nI N := by rw [up_slot (by decide), up_other (by decide)]; exact h.R.1
      have hRw : isRow (up (up g 23 m x) 22 13 0) (22 + 4) N rw := isRow_same (by rw [up_ne (by decide), up_ne (by decide)]) h.R.row
      obtain ⟨g2, e2, l2⟩ := k4_shine_ok hNw hRw (Or.inl up_self)
      have hval : k4_valueOf 22 129 (nI m) (up (up g 23 m x) 22 13 0) = some (x, g2) := by
        unfold k4_valueOf
        rw [k4_has_n hNw hN9 hm1, some_bind, if_neg (by decide), e2, some_bind, if_pos rfl, ld_n (by omega) (by omega), l2.1 (22 + 1) (by omega) (by omega) (by omega) (by omega), up_other (by decide), up_self]
      have l3 := (l2.over (a := 47) (m := 0) (v := 0) (by omega) rfl rfl).over (a := 80) (m := m) (v := x) (by omega) rfl rfl
      refine ⟨(0, g2, vp_updL f 0 x.toInt64), (x, up (up g2 47 0 0) 80 m x), ?_, ?_, ?_, fun _ => rfl, InvC.next (hw.lit l3)⟩
      · unfold w_dustMirror k8_dustMirror
        rw [chk_in h.R.1 hN9 hm1, xb_0, if_neg hv1, if_pos (Int32.not_lt.mp hv2)]
        unfold k4_dim
        rw [has, some_bind, if_neg (by decide), ld_n (by omega) (by omega), hceq, k8_hold_eq, d1, some_bind, sto_n (by omega) (by omega), bd_eq, some_bind, hval]
        exact wr2_0
      · unfold k11_dustMirror
        show (k11_isMirror (nI m) g2).bind _ = _
        have e80 : g2 80 = g 80 := by rw [l2.1 80 (by omega) (by omega) (by omega) (by omega), up_ne (by decide), up_ne (by decide)]
        rw [isM_in (by rw [l2.1 54 (by omega) (by omega) (by omega) (by omega), up_other (by decide), up_other (by decide)]; exact h.R.2.1) hN9 hm1, some_bind]
        dsimp only
        rw [if_neg (by decide), k11_isIn_n, some_bind, if_neg hv1, if_neg hv2, if_neg (by decide), ld_n (by omega) (by omega), up_other (by decide), e80, bd_eq, ← hx, sto_n (by omega) (by omega), ld_n (by omega) (by omega), up_self]
      · show up (up g2 47 0 0) 80 m x 47 0 = 0
        rw [up_other (by decide), up_self]
  · refine ⟨(1, g, f), (0, up g 47 0 1), ?_, ?_, by show up g 47 0 1 47 0 = 1; exact up_self, fun h => absurd h (by show ¬ (1 : Int32) = 0; decide), h.thrown.next⟩
    · unfold w_dustMirror k8_dustMirror
      rw [chk_out h.R.1 hm, xb_e (by decide)]
      exact wr2_3
    · unfold k11_dustMirror
      show (k11_isMirror a g).bind _ = _
      rw [isM_out h.R.2.1 hN9 hm, some_bind, if_pos rfl]
