/-! by hand: an offset, dust -/
theorem InvC.write {n N J m i : Nat} {rw : Nat → Nat} {g g' : G} {v : Int32} (hi : 1 ≤ i ∧ i ≤ 3) (h : InvC n N J rw g) (hk : ∀ a, a ≠ 22 → a ≠ 22 + i → a ≠ 79 + i → a ≠ 47 → g' a = g a) (ho : ∀ k, k ≠ 13 → g' 22 k = g 22 k) (h13 : g' 22 13 = 0) (hoi : ∀ j, g' (22 + i) j = if j = m then v else g (22 + i) j) (hti : ∀ j, g' (79 + i) j = if j = m then v else g (79 + i) j) (h2 : g' 47 2 = g 47 2) (h3 : g' 47 3 = g 47 3) (hr : Rng 79 N g') : InvC n N J rw g' := by
  obtain ⟨a1, a2, a3, a4, a5, a6, a7, a8⟩ := h
  refine ⟨a1.frame (hk 1 (by omega) (by omega) (by omega) (by omega)) (hk 2 (by omega) (by omega) (by omega) (by omega)) (hk 48 (by omega) (by omega) (by omega) (by omega)) h2, by rw [hk 0 (by omega) (by omega) (by omega) (by omega), h3]; exact a2, a3.write hO0 hi hk ho h13 hoi hti, hr, a5.frame (fun a ha => hk a (by omega) (by omega) (by omega) (by omega)), by rw [hk 21 (by omega) (by omega) (by omega) (by omega), hk 79 (by omega) (by omega) (by omega) (by omega)]; exact a6, by rw [hk 30 (by omega) (by omega) (by omega) (by omega)]; exact a7, a8.frame (fun a ha => hk a (by omega) (by omega) (by omega) (by omega))⟩
theorem wr2_0 {e1 e2 : Nat} {v : Int32} {g : G} {f : Nat → Int64} {x : Int64} : wr2 e1 e2 (0, v, g) f x = some (0, g, vp_updL f 0 x) := if_pos rfl
theorem wr2_3 {v : Int32} {g : G} {f : Nat → Int64} {x : Int64} : wr2 3 2 (3, v, g) f x = some (1, g, f) := rfl
theorem wr2_2 {v : Int32} {g : G} {f : Nat → Int64} {x : Int64} : wr2 3 2 (2, v, g) f x = some (2, g, f) := rfl
theorem p_turnMirror : S_turnMirror Inv := by
  intro n g f a v h
  obtain ⟨N, J, rw, h⟩ := h
  have hN9 := h.R.N9
  by_cases hm : ¬ a < 0 ∧ a < nI N
  · obtain ⟨m, hm1, rfl⟩ := (in_c (by omega)).mp hm
    by_cases hv : v < -90 ∨ 90 < v
    · refine ⟨(2, g, f), (0, up (up g 47 0 0) 47 0 2), ?_, ?_, (show up (up g 47 0 0) 47 0 2 47 0 = 2 from up_self), fun h => absurd h (by show ¬ (2 : Int32) = 0; decide), h.thrown.thrown.next⟩
      · unfold w_turnMirror k8_turnMirror k8_turnMirror_17
        rw [chk_in h.R.1 hN9 hm1, xb_0]
        rcases hv with hv | hv
        · rw [if_pos hv]
          rfl
        · by_cases h1 : v < -90
          · rw [if_pos h1]
            rfl
          · rw [if_neg h1, if_neg (Int32.not_le.mpr hv)]
            rfl
      · unfold k11_turnMirror
        show (k11_isMirror (nI m) g).bind _ = _
        rw [isM_in h.R.2.1 hN9 hm1, some_bind]
        dsimp only
        have e : (if v < -90 then (0 : Int32) else if (90 : Int32) < v then 0 else 1) = 0 := by
          rcases hv with hv | hv
          · rw [if_pos hv]
          · split
            · rfl
            · rfl
        rw [if_neg (by decide), k11_isIn_n, some_bind, e, if_pos rfl]
        rfl
    · have hv1 : ¬ v < -90 := fun q => hv (Or.inl q)
      have hv2 : ¬ 90 < v := fun q => hv (Or.inr q)
      obtain ⟨g1, e1, l1, r1⟩ := v130 hO0 h.R hm1
      have h1 := h.lit l1
      have has : k4_has 22 (nI m) g1 = some 1 := k4_has_n r1.1 hN9 hm1
      refine ⟨(0, up (up g1 25 m v) 22 13 0, vp_updL f 0 (g1 82 m).toInt64), (g1 82 m, up (up (up (up g1 25 m v) 22 13 0) 47 0 0) 82 m v), ?_, ?_, ?_, fun _ => rfl, InvC.next (N := N) (J := J) (rw := rw) ?_⟩
      · unfold w_turnMirror k8_turnMirror
        rw [chk_in h.R.1 hN9 hm1, xb_0, if_neg hv1, if_pos (Int32.not_lt.mp hv2), e1, some_bind]
        dsimp only
        unfold k4_turn
        rw [bd_eq, has, some_bind, if_neg (by decide), sto_n (by omega) (by omega)]
        exact wr2_0
      · unfold k11_turnMirror
        show (k11_isMirror (nI m) (up (up g1 25 m v) 22 13 0)).bind _ = _
        rw [isM_in (by rw [up_other (by decide), up_other (by decide)]; exact r1.2.1) hN9 hm1, some_bind]
        dsimp only
        rw [if_neg (by decide), k11_isIn_n, some_bind, if_neg hv1, if_neg hv2, if_neg (by decide), ld_n (by omega) (by omega), sto_n (by omega) (by omega), up_other (by decide), up_other (by decide), up_other (by decide)]
      · show up (up (up (up g1 25 m v) 22 13 0) 47 0 0) 82 m v 47 0 = 0
        rw [up_other (by decide), up_self]
      · show InvC n N J rw (up (up (up (up g1 25 m v) 22 13 0) 47 0 0) 82 m v)
        refine h1.write (i := 3) (m := m) (v := v) (by omega) (fun a b1 b2 b3 b4 => ?_) (fun k hk => ?_) ?_ (fun j => ?_) (fun j => ?_) ?_ ?_ (fun j hj => ?_)
        · rw [up_ne b3, up_ne b4, up_ne b1, up_ne b2]
        · rw [up_other (by decide), up_other (by decide), up_slot hk, up_other (by decide)]
        · rw [up_other (by decide), up_other (by decide), up_self]
        · rw [up_other (by decide), up_other (by decide), up_other (by decide)]
          by_cases e : j = m
          · subst e; rw [up_self, if_pos rfl]
          · rw [up_slot e, if_neg e]
        · by_cases e : j = m
          · subst e; rw [up_self, if_pos rfl]
          · rw [up_slot e, if_neg e, up_other (by decide), up_other (by decide), up_other (by decide)]
        · rw [up_other (by decide), up_slot (by decide), up_other (by decide), up_other (by decide)]
        · rw [up_other (by decide), up_slot (by decide), up_other (by decide), up_other (by decide)]
        · obtain ⟨c1, c2, c3⟩ := h1.2.2.2.1 j hj
          refine ⟨?_, ?_, ?_⟩
          · rw [up_other (by decide), up_other (by decide), up_other (by decide), up_other (by decide)]; exact c1
          · rw [up_other (by decide), up_other (by decide), up_other (by decide), up_other (by decide)]; exact c2
          · by_cases e : j = m
            · subst e; rw [up_self]; exact ⟨Int32.not_lt.mp hv1, Int32.not_lt.mp hv2⟩
            · rw [up_slot e, up_other (by decide), up_other (by decide), up_other (by decide)]; exact c3
  · refine ⟨(1, g, f), (0, up g 47 0 1), ?_, ?_, by show up g 47 0 1 47 0 = 1; exact up_self, fun h => absurd h (by show ¬ (1 : Int32) = 0; decide), h.thrown.next⟩
    · unfold w_turnMirror k8_turnMirror
      rw [chk_out h.R.1 hm, xb_e (by decide)]
      exact wr2_3
    · unfold k11_turnMirror
      show (k11_isMirror a g).bind _ = _
      rw [isM_out h.R.2.1 hN9 hm, some_bind, if_pos rfl]
