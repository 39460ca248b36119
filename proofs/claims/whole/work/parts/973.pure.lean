/-! the crew's minute -/
theorem works_24 {t : Nat} {g : G} : k9_works_24 t g = if (up g t 7 ((g t 7) - 1) t 7) ≤ 0 then ld (up g t 7 ((g t 7) - 1)) (t + 5) 12 0 fun x3 => (k9_take t 0 (up g t 7 ((g t 7) - 1))).bind fun u4 => if x3 = 0 then (k9_clean t u4.1 (up u4.2 t 9 ((u4.2 t 9) + 1))).bind fun g12 => ld g12 (t + 2) 10 u4.1 fun x13 => bd (if 0 < (x13 - 1) then (x13 - 1) else 0) fun x14 => sto g12 (t + 2) 10 u4.1 x14 fun g15 => some ((1 : Int32), g15) else sto (up u4.2 t 9 ((u4.2 t 9) + 1)) (t + 3) 10 u4.1 0 fun g8 => if x3 = 2 then sto g8 (t + 1) 10 u4.1 100 fun g10 => sto g10 (t + 2) 10 u4.1 100 fun g11 => some (1, g11) else some (1, g8) else some (0, up g t 7 ((g t 7) - 1)) := rfl
theorem step60 {w t N J y m : Nat} {rw : Nat → Nat} {gc gm : G} (hO : wOK w t) (h : RelW w t N (J + 1) rw gc gm) (hy : gm t 7 = nI (y + 1)) (hy31 : y + 1 < 2 ^ 31) (hm : m < N) (hm1 : gm (t + 6) 0 = nI m) : ∃ gc' gm' J' e, k7_work_60 w (gm (t + 5) 0) (nI m) gc = some gc' ∧ k9_works_24 t gm = some (nI e, gm') ∧ e ≤ 1 ∧ RelW w t N J' rw gc' gm' ∧ fC w gc gc' ∧ fM t gm gm' ∧ gc' (w + 9) 4 = gc (w + 9) 4 + nI e := by
  have hO' := hO.o
  unfold okO at hO'
  have ht : t ≠ 78 ∧ 78 < t := by rcases hO with ⟨-, rfl⟩ | ⟨-, rfl⟩ <;> omega
  obtain ⟨q1, q2, q3, q4, q5, q6, q7, q8⟩ := h.2.2.2.2.1
  have hcov : gc (w + 1) 10 = nI m := by
    rw [h.1.2.2.2.2.2.2.2]
    unfold covOf
    rw [hy, if_neg (nI_nle (by omega) hy31), hm1]
  have hk := (q6 0 (by omega)).2.2.2
  by_cases e : y = 0
  · subst e
    have ec0 : (up gc (w + 9) 3 (nI 0)) (w + 9) 2 = nI (J + 1) := by rw [up_slot (by decide)]; exact q2
    have em0 : (up gm t 7 (nI 0)) t 6 = nI (J + 1) := by rw [up_slot (by decide)]; exact q3
    obtain ⟨g1, c0, c1, c2, c3, c4, c5, c6, c7, c8, c9⟩ := drop_c (o := w) (a := 0) (J := J) (g := up gc (w + 9) 3 (nI 0)) (by omega) (by omega) ec0
    obtain ⟨g2, m0, m1, m2, m3, m4, m5, m6⟩ := take_m (t := t) (a := 0) (J := J) (g := up gm t 7 (nI 0)) (by omega) (by omega) em0
    obtain ⟨c31, c32⟩ := c3 rfl
    rw [if_pos rfl] at c6 m4
    rw [up_slot (by decide)] at c7
    rw [up_ne (by omega)] at c8 c9
    rw [up_ne (by omega)] at m5 m6
    have hQ : RelQ2 (w + 9) t N J (up g1 (w + 9) 4 (g1 (w + 9) 4 + 1)) (up g2 t 9 (g2 t 9 + 1)) := by
      refine ⟨by omega, ?_, ?_, ?_, ?_, fun k hk => ?_, ?_, fun _ => ?_⟩
      · rw [up_slot (by decide)]; exact c5
      · rw [up_slot (by decide)]; exact m3
      · rw [up_slot (by decide), up_slot (by decide), c6, m4]
      · rw [up_self, up_self, c7, q5, m2 9 (by decide) (by decide), up_slot (by decide)]
      · rw [up_ne (by omega), up_ne (by omega), up_ne (by omega), up_ne (by omega), c8.2.1 k (by omega) hk, c9.2.1 k (by omega) hk, m5.2.1 k (by omega) hk, m6.2.1 k (by omega) hk]
        exact q6 (k + 1) (by omega)
      · rw [up_slot (by decide), m4]; decide
      · rw [up_slot (by decide), m4]
    have hB : RelW w t N J rw (up g1 (w + 9) 4 (g1 (w + 9) 4 + 1)) (up g2 t 9 (g2 t 9 + 1)) := by
      refine h.que (fun i i1 i2 => ?_) (fun k k1 k2 => ?_) (Or.inl ?_) ?_ ?_ (fun i i1 i2 => ?_) ?_ ?_ hQ
      · rw [up_ne (by omega), c1 _ (by omega) (by omega) (by omega) (by omega), up_ne (by omega)]
      · rw [up_other (by omega), c2 k k1 k2, up_other (by omega)]
      · rw [up_other (by omega)]; exact c32
      · rw [up_other (by omega), c1 w (by omega) (by omega) (by omega) (by omega), up_other (by omega)]
      · rw [up_ne (by omega), m1 54 (by omega) (by omega) (by omega), up_ne (by omega)]
      · rw [up_ne (by omega), m1 _ (by omega) (by omega) (by omega), up_ne (by omega)]
      · rw [up_slot (by decide), m2 8 (by decide) (by decide), up_slot (by decide)]
      · rw [up_other (by omega), c31]
        unfold covOf
        rw [up_slot (by decide), m4, if_pos (by decide)]
    obtain ⟨gc', gm', x1, x2, x3, x4, x5, x6⟩ := finish2 hO hB hm hk
    refine ⟨gc', gm', J, 1, ?_, ?_, Nat.le_refl _, x3, ?_, ?_, ?_⟩
    · unfold k7_work_60
      rw [bd_eq, q4, hy, nI_pred, up_self, if_pos (show nI 0 = 0 from rfl), show (0 : Int32) = nI 0 from rfl, c0, some_bind, bd_eq]
      rw [show k7_finish w (gm (t + 5) 0) (nI m) (up g1 (w + 9) 4 (g1 (w + 9) 4 + 1)) = some gc' from x1]
      rfl
    · rw [works_24, hy, nI_pred, up_self, if_pos (show nI 0 ≤ 0 by decide), ld_0 (by omega) (by omega), show k9_take t 0 (up gm t 7 (nI 0)) = k9_take t (nI 0) (up gm t 7 (nI 0)) from rfl, m0, some_bind, up_ne (show t + 5 ≠ t by omega)]
      dsimp only
      rw [up_ne (show t + 6 ≠ t by omega), hm1]
      exact x2
    · refine fC.trans (fun a ha => ?_) x4
      rw [up_ne (by omega), c1 a (by omega) (by omega) (by omega) (by omega), up_ne (by omega)]
    · refine fM.trans ⟨fun a a1 a2 a3 a4 a5 a6 => ?_, fun k k1 k2 => ?_⟩ x5
      · rw [up_ne (by omega), m1 a (by omega) (by omega) (by omega), up_ne (by omega)]
      · rw [up_other (by omega), m1 47 (by omega) (by omega) (by omega), up_other (by omega)]
    · rw [x6, up_self, c7]
      rfl
  · have hne : ¬ nI y = 0 := nI_ne0 (by omega) (by omega)
    have hcovm : covOf t (up gm t 7 (nI y)) = nI m := by
      unfold covOf
      rw [up_self, if_neg (nI_nle (by omega) (by omega)), up_other (by omega), hm1]
    refine ⟨up gc (w + 9) 3 (nI y), up gm t 7 (nI y), J + 1, 0, ?_, ?_, by omega, h.que (fun i i1 i2 => ?_) (fun k k1 k2 => ?_) (Or.inr ?_) ?_ ?_ (fun i i1 i2 => ?_) ?_ ?_ ⟨q1, ?_, ?_, ?_, ?_, fun k hk => ?_, ?_, fun z => by omega⟩, fun a ha => ?_, ⟨fun a a1 a2 a3 a4 a5 a6 => ?_, fun k k1 k2 => ?_⟩, ?_⟩
    · unfold k7_work_60
      rw [bd_eq, q4, hy, nI_pred, up_self, if_neg hne]
    · rw [works_24, hy, nI_pred, up_self, if_neg (nI_nle (by omega) (by omega))]
      rfl
    · rw [up_ne (by omega)]
    · rw [up_other (by omega)]
    · rw [up_ne (by omega)]
    · rw [up_other (by omega)]
    · rw [up_ne (by omega)]
    · rw [up_ne (by omega)]
    · rw [up_slot (by decide)]
    · rw [up_other (by omega), hcovm]; exact hcov
    · rw [up_slot (by decide)]; exact q2
    · rw [up_slot (by decide)]; exact q3
    · rw [up_self, up_self]
    · rw [up_slot (by decide), up_slot (by decide)]; exact q5
    · rw [up_ne (by omega), up_ne (by omega), up_ne (by omega), up_ne (by omega)]
      exact q6 k hk
    · rw [up_self]; exact nI_pos (by omega)
    · rw [up_ne (by omega)]
    · rw [up_ne (by omega)]
    · rw [up_other (by omega)]
    · rw [up_slot (by decide)]
      exact (Int32.add_zero _).symm
theorem abs_n {v : Int32} (h : -90 ≤ v ∧ v ≤ 90) : ∃ a, a ≤ 90 ∧ (if 0 ≤ v then v else 0 - v) = nI a := by
  by_cases e : 0 ≤ v
  · rw [if_pos e]
    exact (in_le (N := 90) (by omega)).mp ⟨Int32.not_lt.mpr e, h.2⟩
  · rw [if_neg e]
    have e1 := Int32.lt_iff_toInt_lt.mp (Int32.not_le.mp e)
    have e2 := Int32.le_iff_toInt_le.mp h.1
    have e1' : v.toInt < 0 := e1
    have e2' : -90 ≤ v.toInt := e2
    refine ⟨(-v.toInt).toNat, by omega, ?_⟩
    apply Int32.toInt_inj.mp
    rw [nI_toInt (by omega), Int32.toInt_sub, show (0 : Int32).toInt = 0 from rfl, Int.bmod_eq_of_le (by omega) (by omega)]
    omega
theorem dv_lit {ρ : Type} {x c : Int32} {f : Int32 → Option ρ} (h : ¬ c = 0) : dv x c f = f (x / c) := if_neg h
theorem sub_100 {c : Nat} (h : c ≤ 100) : (100 : Int32) - nI c = nI (100 - c) := by
  apply Int32.toInt_inj.mp
  rw [Int32.toInt_sub, nI_toInt (by omega), nI_toInt (by omega), show (100 : Int32).toInt = 100 from rfl, Int.bmod_eq_of_le (by omega) (by omega)]
  omega
/-- how long a job takes: both say it -/
theorem takes2 {w t N J m : Nat} {rw : Nat → Nat} {gc gm : G} {kd : Int32} (hO : wOK w t) (h : RelW w t N J rw gc gm) (hm : m < N) (hm1 : gm (t + 6) 0 = nI m) (hk : gm (t + 5) 0 = kd) (hkd : kd = 0 ∨ kd = 1 ∨ kd = 2) : ∃ y gc', y ≤ 20 ∧ k7_minutesFor w kd (nI m) gc = some (nI (y + 1), gc') ∧ k9_takes t gm = some (nI (y + 1)) ∧ RelW w t N J rw gc' gm ∧ fC w gc gc' ∧ gc' (w + 9) = gc (w + 9) := by
  have hN9 := h.N9
  have hN := h.1.1
  obtain ⟨b1, b2, b3⟩ := h.2.2.2.1 m hm
  rcases hkd with rfl | rfl | rfl
  · obtain ⟨gc1, c1, h1, f1, f2, f3, f4, f9⟩ := w_lit h
    obtain ⟨c, cc1, cc2⟩ := rng_n b1
    have hv : (100 - gm (t + 1) m) / 10 + 1 = nI ((100 - c) / 10 + 1) := by
      rw [cc2, sub_100 cc1, show (10 : Int32) = nI 10 from rfl, nI_div (by omega) (by omega), nI_1]
    refine ⟨(100 - c) / 10, gc1, by omega, ?_, ?_, h1, f1, f9⟩
    · unfold k7_minutesFor k4_valueOf
      rw [if_pos rfl, k4_has_n hN hN9 hm, some_bind, if_neg (by decide), c1, some_bind, if_pos rfl, ld_n (by omega) (by omega), some_bind, dv_lit (by decide), f4 1 (by omega) (by omega), (h.1.2.2.2.2.2.1 m hm).1, hv]
    · unfold k9_takes
      rw [ld_0 (by omega) (by omega), hm1, ld_0 (by omega) (by omega), hk, if_pos rfl, ld_n (by omega) (by omega), dv_lit (by decide), hv]
  · obtain ⟨gc1, c1, h1, f1, f2, f3, f4, f9⟩ := w_lit h
    obtain ⟨c, cc1, cc2⟩ := abs_n b3
    have hv : (if 0 ≤ gm (t + 3) m then gm (t + 3) m else 0 - gm (t + 3) m) / 5 + 1 = nI (c / 5 + 1) := by
      rw [cc2, show (5 : Int32) = nI 5 from rfl, nI_div (by omega) (by omega), nI_1]
    refine ⟨c / 5, gc1, by omega, ?_, ?_, h1, f1, f9⟩
    · unfold k7_minutesFor k4_valueOf
      rw [if_neg (by decide), if_pos rfl, k4_has_n hN hN9 hm, some_bind, if_neg (by decide), c1, some_bind, if_neg (by decide), if_pos rfl, ld_n (by omega) (by omega), some_bind, bd_eq, dv_lit (by decide), f4 3 (by omega) (by omega), (h.1.2.2.2.2.2.1 m hm).2, hv]
    · unfold k9_takes
      rw [ld_0 (by omega) (by omega), hm1, ld_0 (by omega) (by omega), hk, if_neg (by decide), ld_0 (by omega) (by omega), hk, if_pos rfl, ld_n (by omega) (by omega), bd_eq, dv_lit (by decide), hv]
  · refine ⟨19, gc, by omega, ?_, ?_, h, fC.refl, rfl⟩
    · unfold k7_minutesFor
      rw [if_neg (by decide), if_neg (by decide)]
      rfl
    · unfold k9_takes
      rw [ld_0 (by omega) (by omega), ld_0 (by omega) (by omega), hk, if_neg (by decide), ld_0 (by omega) (by omega), hk, if_neg (by decide)]
      rfl
theorem work2 {w t N J : Nat} {rw : Nat → Nat} {gc gm : G} (hO : wOK w t) (h : RelW w t N J rw gc gm) : ∃ gc' gm' J' e, k7_work w gc = some gc' ∧ k9_works t gm = some (nI e, gm') ∧ e ≤ 1 ∧ RelW w t N J' rw gc' gm' ∧ fC w gc gc' ∧ fM t gm gm' ∧ gc' (w + 9) 4 = gc (w + 9) 4 + nI e := by
  have hO' := hO.o
  unfold okO at hO'
  obtain ⟨q1, q2, q3, q4, q5, q6, q7, q8⟩ := h.2.2.2.2.1
  by_cases hJ : J = 0
  · subst hJ
    refine ⟨gc, gm, 0, 0, ?_, ?_, by omega, h, fC.refl, fM.refl, (Int32.add_zero _).symm⟩
    · unfold k7_work
      rw [q2, if_pos (show nI 0 = 0 from rfl)]
    · unfold k9_works
      rw [q3, if_pos (show nI 0 = 0 from rfl)]
      rfl
  · obtain ⟨J, rfl⟩ : ∃ j, J = j + 1 := ⟨J - 1, by omega⟩
    obtain ⟨p1, p2, ⟨m, hm, hm1⟩, p4⟩ := q6 0 (by omega)
    have hne : ¬ nI (J + 1) = 0 := nI_ne0 (by omega) (by omega)
    have hcls : k7_work w gc = if (gc (w + 9) 3) = 0 then (k7_minutesFor w (gm (t + 5) 0) (nI m) gc).bind fun u10 => bd (up u10.2 (w + 9) 3 u10.1) fun g11 => (k4_cover (w + 1) (nI m) g11).bind fun g12 => k7_work_60 w (gm (t + 5) 0) (nI m) g12 else k7_work_60 w (gm (t + 5) 0) (nI m) gc := by
      unfold k7_work k3_kindIn k3_mirrorIn
      rw [q2, if_neg hne, if_neg (show ¬ (0 : Int32) < 0 by decide), if_neg (nI_nle (by omega) (by omega)), ld_0 (by omega) (by omega), some_bind, if_neg (show ¬ (0 : Int32) < 0 by decide), if_neg (nI_nle (by omega) (by omega)), ld_0 (by omega) (by omega), some_bind, p1, p2, hm1]
    have hmdl : k9_works t gm = if (gm t 7) = 0 then (k9_takes t gm).bind fun u18 => bd (up gm t 7 u18) fun g19 => k9_works_24 t g19 else k9_works_24 t gm := by
      unfold k9_works
      rw [q3, if_neg hne]
    by_cases e : gm t 7 = 0
    · obtain ⟨y, gc1, y1, y2, y3, y4, y5, y6⟩ := takes2 hO h hm hm1 rfl p4
      obtain ⟨s1, s2, s3, s4, s5, s6, s7, s8⟩ := y4.2.2.2.2.1
      have hA : RelW w t N (J + 1) rw (up (up (up gc1 (w + 9) 3 (nI (y + 1))) (w + 1) 10 (nI m)) (w + 1) 13 0) (up gm t 7 (nI (y + 1))) := by
        refine y4.que (fun i i1 i2 => ?_) (fun k k1 k2 => ?_) (Or.inl up_self) ?_ ?_ (fun i i1 i2 => ?_) ?_ ?_ ⟨q1, ?_, ?_, ?_, ?_, fun k hk => ?_, ?_, fun z => by omega⟩
        · by_cases ei : i = 8
          · omega
          · rw [up_ne (by omega), up_ne (by omega), up_ne (by omega)]
        · rw [up_slot k2, up_slot k1, up_other (by omega)]
        · rw [up_other (by omega), up_other (by omega), up_other (by omega)]
        · rw [up_ne (by omega)]
        · rw [up_ne (by omega)]
        · rw [up_slot (by decide)]
        · rw [up_slot (by decide), up_self]
          unfold covOf
          rw [up_self, if_neg (nI_nle (by omega) (by omega)), up_other (by omega), hm1]
        · rw [up_other (by omega), up_other (by omega), up_slot (by decide)]; exact s2
        · rw [up_slot (by decide)]; exact q3
        · rw [up_other (by omega), up_other (by omega), up_self, up_self]
        · rw [up_other (by omega), up_other (by omega), up_slot (by decide), up_slot (by decide)]; exact s5
        · rw [up_ne (by omega), up_ne (by omega), up_ne (by omega), up_ne (by omega), up_ne (by omega), up_ne (by omega), up_ne (by omega), up_ne (by omega)]
          exact s6 k hk
        · rw [up_self]; exact nI_pos (by omega)
      have u5 : (up gm t 7 (nI (y + 1))) (t + 5) 0 = gm (t + 5) 0 := by rw [up_ne (by omega)]
      have u6 : (up gm t 7 (nI (y + 1))) (t + 6) 0 = nI m := by rw [up_ne (by omega)]; exact hm1
      obtain ⟨gc', gm', J', e1, x1, x2, x3, x4, x5, x6, x7⟩ := step60 hO hA up_self (by omega) hm u6
      rw [u5] at x1
      refine ⟨gc', gm', J', e1, ?_, ?_, x3, x4, (y5.trans (fun a ha => ?_)).trans x5, fM.trans ⟨fun a a1 a2 a3 a4 a5 a6 => ?_, fun k k1 k2 => ?_⟩ x6, ?_⟩
      · rw [hcls, q4, if_pos e, y2, some_bind, bd_eq]
        unfold k4_cover
        rw [bd_eq, bd_eq, some_bind]
        exact x1
      · rw [hmdl, if_pos e, y3, some_bind, bd_eq]
        exact x2
      · rw [up_ne (by omega), up_ne (by omega), up_ne (by omega)]
      · rw [up_ne (by omega)]
      · rw [up_other (by omega)]
      · rw [x7, up_other (by omega), up_other (by omega), up_slot (by decide), y6]
    · obtain ⟨j, hj, hj2⟩ := nI_of q7
      obtain ⟨y, rfl⟩ : ∃ y, j = y + 1 := by
        refine ⟨j - 1, ?_⟩
        have : j ≠ 0 := fun z => e (by rw [hj2, z]; rfl)
        omega
      obtain ⟨gc', gm', J', e1, x1, x2, x3, x4, x5, x6, x7⟩ := step60 hO h hj2 hj hm hm1
      exact ⟨gc', gm', J', e1, by rw [hcls, q4, if_neg e]; exact x1, by rw [hmdl, if_neg e]; exact x2, x3, x4, x5, x6, x7⟩
