/-! what an order tells is done by both -/
theorem turn_n {o N m : Nat} {g : G} {v : Int32} (hN : g o 7 = nI N) (hN9 : N ≤ 10) (hm : m < N) : k4_turn o (nI m) v g = some (up (up g (o + 3) m v) o 13 0) := by
  unfold k4_turn
  rw [k4_has_n hN hN9 hm, some_bind, if_neg (by decide), sto_n (by omega) (by omega), bd_eq]
theorem do2 {w t N J m d k : Nat} {rw : Nat → Nat} {gc gm : G} {x : Int32} (hO : wOK w t) (h : RelW w t N J rw gc gm) (hm : m < N) (hd : d < 5) (hk : k < 17) (h57 : gm 57 k = nI d) : ∃ gc' gm' J', k7_carryOut_28 w (nI (doStep d)) (nI m) 1 x gc = some gc' ∧ k11_carryOut_148 t (nI k) (nI m) x gm = some gm' ∧ RelW w t N J' rw gc' gm' ∧ fC w gc gc' ∧ fM t gm gm' ∧ gc' w = gc w ∧ gc' (w + 9) 4 = gc (w + 9) 4 := by
  have hO' := hO.o
  unfold okO at hO'
  have ht : t ≠ 78 ∧ 78 < t := by rcases hO with ⟨-, rfl⟩ | ⟨-, rfl⟩ <;> omega
  have hN9 := h.N9
  have hN := h.1.1
  have jobs : (d = 0 ∨ d = 1 ∨ d = 2) → ∀ v1 : Int32, v1 = nI d → (k7_carryOut_28 w (nI (doStep d)) (nI m) 1 x gc = (k3_add (w + 9) v1 (nI m) gc).bind fun g => some g) → ∃ gc' gm' J', k7_carryOut_28 w (nI (doStep d)) (nI m) 1 x gc = some gc' ∧ k11_carryOut_148 t (nI k) (nI m) x gm = some gm' ∧ RelW w t N J' rw gc' gm' ∧ fC w gc gc' ∧ fM t gm gm' ∧ gc' w = gc w ∧ gc' (w + 9) 4 = gc (w + 9) 4 := by
    intro hdd v1 hv1 hc
    obtain ⟨gc', gm', u, J', a1, a2, a3, a4, a5, a6, a7⟩ := add2 (v1 := v1) hO (by rcases hdd with rfl | rfl | rfl <;> (rw [hv1]; decide)) h hm
    refine ⟨gc', gm', J', ?_, ?_, a3, a4, a5, a6, a7⟩
    · rw [hc, a1]; rfl
    · unfold k11_carryOut_148
      rw [ld_n (by omega) (by omega), h57, if_neg (by rcases hdd with rfl | rfl | rfl <;> decide), ld_n (by omega) (by omega), h57, if_neg (by rcases hdd with rfl | rfl | rfl <;> decide), ld_n (by omega) (by omega), h57, ← hv1, a2]
      rfl
  rcases (show d = 0 ∨ d = 1 ∨ d = 2 ∨ d = 3 ∨ d = 4 by omega) with rfl | rfl | rfl | rfl | rfl
  · refine jobs (by omega) 0 rfl ?_
    unfold k7_carryOut_28
    rw [if_neg (by decide), if_neg (by decide), if_neg (by decide), if_neg (by decide), if_pos (by decide)]
  · refine jobs (by omega) 1 rfl ?_
    unfold k7_carryOut_28
    rw [if_neg (by decide), if_neg (by decide), if_neg (by decide), if_neg (by decide), if_neg (by decide), if_pos (by decide)]
  · refine jobs (by omega) 2 rfl ?_
    unfold k7_carryOut_28 k7_carryOut_122
    rw [if_neg (by decide), if_neg (by decide), if_neg (by decide), if_neg (by decide), if_neg (by decide), if_neg (by decide)]
  · have e : gc (w + 1 + 3) m = gm (t + 3) m := (h.1.2.2.2.2.2.1 m hm).2
    generalize hv : holdV ((gm (t + 3) m).toInt64 + x.toInt64) (-90) 90 = v
    have hvr : -90 ≤ v ∧ v ≤ 90 := by rw [← hv]; exact holdV_rng (by decide)
    have hr : Rng t N (up gm (t + 3) m v) := by
      intro j hj
      obtain ⟨b1, b2, b3⟩ := h.2.2.2.1 j hj
      rw [up_other (by omega), up_other (by omega), up_app]
      refine ⟨b1, b2, ?_⟩
      by_cases q : j = m
      · rw [if_pos ⟨rfl, q⟩]; exact hvr
      · rw [if_neg (fun z => q z.2)]; exact b3
    refine ⟨_, _, J, ?_, ?_, h.write hO (i := 3) (m := m) (v := v) (by omega) hr, fun a ha => ?_, ⟨fun a a1 a2 a3 a4 a5 a6 => ?_, fun k k1 k2 => ?_⟩, ?_, ?_⟩
    · unfold k7_carryOut_28 k4_shake
      rw [if_neg (by decide), if_pos (by decide), k4_has_n hN hN9 hm, some_bind, if_neg (by decide), ld_n (by omega) (by omega), k8_hold_eq, some_bind, e, hv, turn_n hN hN9 hm, some_bind]
      rfl
    · unfold k11_carryOut_148
      rw [ld_n (by omega) (by omega), h57, if_pos (by decide), ld_n (by omega) (by omega), k11_held_eq, some_bind, hv, sto_n (by omega) (by omega)]
    · rw [up_ne (by omega), up_ne (by omega)]
    · rw [up_ne (by omega)]
    · rw [up_other (by omega)]
    · rw [up_ne (by omega), up_ne (by omega)]
    · rw [up_other (by omega), up_other (by omega)]
  · have e : gc (w + 1 + 1) m = gm (t + 1) m := (h.1.2.2.2.2.2.1 m hm).1
    have e2 : gc (w + 1 + 2) m = gm (t + 2) m := h.2.2.1 m hm
    obtain ⟨b1, b2, b3⟩ := h.2.2.2.1 m hm
    generalize hv : holdV ((gm (t + 1) m).toInt64 - x.toInt64) 0 (gm (t + 2) m) = v
    have hvr : 0 ≤ v ∧ v ≤ 100 := by
      rw [← hv]
      have := holdV_rng (x := (gm (t + 1) m).toInt64 - x.toInt64) b2.1
      exact ⟨this.1, Int32.le_trans this.2 b2.2⟩
    have hr : Rng t N (up gm (t + 1) m v) := by
      intro j hj
      obtain ⟨c1, c2, c3⟩ := h.2.2.2.1 j hj
      rw [up_app, up_other (by omega), up_other (by omega)]
      refine ⟨?_, c2, c3⟩
      by_cases q : j = m
      · rw [if_pos ⟨rfl, q⟩]; exact hvr
      · rw [if_neg (fun z => q z.2)]; exact c1
    refine ⟨_, _, J, ?_, ?_, h.write hO (i := 1) (m := m) (v := v) (by omega) hr, fun a ha => ?_, ⟨fun a a1 a2 a3 a4 a5 a6 => ?_, fun k k1 k2 => ?_⟩, ?_, ?_⟩
    · unfold k7_carryOut_28 k4_dust k4_dim
      rw [if_neg (by decide), if_neg (by decide), if_neg (by decide), if_pos (by decide), k4_has_n hN hN9 hm, some_bind, if_neg (by decide), ld_n (by omega) (by omega), some_bind, if_neg (by decide), ld_n (by omega) (by omega), k8_hold_eq, some_bind, e, e2, hv, sto_n (by omega) (by omega), bd_eq, some_bind]
      rfl
    · unfold k11_carryOut_148
      rw [ld_n (by omega) (by omega), h57, if_neg (by decide), ld_n (by omega) (by omega), h57, if_pos (by decide), ld_n (by omega) (by omega), ld_n (by omega) (by omega), k11_held_eq, some_bind, hv, sto_n (by omega) (by omega)]
    · rw [up_ne (by omega), up_ne (by omega)]
    · rw [up_ne (by omega)]
    · rw [up_other (by omega)]
    · rw [up_ne (by omega), up_ne (by omega)]
    · rw [up_other (by omega), up_other (by omega)]
theorem optI_n {j : Nat} : optI (some j) = nI j := rfl
theorem fo_ord {w d : Nat} {a2 : Int32} {g : G} (hd : d < 5) : k7_follow w (nI (doStep d)) a2 g = (k7_carryOut w (nI (doStep d)) a2 g).bind fun g18 => some g18 := by
  have o : k8_isOrder (nI (doStep d)) g = some 1 := by
    unfold k8_isOrder
    rcases (show d = 0 ∨ d = 1 ∨ d = 2 ∨ d = 3 ∨ d = 4 by omega) with rfl | rfl | rfl | rfl | rfl <;> (repeat (first | rw [if_pos (by decide)] | rw [if_neg (by decide)]))
  unfold k7_follow
  rw [o, some_bind, if_neg (show ¬ (1 : Int32) = 0 by decide)]
theorem by_sum {d : Nat} {g : G} (hd : d < 5) : k8_isOrderBySum (nI (doStep d)) g = some (if 3 ≤ d then 1 else 0) := by
  unfold k8_isOrderBySum
  rcases (show d = 0 ∨ d = 1 ∨ d = 2 ∨ d = 3 ∨ d = 4 by omega) with rfl | rfl | rfl | rfl | rfl <;> (repeat (first | rw [if_pos (by decide)] | rw [if_neg (by decide)]))
/-- the test T lies on top of the stack, the sum below it -/
theorem carry2 {w t N J m d k : Nat} {rw : Nat → Nat} {gc gm : G} {T : Int32} {su : Option Nat} (hO : wOK w t) (h : RelW w t N J rw gc gm) (hm : m < N) (hd : d < 5) (hk : k < 17) (h57 : gm 57 k = nI d) (h58 : gm 58 k = nI m) (h61 : gm 61 k = optI su) (hsu : su.isSome = true ↔ 3 ≤ d) (hsu8 : ∀ j, su = some j → j < 800) (h4 : gc w 4 = nI (su.toList.length + 1)) (hT : gc (w + 12) su.toList.length = T) (hv : sv (gc (w + 12)) (gm 78) su.toList) : ∃ gc' gm' J', k7_follow w (nI (doStep d)) (nI m) gc = some gc' ∧ (T ≠ 0 → k11_carryOut_106 t (nI k) gm = some gm') ∧ (T = 0 → gm' = gm) ∧ RelW w t N J' rw gc' gm' ∧ gc' w 4 = nI 0 ∧ fC w gc gc' ∧ fM t gm gm' ∧ gc' (w + 9) 4 = gc (w + 9) 4 := by
  have h1 := h.stk (gc' := up gc w 4 (nI su.toList.length)) (fun b b1 b2 => up_ne b1) (by rw [up_slot (by decide)])
  have f1 : fC w gc (up gc w 4 (nI su.toList.length)) := fun b hb => up_ne (by omega)
  have hlen : su.toList.length ≤ 1 := by cases su <;> simp
  have hpop : k7_pop w gc = some (T, up gc w 4 (nI su.toList.length)) := by
    rw [k7_pop_n (p := su.toList.length) h4 (by omega), hT]
  have fin : ∀ (x : Int32) (gc1 : G), RelW w t N J rw gc1 gm → gc1 w 4 = nI 0 → fC w gc gc1 → gc1 (w + 9) 4 = gc (w + 9) 4 → (∀ t0 : Int32, k7_carryOut_12 w (nI (doStep d)) (nI m) t0 (up gc w 4 (nI su.toList.length)) = k7_carryOut_28 w (nI (doStep d)) (nI m) t0 x gc1) → k11_carryOut_106 t (nI k) gm = k11_carryOut_148 t (nI k) (nI m) x gm → ∃ gc' gm' J', k7_follow w (nI (doStep d)) (nI m) gc = some gc' ∧ (T ≠ 0 → k11_carryOut_106 t (nI k) gm = some gm') ∧ (T = 0 → gm' = gm) ∧ RelW w t N J' rw gc' gm' ∧ gc' w 4 = nI 0 ∧ fC w gc gc' ∧ fM t gm gm' ∧ gc' (w + 9) 4 = gc (w + 9) 4 := by
    intro x gc1 x1 x2 x3 x4 x5 x6
    by_cases e : T = 0
    · refine ⟨gc1, gm, J, ?_, fun z => absurd e z, fun _ => rfl, x1, x2, x3, fM.refl, x4⟩
      rw [fo_ord hd]
      unfold k7_carryOut
      rw [hpop, some_bind]
      dsimp only
      rw [if_pos e, x5]
      unfold k7_carryOut_28
      rw [if_pos rfl]; rfl
    · obtain ⟨gc', gm', J', a1, a2, a3, a4, a5, a6, a7⟩ := do2 (x := x) hO x1 hm hd hk h57
      refine ⟨gc', gm', J', ?_, fun _ => by rw [x6, a2], fun z => absurd z e, a3, by rw [a6]; exact x2, x3.trans a4, a5, a7.trans x4⟩
      rw [fo_ord hd]
      unfold k7_carryOut
      rw [hpop, some_bind]
      dsimp only
      rw [if_neg e, x5, a1]; rfl
  cases su with
  | none =>
    have hd3 : ¬ 3 ≤ d := fun z => by have := hsu.mpr z; cases this
    refine fin 0 (up gc w 4 (nI (none : Option Nat).toList.length)) h1 up_self f1 (by rw [up_other (by omega)]) (fun t0 => ?_) ?_
    · unfold k7_carryOut_12
      rw [by_sum hd, if_neg hd3, some_bind, if_pos rfl]
    · unfold k11_carryOut_106
      rw [ld_n (by omega) (by omega), h58, ld_n (by omega) (by omega), h61, if_pos (show optI none = -1 from rfl)]
  | some j =>
    have hd3 : 3 ≤ d := hsu.mp rfl
    have hj := hsu8 j rfl
    obtain ⟨gc1, q1, q2, q3, q4, q5, -⟩ := pop_1 (a := j) (st := []) h1 up_self (by simp) (by rw [up_ne (by omega)]; exact hv)
    have e9 : gc1 (w + 9) 4 = gc (w + 9) 4 := by
      have : gc1 = up (up gc w 4 (nI (some j).toList.length)) w 4 (nI 0) := by
        have := (k7_pop_n (w := w) (p := 0) (g := up gc w 4 (nI (some j).toList.length)) up_self (by omega)).symm.trans q1
        injection this with this
        exact (Prod.mk.inj this).2.symm
      rw [this, up_other (by omega), up_other (by omega)]
    refine fin (gm 78 j) gc1 q2 q3 (f1.trans q5) e9 (fun t0 => ?_) ?_
    · unfold k7_carryOut_12
      rw [by_sum hd, if_pos hd3, some_bind, if_neg (show ¬ (1 : Int32) = 0 by decide), q1, some_bind]
    · unfold k11_carryOut_106
      rw [ld_n (by omega) (by omega), h58, ld_n (by omega) (by omega), h61, optI_n, if_neg (nI_nm1 (by omega)), ld_n (by omega) (by omega), h61, optI_n, ld_n (by omega) (by omega)]
/-- the end of an order -/
def ordEnd (t : Nat) (k : Nat) (g : G) : Option G := ld g 62 17 (nI k) fun x21 => if x21 = (-1) then k11_carryOut_106 t (nI k) g else ld g 62 17 (nI k) fun x23 => ld g 78 800 x23 fun x24 => if x24 = 0 then some g else k11_carryOut_106 t (nI k) g
theorem order_end {w t N J m d k : Nat} {rw : Nat → Nat} {gc gm : G} {te su : Option Nat} (hO : wOK w t) (h : RelW w t N J rw gc gm) (hm : m < N) (hd : d < 5) (hk : k < 17) (h57 : gm 57 k = nI d) (h58 : gm 58 k = nI m) (h62 : gm 62 k = optI te) (h61 : gm 61 k = optI su) (hsu : su.isSome = true ↔ 3 ≤ d) (ht8 : ∀ j, te = some j → j < 800) (hsu8 : ∀ j, su = some j → j < 800) (h4 : gc w 4 = nI (te.toList ++ su.toList).length) (hv : sv (gc (w + 12)) (gm 78) (te.toList ++ su.toList)) : ∃ gc' gm' J', (te ≠ none → k7_follow w (nI (doStep d)) (nI m) gc = some gc') ∧ (te = none → ∀ a2, ∃ gc1, k7_follow w 7 a2 gc = some gc1 ∧ fC w gc gc1 ∧ k7_follow w (nI (doStep d)) (nI m) gc1 = some gc') ∧ ordEnd t k gm = some gm' ∧ RelW w t N J' rw gc' gm' ∧ gc' w 4 = nI 0 ∧ fC w gc gc' ∧ fM t gm gm' ∧ gc' (w + 9) 4 = gc (w + 9) 4 := by
  have hlen : su.toList.length ≤ 1 := by cases su <;> simp
  cases te with
  | none =>
    have h4' : gc w 4 = nI su.toList.length := h4
    have hv' : sv (gc (w + 12)) (gm 78) su.toList := hv
    have h1 := h.stk (gc' := up (up gc (w + 12) su.toList.length 1) w 4 (nI (su.toList.length + 1))) (fun b b1 b2 => by rw [up_ne b1, up_ne b2]) (by rw [up_slot (by decide), up_other (by omega)])
    have f1 : fC w gc (up (up gc (w + 12) su.toList.length 1) w 4 (nI (su.toList.length + 1))) := fun b hb => by rw [up_ne (by omega), up_ne (by omega)]
    obtain ⟨gc', gm', J', a1, a2, a3, a4, a5, a6, a7, a8⟩ := carry2 (T := 1) hO h1 hm hd hk h57 h58 h61 hsu hsu8 up_self (by rw [up_other (by omega), up_self]) (sv_same _ hv' (fun i hi => by rw [up_other (by omega), up_slot (by omega)]) (fun _ _ => rfl))
    refine ⟨gc', gm', J', fun z => absurd rfl z, fun _ b => ⟨_, ?_, f1, a1⟩, ?_, a4, a5, f1.trans a6, a7, ?_⟩
    · have o : k8_isOrder 7 gc = some 0 := by
        unfold k8_isOrder
        iterate 5 rw [if_neg (by decide)]
      have i : k7_joinsTwo 7 gc = some 0 := by
        unfold k7_joinsTwo
        iterate 13 rw [if_neg (by decide)]
      unfold k7_follow
      rw [o, some_bind, if_pos rfl, if_neg (by decide), if_neg (by decide), i, some_bind, if_pos rfl]
      unfold k7_valueOf
      rw [if_neg (by decide), if_pos rfl, some_bind]
      dsimp only
      rw [k7_push_n h4' (by omega), some_bind]
    · unfold ordEnd
      rw [ld_n (by omega) (by omega), h62, if_pos (show optI none = -1 from rfl), a2 (by decide)]
    · rw [a8, up_other (by omega), up_other (by omega)]
  | some i =>
    have hi := ht8 i rfl
    have h4' : gc w 4 = nI (su.toList.length + 1) := h4
    obtain ⟨hv1, hv2⟩ : gc (w + 12) su.toList.length = gm 78 i ∧ sv (gc (w + 12)) (gm 78) su.toList := hv
    obtain ⟨gc', gm', J', a1, a2, a3, a4, a5, a6, a7, a8⟩ := carry2 (T := gm 78 i) hO h hm hd hk h57 h58 h61 hsu hsu8 h4' hv1 hv2
    refine ⟨gc', gm', J', fun _ => a1, fun z => absurd z (by simp), ?_, a4, a5, a6, a7, a8⟩
    unfold ordEnd
    rw [ld_n (by omega) (by omega), h62, optI_n, if_neg (nI_nm1 (by omega)), ld_n (by omega) (by omega), h62, optI_n, ld_n (by omega) (by omega)]
    by_cases e : gm 78 i = 0
    · rw [if_pos e, a3 e]
    · rw [if_neg e, a2 e]
