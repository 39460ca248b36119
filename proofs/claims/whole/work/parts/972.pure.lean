/-! a minute -/
theorem orders_loop {w t N K : Nat} {F B : Nat → Nat} {rw : Nat → Nat} {g0 : G} (hO : wOK w t) (hB : g0 16 8 = nI (B K)) (hB4 : B K ≤ 400) (hF8 : F K ≤ 800) (hK : K ≤ 16) (h54 : g0 54 5 = nI K) (ho : ∀ k, k < K → ordOK N g0 k (F k) (F (k + 1)) (B k) (B (k + 1))) : ∀ (e k J : Nat) (gc gm : G), K = k + e → RelW w t N J rw gc gm → planC g0 gc → planM g0 gm → gc w 4 = nI 0 → ∃ gc' gm' J', (∀ Fu v1 v2 KK, k7_pass_14 w KK (Fu + (B K - B k)) v1 v2 (nI (B k)) gc = k7_pass_14 w KK Fu v1 v2 (nI (B K)) gc') ∧ (∀ Fu, k11_pass_2 t (Fu + e) (nI k) gm = k11_pass_2 t Fu (nI K) gm') ∧ RelW w t N J' rw gc' gm' ∧ fC w gc gc' ∧ fM t gm gm' ∧ gc' (w + 9) 4 = gc (w + 9) 4 := by
  have hBm : ∀ k, k < K → B k ≤ B (k + 1) := by
    intro k hk
    obtain ⟨a1, a2, a3, a4, d, m, te, su, b1, b2, b3, b4, b5, b6, b7, b8, b9, b10, b11, b12⟩ := ho k hk
    rw [b9]
    omega
  have hFm : ∀ k, k < K → F k ≤ F (k + 1) := fun k hk => (ho k hk).1
  intro e
  induction e with
  | zero =>
    intro k J gc gm hk h pc pm h4
    obtain rfl : K = k := by omega
    exact ⟨gc, gm, J, fun Fu v1 v2 KK => by rw [Nat.sub_self]; rfl, fun _ => rfl, h, fC.refl, fM.refl, rfl⟩
  | succ e ih =>
    intro k J gc gm hk h pc pm h4
    have hkK : k < K := by omega
    have m1 := mono_le hBm (K - (k + 1)) (k + 1) (by omega)
    have m2 := mono_le hFm (K - (k + 1)) (k + 1) (by omega)
    rw [show k + 1 + (K - (k + 1)) = K by omega] at m1 m2
    obtain ⟨gc1, gm1, J1, o1, o2, o3, o4, o5, o6, o7, o8⟩ := one_order (BK := B K) (FK := F K) hO hB hB4 m1 (by omega) (by omega) (ho k hkK) h pc pm h4
    obtain ⟨gc', gm', J', i1, i2, i3, i4, i5, i6⟩ := ih (k + 1) J1 gc1 gm1 (by omega) o3 (pc.f hO o5) (pm.f hO o6) o4
    refine ⟨gc', gm', J', fun Fu v1 v2 KK => ?_, fun Fu => ?_, i3, o5.trans i4, o6.trans i5, i6.trans o7⟩
    · rw [← i1, ← o1]
      congr 1
      omega
    · rw [← i2]
      show k11_pass_2 t (Fu + e + 1) (nI k) gm = _
      conv => lhs; unfold k11_pass_2
      rw [pm 54 (by omega) (by omega), h54, if_neg (by rw [nI_leI (by omega) (by omega)]; omega), o2, some_bind, bd_eq, nI_1]
/-- the queue and what is covered are others -/
theorem RelW.que {w t N J J' : Nat} {rw : Nat → Nat} {gc gm gc' gm' : G} (h : RelW w t N J rw gc gm) (c : ∀ i, 1 ≤ i → i ≤ 7 → gc' (w + 1 + i) = gc (w + 1 + i)) (k : ∀ k, k ≠ 10 → k ≠ 13 → gc' (w + 1) k = gc (w + 1) k) (h13 : gc' (w + 1) 13 = 0 ∨ gc' (w + 1) = gc (w + 1)) (k5 : gc' w 5 = gc w 5) (m54 : gm' 54 = gm 54) (m : ∀ i, 1 ≤ i → i ≤ 4 → gm' (t + i) = gm (t + i)) (m8 : gm' t 8 = gm t 8) (hc : gc' (w + 1) 10 = covOf t gm') (hQ : RelQ2 (w + 9) t N J' gc' gm') : RelW w t N J' rw gc' gm' := by
  obtain ⟨⟨r1, r2, r3, r4, r5, r6, r7, r8⟩, h2, h3, h4, h5, h6⟩ := h
  refine ⟨⟨by rw [k 7 (by decide) (by decide)]; exact r1, by rw [m54]; exact r2, by rw [k 8 (by decide) (by decide), m54]; exact r3, isRow_same (c 4 (by omega) (by omega)) r4, isRow_same (m 4 (by omega) (by omega)) r5, fun j hj => ?_, ?_, hc⟩, by rw [k 9 (by decide) (by decide), m54]; exact h2, fun j hj => ?_, h4.frame (m 1 (by omega) (by omega)) (m 2 (by omega) (by omega)) (m 3 (by omega) (by omega)), hQ, by rw [k5, m8]; exact h6⟩
  · rw [c 1 (by omega) (by omega), c 3 (by omega) (by omega), m 1 (by omega) (by omega), m 3 (by omega) (by omega)]
    exact r6 j hj
  · rcases h13 with q | q
    · exact Or.inl q
    · exact litOK_same (fun i hi => by
        by_cases e : i = 0
        · subst e; exact q
        · exact c i (by omega) hi) r7
  · rw [c 2 (by omega) (by omega), m 2 (by omega) (by omega)]
    exact h3 j hj
/-- the numbers of mirrors are others -/
theorem RelW.fin {w t N J : Nat} {rw : Nat → Nat} {gc gm gc' gm' : G} (hO : wOK w t) (h : RelW w t N J rw gc gm) (c : ∀ a, a ≠ w + 1 → a ≠ w + 1 + 1 → a ≠ w + 1 + 2 → a ≠ w + 1 + 3 → gc' a = gc a) (k : ∀ k, k ≠ 13 → gc' (w + 1) k = gc (w + 1) k) (k13 : gc' (w + 1) 13 = 0) (m : ∀ a, a ≠ t + 1 → a ≠ t + 2 → a ≠ t + 3 → gm' a = gm a) (e : ∀ i j, 1 ≤ i → i ≤ 3 → j < N → gc' (w + 1 + i) j = gm' (t + i) j) (hr : Rng t N gm') : RelW w t N J rw gc' gm' := by
  have hO' := hO.o
  unfold okO at hO'
  obtain ⟨⟨r1, r2, r3, r4, r5, r6, r7, r8⟩, h2, h3, h4, h5, h6⟩ := h
  have m54 : gm' 54 = gm 54 := m 54 (by omega) (by omega) (by omega)
  have mt : gm' t = gm t := m t (by omega) (by omega) (by omega)
  exact ⟨⟨by rw [k 7 (by decide)]; exact r1, by rw [m54]; exact r2, by rw [k 8 (by decide), m54]; exact r3, isRow_same (c _ (by omega) (by omega) (by omega) (by omega)) r4, isRow_same (m _ (by omega) (by omega) (by omega)) r5, fun j hj => ⟨e 1 j (by omega) (by omega) hj, e 3 j (by omega) (by omega) hj⟩, Or.inl k13, by rw [k 10 (by decide), covOf_same mt (m _ (by omega) (by omega) (by omega))]; exact r8⟩, by rw [k 9 (by decide), m54]; exact h2, fun j hj => e 2 j (by omega) (by omega) hj, hr, h5.fr (fun i hi => c _ (by omega) (by omega) (by omega) (by omega)) mt (m _ (by omega) (by omega) (by omega)) (m _ (by omega) (by omega) (by omega)), by rw [c w (by omega) (by omega) (by omega) (by omega), mt]; exact h6⟩
/-- a job that is done -/
theorem finish2 {w t N J m : Nat} {rw : Nat → Nat} {gc gm : G} {kd : Int32} (hO : wOK w t) (h : RelW w t N J rw gc gm) (hm : m < N) (hk : kd = 0 ∨ kd = 1 ∨ kd = 2) : ∃ gc' gm', k7_finish w kd (nI m) gc = some gc' ∧ (if kd = 0 then (k9_clean t (nI m) gm).bind fun g12 => ld g12 (t + 2) 10 (nI m) fun x13 => bd (if 0 < (x13 - 1) then (x13 - 1) else 0) fun x14 => sto g12 (t + 2) 10 (nI m) x14 fun g15 => some ((1 : Int32), g15) else sto gm (t + 3) 10 (nI m) 0 fun g8 => if kd = 2 then sto g8 (t + 1) 10 (nI m) 100 fun g10 => sto g10 (t + 2) 10 (nI m) 100 fun g11 => some (1, g11) else some (1, g8)) = some (1, gm') ∧ RelW w t N J rw gc' gm' ∧ fC w gc gc' ∧ fM t gm gm' ∧ gc' (w + 9) 4 = gc (w + 9) 4 := by
  have hO' := hO.o
  unfold okO at hO'
  have hN9 := h.N9
  have hN := h.1.1
  have i1 : ∀ j, j < N → gc (w + 1 + 1) j = gm (t + 1) j := fun j hj => (h.1.2.2.2.2.2.1 j hj).1
  have i2 : ∀ j, j < N → gc (w + 1 + 2) j = gm (t + 2) j := h.2.2.1
  have i3 : ∀ j, j < N → gc (w + 1 + 3) j = gm (t + 3) j := fun j hj => (h.1.2.2.2.2.2.1 j hj).2
  rcases hk with rfl | rfl | rfl
  · obtain ⟨b1, b2, b3⟩ := h.2.2.2.1 m hm
    generalize hx : (if gm (t + 1) m < gm (t + 2) m then gm (t + 2) m else gm (t + 1) m) = x
    generalize hy : (if 0 < (gm (t + 2) m - 1) then (gm (t + 2) m - 1) else 0) = y
    have hxr : 0 ≤ x ∧ x ≤ 100 := by
      rw [← hx]; split
      · exact b2
      · exact b1
    have hyr : 0 ≤ y ∧ y ≤ 100 := by
      rw [← hy]
      obtain ⟨c, c1, c2⟩ := rng_n b2
      rw [c2]
      by_cases e : c = 0
      · subst e; decide
      · obtain ⟨c, rfl⟩ : ∃ z, c = z + 1 := ⟨c - 1, by omega⟩
        rw [nI_pred]
        split
        · exact ⟨nI_pos' (by omega), (le_lit (M := 100) (k := 100) rfl (by omega) (by omega)).mpr (by omega)⟩
        · decide
    refine ⟨up (up (up gc (w + 1 + 1) m x) (w + 1 + 2) m y) (w + 1) 13 0, up (up gm (t + 1) m x) (t + 2) m y, ?_, ?_, h.fin hO (fun a a1 a2 a3 a4 => ?_) (fun k hk => ?_) up_self (fun a a1 a2 a3 => ?_) (fun i j j1 j2 hj => ?_) (fun j hj => ?_), fun a ha => ?_, ⟨fun a a1 a2 a3 a4 a5 a6 => ?_, fun k k1 k2 => ?_⟩, ?_⟩
    · unfold k7_finish k4_clean
      rw [if_pos rfl, k4_has_n hN hN9 hm, some_bind, if_neg (by decide), ld_n (by omega) (by omega), ld_n (by omega) (by omega), bd_eq, i1 m hm, i2 m hm, hx, sto_n (by omega) (by omega), ld_n (by omega) (by omega), bd_eq, up_other (by omega), i2 m hm, hy, sto_n (by omega) (by omega)]
      rfl
    · unfold k9_clean
      rw [if_pos rfl, ld_n (by omega) (by omega), ld_n (by omega) (by omega), bd_eq, hx, sto_n (by omega) (by omega), some_bind, ld_n (by omega) (by omega), bd_eq, up_other (by omega), hy, sto_n (by omega) (by omega)]
    · rw [up_ne a1, up_ne a3, up_ne a2]
    · rw [up_slot hk, up_other (by omega), up_other (by omega)]
    · rw [up_ne a2, up_ne a1]
    · rw [up_other (by omega), up_app, up_app, up_app, up_app]
      rcases (show i = 1 ∨ i = 2 ∨ i = 3 by omega) with rfl | rfl | rfl
      · rw [if_neg (by omega)]
        by_cases e : j = m
        · rw [if_pos ⟨rfl, e⟩, if_neg (by omega), if_pos ⟨rfl, e⟩]
        · rw [if_neg (fun z => e z.2), if_neg (by omega), if_neg (fun z => e z.2)]; exact i1 j hj
      · by_cases e : j = m
        · rw [if_pos ⟨rfl, e⟩, if_pos ⟨rfl, e⟩]
        · rw [if_neg (fun z => e z.2), if_neg (by omega), if_neg (fun z => e z.2), if_neg (by omega)]; exact i2 j hj
      · rw [if_neg (by omega), if_neg (by omega), if_neg (by omega), if_neg (by omega)]; exact i3 j hj
    · obtain ⟨c1, c2, c3⟩ := h.2.2.2.1 j hj
      refine ⟨?_, ?_, ?_⟩
      · rw [up_other (by omega), up_app]
        by_cases e : j = m
        · rw [if_pos ⟨rfl, e⟩]; exact hxr
        · rw [if_neg (fun z => e z.2)]; exact c1
      · rw [up_app]
        by_cases e : j = m
        · rw [if_pos ⟨rfl, e⟩]; exact hyr
        · rw [if_neg (fun z => e z.2), up_other (by omega)]; exact c2
      · rw [up_other (by omega), up_other (by omega)]; exact c3
    · rw [up_ne (by omega), up_ne (by omega), up_ne (by omega)]
    · rw [up_ne (by omega), up_ne (by omega)]
    · rw [up_other (by omega), up_other (by omega)]
    · rw [up_other (by omega), up_other (by omega), up_other (by omega)]
  · have hr : Rng t N (up gm (t + 3) m 0) := by
      intro j hj
      obtain ⟨c1, c2, c3⟩ := h.2.2.2.1 j hj
      rw [up_other (by omega), up_other (by omega), up_app]
      refine ⟨c1, c2, ?_⟩
      by_cases e : j = m
      · rw [if_pos ⟨rfl, e⟩]; decide
      · rw [if_neg (fun z => e z.2)]; exact c3
    refine ⟨up (up gc (w + 1 + 3) m 0) (w + 1) 13 0, up gm (t + 3) m 0, ?_, ?_, h.write hO (i := 3) (m := m) (v := 0) (by omega) hr, fun a ha => ?_, ⟨fun a a1 a2 a3 a4 a5 a6 => ?_, fun k k1 k2 => ?_⟩, ?_⟩
    · unfold k7_finish
      rw [if_neg (by decide), if_pos rfl, turn_n hN hN9 hm]; rfl
    · rw [if_neg (by decide), sto_n (by omega) (by omega), if_neg (by decide)]
    · rw [up_ne (by omega), up_ne (by omega)]
    · rw [up_ne (by omega)]
    · rw [up_other (by omega)]
    · rw [up_other (by omega), up_other (by omega)]
  · refine ⟨up (up (up (up gc (w + 1 + 1) m 100) (w + 1 + 2) m 100) (w + 1 + 3) m 0) (w + 1) 13 0, up (up (up gm (t + 3) m 0) (t + 1) m 100) (t + 2) m 100, ?_, ?_, h.fin hO (fun a a1 a2 a3 a4 => ?_) (fun k hk => ?_) up_self (fun a a1 a2 a3 => ?_) (fun i j j1 j2 hj => ?_) (fun j hj => ?_), fun a ha => ?_, ⟨fun a a1 a2 a3 a4 a5 a6 => ?_, fun k k1 k2 => ?_⟩, ?_⟩
    · unfold k7_finish k4_replace
      rw [if_neg (by decide), if_neg (by decide), k4_has_n hN hN9 hm, some_bind, if_neg (by decide), sto_n (by omega) (by omega), sto_n (by omega) (by omega), turn_n (by rw [up_other (by omega), up_other (by omega)]; exact hN) hN9 hm]
      rfl
    · rw [if_neg (by decide), sto_n (by omega) (by omega), if_pos rfl, sto_n (by omega) (by omega), sto_n (by omega) (by omega)]
    · rw [up_ne a1, up_ne a4, up_ne a3, up_ne a2]
    · rw [up_slot hk, up_other (by omega), up_other (by omega), up_other (by omega)]
    · rw [up_ne a2, up_ne a1, up_ne a3]
    · rw [up_other (by omega), up_app, up_app, up_app, up_app, up_app, up_app]
      rcases (show i = 1 ∨ i = 2 ∨ i = 3 by omega) with rfl | rfl | rfl
      · rw [if_neg (by omega), if_neg (by omega)]
        by_cases e : j = m
        · rw [if_pos ⟨rfl, e⟩, if_neg (by omega), if_pos ⟨rfl, e⟩]
        · rw [if_neg (fun z => e z.2), if_neg (by omega), if_neg (fun z => e z.2), if_neg (by omega)]; exact i1 j hj
      · by_cases e : j = m
        · rw [if_neg (by omega), if_pos ⟨rfl, e⟩, if_pos ⟨rfl, e⟩]
        · rw [if_neg (by omega), if_neg (fun z => e z.2), if_neg (by omega), if_neg (fun z => e z.2), if_neg (by omega), if_neg (by omega)]; exact i2 j hj
      · by_cases e : j = m
        · rw [if_pos ⟨rfl, e⟩, if_neg (by omega), if_neg (by omega), if_pos ⟨rfl, e⟩]
        · rw [if_neg (fun z => e z.2), if_neg (by omega), if_neg (by omega), if_neg (by omega), if_neg (by omega), if_neg (fun z => e z.2)]; exact i3 j hj
    · obtain ⟨c1, c2, c3⟩ := h.2.2.2.1 j hj
      refine ⟨?_, ?_, ?_⟩
      · rw [up_other (by omega), up_app]
        by_cases e : j = m
        · rw [if_pos ⟨rfl, e⟩]; decide
        · rw [if_neg (fun z => e z.2), up_other (by omega)]; exact c1
      · rw [up_app]
        by_cases e : j = m
        · rw [if_pos ⟨rfl, e⟩]; decide
        · rw [if_neg (fun z => e z.2), up_other (by omega), up_other (by omega)]; exact c2
      · rw [up_other (by omega), up_other (by omega), up_app]
        by_cases e : j = m
        · rw [if_pos ⟨rfl, e⟩]; decide
        · rw [if_neg (fun z => e z.2)]; exact c3
    · rw [up_ne (by omega), up_ne (by omega), up_ne (by omega), up_ne (by omega)]
    · rw [up_ne (by omega), up_ne (by omega), up_ne (by omega)]
    · rw [up_other (by omega), up_other (by omega), up_other (by omega)]
    · rw [up_other (by omega), up_other (by omega), up_other (by omega), up_other (by omega)]
