/-! the mirror that had best be cleaned -/
theorem litOK_same {o N : Nat} {rw : Nat → Nat} {g g' : G} (hf : ∀ i, i ≤ 7 → g' (o + i) = g (o + i)) (h : litOK o g rw N) : litOK o g' rw N := by
  have h0 : g' o = g o := hf 0 (by omega)
  unfold litOK at h ⊢
  rw [h0, hf 1 (by omega), hf 3 (by omega)]
  rcases h with h | ⟨h, ha, hb, hc⟩
  · exact Or.inl h
  · exact Or.inr ⟨h, litTo_same (hf 5 (by omega)) (hf 6 (by omega)) (hf 7 (by omega)) ha, hb, hc⟩
theorem RelL.look {N : Nat} {rw : Nat → Nat} {gc gm gc' gm' : G} (h : RelL 22 79 N rw gc gm) (hc : frC gc gc') (hm : frM gm gm') : RelL 22 79 N rw gc' gm' := by
  have m : ∀ a, a = 54 ∨ (79 ≤ a ∧ a ≤ 85) → gm' a = gm a := fun a ha => hm.1 a (by omega) (by omega) (by omega)
  exact h.fr (hc _ (by decide)) (hc _ (by decide)) (hc _ (by decide)) (by rw [hc 22 (by decide)]) (by rw [hc 22 (by decide)]) (by rw [hc 22 (by decide)]) (litOK_same (fun i hi => hc _ (by omega)) h.2.2.2.2.2.2.1) (m 54 (by omega)) (m 80 (by omega)) (m 82 (by omega)) (m 83 (by omega)) (covOf_same (m 79 (by omega)) (m 85 (by omega)))
theorem InvC.frC {n N J : Nat} {rw : Nat → Nat} {g g' : G} (h : InvC n N J rw g) (hf : frC g g') : InvC n N J rw g' := h.frame (fun a ha => hf a (by unfold cI at ha; omega)) (by rw [hf 47 (by decide)]) (by rw [hf 47 (by decide)])
theorem InvC.frM {n N J : Nat} {rw : Nat → Nat} {g g' : G} (h : InvC n N J rw g) (hf : frM g g') : InvC n N J rw g' := h.frame (fun a ha => hf.1 a (by unfold cI at ha; omega) (by unfold cI at ha; omega) (by unfold cI at ha; omega)) (hf.2 2 (by decide) (by decide)) (hf.2 3 (by decide) (by decide))
theorem clean2 {N j : Nat} {rw : Nat → Nat} {gc gm : G} (h : RelL 35 86 N rw gc gm) (hj : j < N) (hb : gc 37 j = gm 88 j) : ∃ gc' gm', k4_clean 35 (nI j) gc = some gc' ∧ k9_clean 86 (nI j) gm = some gm' ∧ RelL 35 86 N rw gc' gm' ∧ frC gc gc' ∧ frM gm gm' := by
  obtain ⟨h1, h2, h3, h4, h5, h6, h7, h8⟩ := id h
  have hN9 := h4.1
  have e : (if gc 36 j < gc 37 j then gc 37 j else gc 36 j) = (if gm 87 j < gm 88 j then gm 88 j else gm 87 j) := by
    rw [show gc 36 j = gm 87 j from (h6 j hj).1, hb]
  generalize hx : (if gm 87 j < gm 88 j then gm 88 j else gm 87 j) = x at e
  generalize hy : (if 0 < (up gc 36 j x 37 j - 1) then (up gc 36 j x 37 j - 1) else 0) = y
  refine ⟨up (up (up gc 36 j x) 37 j y) 35 13 0, up gm 87 j x, ?_, ?_, ⟨?_, ?_, ?_, ?_, ?_, fun m hm => ?_, Or.inl up_self, ?_⟩, fun a ha => ?_, fun a a1 a2 a3 => ?_, fun k _ _ => ?_⟩
  · unfold k4_clean
    rw [k4_has_n h1 hN9 hj, some_bind, if_neg (by decide), ld_n (by omega) (by omega), ld_n (by omega) (by omega), bd_eq]
    rw [show (if gc (35 + 1) j < gc (35 + 2) j then gc (35 + 2) j else gc (35 + 1) j) = x from e, sto_n (by omega) (by omega), ld_n (by omega) (by omega), bd_eq]
    rw [show (if 0 < (up gc (35 + 1) j x (35 + 2) j - 1) then (up gc (35 + 1) j x (35 + 2) j - 1) else 0) = y from hy, sto_n (by omega) (by omega)]
    rfl
  · unfold k9_clean
    rw [ld_n (by omega) (by omega), ld_n (by omega) (by omega), bd_eq]
    rw [show (if gm (86 + 1) j < gm (86 + 2) j then gm (86 + 2) j else gm (86 + 1) j) = x from hx, sto_n (by omega) (by omega)]
  · rw [up_slot (by decide), up_other (by decide), up_other (by decide)]; exact h1
  · rw [up_other (by decide)]; exact h2
  · rw [up_slot (by decide), up_other (by decide), up_other (by decide), up_other (by decide)]; exact h3
  · exact isRow_same (by rw [up_ne (by decide), up_ne (by decide), up_ne (by decide)]) h4
  · exact isRow_same (by rw [up_ne (by decide)]) h5
  · obtain ⟨i1, i2⟩ := h6 m hm
    refine ⟨?_, ?_⟩
    · rw [up_other (by decide), up_other (by decide), up_app, up_app]
      by_cases q : m = j
      · rw [if_pos ⟨rfl, q⟩, if_pos ⟨rfl, q⟩]
      · rw [if_neg (fun z => q z.2), if_neg (fun z => q z.2)]; exact i1
    · rw [up_other (by decide), up_other (by decide), up_other (by decide), up_other (by decide)]; exact i2
  · rw [up_slot (by decide), up_other (by decide), up_other (by decide), covOf_same (up_ne (by decide)) (up_ne (by decide))]; exact h8
  · rw [up_ne (by omega), up_ne (by omega), up_ne (by omega)]
  · rw [up_ne (by omega)]
  · rw [up_ne (by decide)]
theorem btc_loop {N J : Nat} {rw : Nat → Nat} {gc0 gm0 : G} (h : RelL 22 79 N rw gc0 gm0) (hb : ∀ m, m < N → gc0 24 m = gm0 81 m) (hJ0 : J ≤ 12) (hJ : gm0 79 6 = nI J) (hq : J = 0 → gm0 79 7 = 0) : ∀ (d p f : Nat) (v1 v2 : Int32) (gc gm : G), N = p + d → d < f → frC gc0 gc → frM gm0 gm → ∃ v gc' gm', k8_bestToClean_15 f v1 v2 (nI p) gc = some (v, gc') ∧ k11_bestToClean_18 f v1 v2 (nI p) gm = some (v, gm') ∧ frC gc0 gc' ∧ frM gm0 gm' := by
  have hN9 := h.2.2.2.1.1
  intro d
  induction d with
  | zero =>
    intro p f v1 v2 gc gm hd hf hc hm
    obtain ⟨f, rfl⟩ : ∃ z, f = z + 1 := ⟨f - 1, by omega⟩
    obtain rfl : N = p := by omega
    have h' := h.look hc hm
    refine ⟨v1, gc, gm, ?_, ?_, hc, hm⟩
    · unfold k8_bestToClean_15
      rw [h'.1, if_pos (by rw [nI_leI (by omega) (by omega)]; omega)]
    · unfold k11_bestToClean_18
      rw [h'.2.1, if_pos (by rw [nI_leI (by omega) (by omega)]; omega)]
  | succ d ih =>
    intro p f v1 v2 gc gm hd hf hc hm
    obtain ⟨f, rfl⟩ : ∃ z, f = z + 1 := ⟨f - 1, by omega⟩
    have hp : p < N := by omega
    have h' := h.look hc hm
    have e79 : gm 79 = gm0 79 := hm.1 79 (by decide) (by decide) (by decide)
    obtain ⟨gc1, gm1, c1, m1, h1, fc1, fm1, b1⟩ := copyL h' hJ0 (by rw [e79]; exact hJ) (fun z => by rw [e79]; exact hq z)
    obtain ⟨gc2, gm2, c2, m2, h2, fc2, fm2⟩ := clean2 h1 hp (by
      rw [(b1 p (by omega)).1, (b1 p (by omega)).2, hc 24 (by decide), hm.1 81 (by decide) (by decide) (by decide)]
      exact hb p hp)
    obtain ⟨gc3, gm3, c3, m3, l3, ml3, h3, e3, -, -⟩ := light2 hO1 h2
    have fc : frC gc0 gc3 := ((hc.trans fc1).trans fc2).trans (l3.fr (by omega))
    have fm : frM gm0 gm3 := ((hm.trans fm1).trans fm2).trans ml3.fr
    have ec : ∀ K : Int32 → G → Option (Int32 × G), ((k4_lastLight 35 gc2).bind fun u4 => K u4.1 u4.2) = K (gc3 35 11) gc3 := fun K => by
      unfold k4_lastLight
      rw [c3]; rfl
    have em : ∀ K : Int32 → G → Option (Int32 × G), ((k11_light 86 gm2).bind fun u4 => K u4.1 u4.2) = K (gc3 35 11) gm3 := fun K => by
      unfold k11_light
      rw [m3, some_bind, some_bind, e3]
    by_cases hl : gc3 35 11 ≤ v2
    · obtain ⟨v, gc', gm', r1, r2, r3, r4⟩ := ih (p + 1) f v1 v2 gc3 gm3 (by omega) (by omega) fc fm
      refine ⟨v, gc', gm', ?_, ?_, r3, r4⟩
      · unfold k8_bestToClean_15
        rw [h'.1, if_neg (by rw [nI_leI (by omega) (by omega)]; omega), c1, some_bind, c2, some_bind]
        rw [show ((k4_lastLight 35 gc2).bind _ = _) = (_ = _) from congrArg (· = _) (ec (fun x g => bd x fun x5 => if x5 ≤ v2 then bd (nI p + 1) fun x7 => k8_bestToClean_15 f v1 v2 x7 g else bd (nI p + 1) fun x8 => k8_bestToClean_15 f (nI p) x5 x8 g))]
        rw [bd_eq]
        rw [if_pos hl, bd_eq, nI_1, r1]
      · unfold k11_bestToClean_18
        rw [h'.2.1, if_neg (by rw [nI_leI (by omega) (by omega)]; omega), m1, some_bind, m2, some_bind]
        rw [show ((k11_light 86 gm2).bind _ = _) = (_ = _) from congrArg (· = _) (em (fun x g => if v2 < x then bd (g 47 22) fun x6 => bd (nI p + 1) fun x7 => k11_bestToClean_18 f (nI p) x6 x7 g else bd (nI p + 1) fun x8 => k11_bestToClean_18 f v1 v2 x8 g))]
        rw [if_neg (Int32.not_lt.mpr hl), bd_eq, nI_1, r2]
    · obtain ⟨v, gc', gm', r1, r2, r3, r4⟩ := ih (p + 1) f (nI p) (gc3 35 11) gc3 gm3 (by omega) (by omega) fc fm
      refine ⟨v, gc', gm', ?_, ?_, r3, r4⟩
      · unfold k8_bestToClean_15
        rw [h'.1, if_neg (by rw [nI_leI (by omega) (by omega)]; omega), c1, some_bind, c2, some_bind]
        rw [show ((k4_lastLight 35 gc2).bind _ = _) = (_ = _) from congrArg (· = _) (ec (fun x g => bd x fun x5 => if x5 ≤ v2 then bd (nI p + 1) fun x7 => k8_bestToClean_15 f v1 v2 x7 g else bd (nI p + 1) fun x8 => k8_bestToClean_15 f (nI p) x5 x8 g))]
        rw [bd_eq]
        rw [if_neg hl, bd_eq, nI_1, r1]
      · unfold k11_bestToClean_18
        rw [h'.2.1, if_neg (by rw [nI_leI (by omega) (by omega)]; omega), m1, some_bind, m2, some_bind]
        rw [show ((k11_light 86 gm2).bind _ = _) = (_ = _) from congrArg (· = _) (em (fun x g => if v2 < x then bd (g 47 22) fun x6 => bd (nI p + 1) fun x7 => k11_bestToClean_18 f (nI p) x6 x7 g else bd (nI p + 1) fun x8 => k11_bestToClean_18 f v1 v2 x8 g))]
        rw [if_pos (Int32.not_le.mp hl), bd_eq, e3, bd_eq, nI_1, r2]
theorem btc_both {N J : Nat} {rw : Nat → Nat} {gc gm : G} (h : RelL 22 79 N rw gc gm) (hb : ∀ m, m < N → gc 24 m = gm 81 m) (hJ0 : J ≤ 12) (hJ : gm 79 6 = nI J) (hq : J = 0 → gm 79 7 = 0) : ∃ v gc1 gc' gm', k8_bestToClean gc = some (v, gc') ∧ k11_bestToClean gm = some (v, gm') ∧ litOf 22 rw N gc gc1 ∧ frC gc1 gc' ∧ frM (up gm 47 0 0) gm' := by
  have hu : RelL 22 79 N rw gc (up gm 47 0 0) := h.fr rfl rfl rfl rfl rfl rfl h.2.2.2.2.2.2.1 (up_ne (by decide)) (up_ne (by decide)) (up_ne (by decide)) (up_ne (by decide)) (covOf_same (up_ne (by decide)) (up_ne (by decide)))
  obtain ⟨gc1, gm1, c1, m1, l1, ml1, h1, e1, -, -⟩ := light2 hO0 hu
  have f1 := ml1.fr
  have e79 : gm1 79 = gm 79 := by rw [f1.1 79 (by decide) (by decide) (by decide), up_ne (by decide)]
  have e81 : gm1 81 = gm 81 := by rw [f1.1 81 (by decide) (by decide) (by decide), up_ne (by decide)]
  obtain ⟨v, gc', gm', r1, r2, r3, r4⟩ := btc_loop (N := N) (J := J) (rw := rw) (gc0 := gc1) (gm0 := gm1) h1 (fun m hm => by rw [l1.1 24 (by decide) (by decide) (by decide) (by decide), e81]; exact hb m hm) hJ0 (by rw [e79]; exact hJ) (fun z => by rw [e79]; exact hq z) N 0 FU (-1) (gc1 22 11) gc1 gm1 (by omega) (by have := h.2.2.2.1.1; unfold FU; omega) frC.refl frM.refl
  refine ⟨v, gc1, gc', gm', ?_, ?_, l1, r3, f1.trans r4⟩
  · unfold k8_bestToClean k4_lastLight
    rw [c1, some_bind, some_bind, bd_eq, show (0 : Int32) = nI 0 from rfl]
    exact r1
  · unfold k11_bestToClean k11_light
    rw [bd_eq]
    rw [m1, some_bind, some_bind, bd_eq]
    dsimp only
    rw [e1, show (0 : Int32) = nI 0 from rfl]
    exact r2
theorem p_bestToClean : S_bestToClean Inv := by
  intro n g h
  obtain ⟨N, J, rw, h⟩ := h
  obtain ⟨q1, q2, q3, q4, q5, q6, q7, q8⟩ := h.Q
  have hb : ∀ m, m < N → g 24 m = g 81 m := fun m hm => (h.R.2.2.2.2.2.2.1 m hm).2.1
  obtain ⟨v, g1, gF, -, c1, -, l1, f1, -⟩ := btc_both h.R.L hb q1 q3 q8
  have hF : InvC n N J rw gF := (h.lit l1).frC f1
  have ef : ∀ a, 47 ≤ a → gF a = g a := fun a ha => by rw [f1 a (by omega), l1.1 a (by omega) (by omega) (by omega) (by omega)]
  have hL : RelL 22 79 N rw g gF := h.R.L.fr rfl rfl rfl rfl rfl rfl h.R.L.2.2.2.2.2.2.1 (ef _ (by omega)) (ef _ (by omega)) (ef _ (by omega)) (ef _ (by omega)) (covOf_same (ef _ (by omega)) (ef _ (by omega)))
  obtain ⟨v2, g2, gF2, gM, c2, m2, -, -, f2⟩ := btc_both hL (fun m hm => by rw [ef 81 (by omega)]; exact hb m hm) q1 (by rw [ef 79 (by omega)]; exact q3) (fun z => by rw [ef 79 (by omega)]; exact q8 z)
  have hv : v = v2 := by
    have := c1.symm.trans c2
    injection this with this
    exact (Prod.mk.inj this).1
  subst hv
  exact ⟨(v, gF), (v, gM), c1, m2, rfl, (hF.thrown.frM f2).next⟩
