/-! the offset that brings most light -/
theorem nI_div {a b : Nat} (ha : a < 2 ^ 31) (hb : b < 2 ^ 31) : nI a / nI b = nI (a / b) := by
  have hle : a / b ≤ a := Nat.div_le_self a b
  apply Int32.toInt_inj.mp
  rw [Int32.toInt_div, nI_toInt ha, nI_toInt hb, ← Int.ofNat_tdiv]
  generalize a / b = q at hle ⊢
  rw [nI_toInt (by omega), Int.bmod_eq_of_le (by omega) (by omega)]
theorem nI_mul (a b : Nat) : nI a * nI b = nI (a * b) := (Int32.ofNat_mul a b).symm
theorem shL_rng {cl of : Nat → Int32} {rw : Nat → Nat} {W cov : Int32} {N : Nat} (h : ∀ p, p < N → ∃ c, c ≤ 100 ∧ cl (rw p) = nI c) : ∀ n, n ≤ N → ∃ l, l ≤ 10000 ∧ shL cl of rw W cov n = nI l := by
  intro n
  induction n with
  | zero => intro _; exact ⟨10000, by omega, rfl⟩
  | succ n ih =>
    intro hn
    obtain ⟨l, l1, l2⟩ := ih (by omega)
    obtain ⟨c, c1, c2⟩ := h n (by omega)
    unfold shL
    by_cases e1 : nI (rw n) = cov
    · rw [if_pos e1]; exact ⟨0, by omega, rfl⟩
    · rw [if_neg e1]
      by_cases e2 : wi W (shA of rw n) = 0
      · rw [if_pos e2]; exact ⟨0, by omega, rfl⟩
      · rw [if_neg e2, l2, c2, nI_mul, show (100 : Int32) = nI 100 from rfl]
        have : l * c ≤ 10000 * 100 := Nat.mul_le_mul l1 c1
        rw [nI_div (by omega) (by omega)]
        exact ⟨l * c / 100, by omega, rfl⟩
theorem rng_n {x : Int32} (h : 0 ≤ x ∧ x ≤ 100) : ∃ c, c ≤ 100 ∧ x = nI c := (in_le (N := 100) (by omega)).mp ⟨Int32.not_lt.mpr h.1, h.2⟩
/-- a mirror of the copies turned, the light reckoned -/
theorem turn2 {N j : Nat} {rw : Nat → Nat} {gc gm : G} {v : Int32} (h : RelL 35 86 N rw gc gm) (hj : j < N) : ∃ gc' gm', k8_lightIfTurned (nI j) v gc = some (gc' 35 11, gc') ∧ sto gm 89 10 (nI j) v (fun g3 => k11_light 86 g3) = some (gc' 35 11, gm') ∧ gm' 47 22 = gc' 35 11 ∧ RelL 35 86 N rw gc' gm' ∧ frC gc gc' ∧ frM gm gm' ∧ (∀ a, a ≠ 47 → a ≠ 89 → a ≠ 93 → a ≠ 94 → a ≠ 95 → gm' a = gm a) ∧ gm' 89 = up gm 89 j v 89 ∧ gc' 35 11 = shL (gm 87) (up gm 89 j v 89) rw (gm 54 1) (covOf 86 gm) N := by
  obtain ⟨h1, h2, h3, h4, h5, h6, h7, h8⟩ := id h
  have hN9 := h4.1
  have hu : RelL 35 86 N rw (up (up gc 38 j v) 35 13 0) (up gm 89 j v) := by
    refine ⟨?_, ?_, ?_, ?_, ?_, fun m hm => ?_, Or.inl up_self, ?_⟩
    · rw [up_slot (by decide), up_other (by decide)]; exact h1
    · rw [up_other (by decide)]; exact h2
    · rw [up_slot (by decide), up_other (by decide), up_other (by decide)]; exact h3
    · exact isRow_same (by rw [up_ne (by decide), up_ne (by decide)]) h4
    · exact isRow_same (by rw [up_ne (by decide)]) h5
    · obtain ⟨i1, i2⟩ := h6 m hm
      refine ⟨?_, ?_⟩
      · rw [up_other (by decide), up_other (by decide), up_other (by decide)]; exact i1
      · rw [up_other (by decide), up_app, up_app]
        by_cases q : m = j
        · rw [if_pos ⟨rfl, q⟩, if_pos ⟨rfl, q⟩]
        · rw [if_neg (fun z => q z.2), if_neg (fun z => q z.2)]; exact i2
    · rw [up_slot (by decide), up_other (by decide), covOf_same (up_ne (by decide)) (up_ne (by decide))]; exact h8
  obtain ⟨gc', gm', c1, m1, l1, ml1, hr, e1, -, -⟩ := light2 hO1 hu
  refine ⟨gc', gm', ?_, ?_, e1, hr, fun a ha => ?_, ⟨fun a a1 a2 a3 => ?_, fun k k1 k2 => ?_⟩, fun a a1 a2 a3 a4 a5 => ?_, ?_, ?_⟩
  · unfold k8_lightIfTurned k4_turn k4_lastLight
    rw [k4_has_n h1 hN9 hj, some_bind, if_neg (by decide), sto_n (by omega) (by omega), bd_eq, some_bind]
    rw [show k4_shine 35 (up (up gc (35 + 3) j v) 35 13 0) = some gc' from c1]
    rfl
  · rw [sto_n (by omega) (by omega)]
    unfold k11_light
    rw [m1, some_bind, e1]
  · rw [l1.fr (by omega) a ha, up_ne (by omega), up_ne (by omega)]
  · rw [ml1.fr.1 a a1 a2 a3, up_ne (by omega)]
  · rw [ml1.fr.2 k k1 k2, up_ne (by decide)]
  · rw [ml1.1 a a1 a3 a4 a5, up_ne a2]
  · rw [ml1.1 89 (by decide) (by decide) (by decide) (by decide)]
  · rw [← e1, ml1.2.2.2.1, covOf_same (up_ne (by decide)) (up_ne (by decide)), show up gm 89 j v (86 + 1) = gm 87 from up_ne (by decide), up_other (by decide)]
theorem off38_2 {N j k f : Nat} {rw : Nat → Nat} {gc gm : G} {v2 v3 : Int32} {KC : Int32 → Int32 → Int32 → Int32 → G → Option XR} {KM : Int32 → Int32 → Int32 → Int32 → G → Option (Int32 × G)} (h : RelL 35 86 N rw gc gm) (hj : j < N) : ∃ w2 w3 gc' gm', k8_bestOffset_62 KC (nI j) v2 v3 (nI k) gc = KC (nI j) w2 w3 (nI (k + 1)) gc' ∧ k11_bestOffset_38 KM (f + 2) (nI j) v2 v3 (nI k) (-1) gm = KM (nI j) w2 w3 (nI (k + 1)) gm' ∧ RelL 35 86 N rw gc' gm' ∧ frC gc gc' ∧ frM gm gm' := by
  obtain ⟨gc', gm', c1, m1, e1, hr, f1, f2, -, -, -⟩ := turn2 (v := -nI k) h hj
  have hm : (-1 : Int32) * nI k = -nI k := by rw [show (-1 : Int32) = -(1 : Int32) from rfl, Int32.neg_mul, Int32.one_mul]
  have m1' : ∀ K : Int32 → G → Option (Int32 × G), (sto gm 89 10 (nI j) (-nI k) fun g3 => (k11_light 86 g3).bind fun u4 => K u4.1 u4.2) = K (gc' 35 11) gm' := by
    intro K
    have hN9 := h.2.2.2.1.1
    rw [sto_n (by omega) (by omega)] at m1 ⊢
    rw [m1]; rfl
  have hend : ∀ w2 w3, k11_bestOffset_38 KM (f + 1) (nI j) w2 w3 (nI k) (-3) gm' = KM (nI j) w2 w3 (nI (k + 1)) gm' := by
    intro w2 w3
    unfold k11_bestOffset_38
    rw [if_pos (by decide), bd_eq, nI_1]
  by_cases hl : gc' 35 11 ≤ v3
  · refine ⟨v2, v3, gc', gm', ?_, ?_, hr, f1, f2⟩
    · unfold k8_bestOffset_62
      rw [c1, some_bind, bd_eq, if_pos hl, bd_eq, nI_1]
    · show k11_bestOffset_38 KM (f + 1 + 1) (nI j) v2 v3 (nI k) (-1) gm = _
      conv => lhs; unfold k11_bestOffset_38
      rw [if_neg (by decide), hm, m1' (fun x g => if v3 < x then bd (-nI k) fun x6 => bd (g 47 22) fun x7 => bd (-1 + (-2)) fun x8 => k11_bestOffset_38 KM (f + 1) (nI j) x6 x7 (nI k) x8 g else bd (-1 + (-2)) fun x9 => k11_bestOffset_38 KM (f + 1) (nI j) v2 v3 (nI k) x9 g), if_neg (Int32.not_lt.mpr hl), bd_eq, show (-1 : Int32) + (-2) = -3 from rfl, hend]
  · refine ⟨-nI k, gc' 35 11, gc', gm', ?_, ?_, hr, f1, f2⟩
    · unfold k8_bestOffset_62
      rw [c1, some_bind, bd_eq, if_neg hl, bd_eq, bd_eq, nI_1]
    · show k11_bestOffset_38 KM (f + 1 + 1) (nI j) v2 v3 (nI k) (-1) gm = _
      conv => lhs; unfold k11_bestOffset_38
      rw [if_neg (by decide), hm, m1' (fun x g => if v3 < x then bd (-nI k) fun x6 => bd (g 47 22) fun x7 => bd (-1 + (-2)) fun x8 => k11_bestOffset_38 KM (f + 1) (nI j) x6 x7 (nI k) x8 g else bd (-1 + (-2)) fun x9 => k11_bestOffset_38 KM (f + 1) (nI j) v2 v3 (nI k) x9 g), if_pos (Int32.not_le.mp hl), bd_eq, bd_eq, bd_eq, e1, show (-1 : Int32) + (-2) = -3 from rfl, hend]
theorem off_step {N j k f ff : Nat} {rw : Nat → Nat} {gc gm : G} {v2 v3 : Int32} {KM : Int32 → Int32 → Int32 → Int32 → G → Option (Int32 × G)} (h : RelL 35 86 N rw gc gm) (hj : j < N) (hk : k ≤ 90) : ∃ w2 w3 gc' gm', k8_bestOffset_34 (ff + 1) (nI j) v2 v3 (nI k) gc = k8_bestOffset_34 ff (nI j) w2 w3 (nI (k + 1)) gc' ∧ k11_bestOffset_38 KM (f + 3) (nI j) v2 v3 (nI k) 1 gm = KM (nI j) w2 w3 (nI (k + 1)) gm' ∧ RelL 35 86 N rw gc' gm' ∧ frC gc gc' ∧ frM gm gm' := by
  obtain ⟨gc1, gm1, c1, m1, e1, hr, f1, f2, -, -, -⟩ := turn2 (v := nI k) h hj
  have m1' : ∀ K : Int32 → G → Option (Int32 × G), (sto gm 89 10 (nI j) (nI k) fun g3 => (k11_light 86 g3).bind fun u4 => K u4.1 u4.2) = K (gc1 35 11) gm1 := by
    intro K
    have hN9 := h.2.2.2.1.1
    rw [sto_n (by omega) (by omega)] at m1 ⊢
    rw [m1]; rfl
  have hgt : ¬ (90 : Int32) < nI k := Int32.not_lt.mpr ((le_lit (M := 90) (k := 90) rfl (by omega) (by omega)).mpr hk)
  by_cases hl : gc1 35 11 ≤ v3
  · obtain ⟨w2, w3, gc', gm', r1, r2, r3, r4, r5⟩ := off38_2 (f := f) (k := k) (v2 := v2) (v3 := v3) (KC := k8_bestOffset_34 ff) (KM := KM) hr hj
    refine ⟨w2, w3, gc', gm', ?_, ?_, r3, f1.trans r4, f2.trans r5⟩
    · rw [← r1]
      conv => lhs; unfold k8_bestOffset_34
      rw [if_neg hgt, c1, some_bind, bd_eq, if_pos hl]
    · rw [← r2]
      show k11_bestOffset_38 KM (f + 2 + 1) (nI j) v2 v3 (nI k) 1 gm = _
      conv => lhs; unfold k11_bestOffset_38
      rw [if_neg (by decide), Int32.one_mul, m1' (fun x g => if v3 < x then bd (nI k) fun x6 => bd (g 47 22) fun x7 => bd (1 + (-2)) fun x8 => k11_bestOffset_38 KM (f + 2) (nI j) x6 x7 (nI k) x8 g else bd (1 + (-2)) fun x9 => k11_bestOffset_38 KM (f + 2) (nI j) v2 v3 (nI k) x9 g), if_neg (Int32.not_lt.mpr hl), bd_eq, show (1 : Int32) + (-2) = -1 from rfl]
  · obtain ⟨w2, w3, gc', gm', r1, r2, r3, r4, r5⟩ := off38_2 (f := f) (k := k) (v2 := nI k) (v3 := gc1 35 11) (KC := k8_bestOffset_34 ff) (KM := KM) hr hj
    refine ⟨w2, w3, gc', gm', ?_, ?_, r3, f1.trans r4, f2.trans r5⟩
    · rw [← r1]
      conv => lhs; unfold k8_bestOffset_34
      rw [if_neg hgt, c1, some_bind, bd_eq, if_neg hl]
    · rw [← r2]
      show k11_bestOffset_38 KM (f + 2 + 1) (nI j) v2 v3 (nI k) 1 gm = _
      conv => lhs; unfold k11_bestOffset_38
      rw [if_neg (by decide), Int32.one_mul, m1' (fun x g => if v3 < x then bd (nI k) fun x6 => bd (g 47 22) fun x7 => bd (1 + (-2)) fun x8 => k11_bestOffset_38 KM (f + 2) (nI j) x6 x7 (nI k) x8 g else bd (1 + (-2)) fun x9 => k11_bestOffset_38 KM (f + 2) (nI j) v2 v3 (nI k) x9 g), if_pos (Int32.not_le.mp hl), bd_eq, bd_eq, bd_eq, e1, show (1 : Int32) + (-2) = -1 from rfl]
theorem off_loop {N j : Nat} {rw : Nat → Nat} (hj : j < N) : ∀ (d k f1 f2 : Nat) (v2 v3 : Int32) (gc gm : G), 91 = k + d → d < f1 → d < f2 → RelL 35 86 N rw gc gm → ∃ v gc' gm', k8_bestOffset_34 f1 (nI j) v2 v3 (nI k) gc = some (0, v, gc') ∧ k11_bestOffset_28 f2 (nI j) v2 v3 (nI k) gm = some (v, gm') ∧ frC gc gc' ∧ frM gm gm' := by
  intro d
  induction d with
  | zero =>
    intro k f1 f2 v2 v3 gc gm hd hf1 hf2 h
    obtain ⟨f1, rfl⟩ : ∃ z, f1 = z + 1 := ⟨f1 - 1, by omega⟩
    obtain ⟨f2, rfl⟩ : ∃ z, f2 = z + 1 := ⟨f2 - 1, by omega⟩
    obtain rfl : k = 91 := by omega
    refine ⟨v2, gc, gm, ?_, ?_, frC.refl, frM.refl⟩
    · unfold k8_bestOffset_34
      rw [if_pos (by decide)]
    · unfold k11_bestOffset_28
      rw [if_pos (by decide)]
  | succ d ih =>
    intro k f1 f2 v2 v3 gc gm hd hf1 hf2 h
    obtain ⟨f1, rfl⟩ : ∃ z, f1 = z + 1 := ⟨f1 - 1, by omega⟩
    obtain ⟨f2, rfl⟩ : ∃ z, f2 = z + 1 := ⟨f2 - 1, by omega⟩
    obtain ⟨w2, w3, gc1, gm1, c1, m1, h1, a1, a2⟩ := off_step (f := 99997) (ff := f1) (k := k) (v2 := v2) (v3 := v3) (KM := k11_bestOffset_28 f2) h hj (by omega)
    obtain ⟨v, gc', gm', c2, m2, b1, b2⟩ := ih (k + 1) f1 f2 w2 w3 gc1 gm1 (by omega) (by omega) (by omega) h1
    refine ⟨v, gc', gm', c1.trans c2, ?_, a1.trans b1, a2.trans b2⟩
    unfold k11_bestOffset_28
    rw [if_neg (Int32.not_lt.mpr ((le_lit (M := 90) (k := 90) rfl (by omega) (by omega)).mpr (by omega)))]
    exact m1.trans m2
theorem off_first {N j f : Nat} {rw : Nat → Nat} {gc gm : G} {KM : Int32 → Int32 → Int32 → Int32 → G → Option (Int32 × G)} (h : RelL 35 86 N rw gc gm) (hj : j < N) (hr : ∀ m, m < N → 0 ≤ gm 87 m ∧ gm 87 m ≤ 100) : ∃ L gc' gm', k8_lightIfTurned (nI j) 0 gc = some (L, gc') ∧ k11_bestOffset_38 KM (f + 3) (nI j) 0 (-1) 0 1 gm = KM (nI j) 0 L (nI 1) gm' ∧ RelL 35 86 N rw gc' gm' ∧ frC gc gc' ∧ frM gm gm' := by
  obtain ⟨gc1, gm1, c1, m1, e1, h1, f1, f2, x1, y1, z1⟩ := turn2 (v := 0) h hj
  obtain ⟨gc2, gm2, c2, m2, e2, h2, f3, f4, x2, y2, z2⟩ := turn2 (v := 0) h1 hj
  have hN9 := h.2.2.2.1.1
  have hidem : up gm1 89 j 0 89 = gm1 89 := by
    funext k
    rw [up_app]
    by_cases q : k = j
    · rw [if_pos ⟨rfl, q⟩, y1, q, up_self]
    · rw [if_neg (fun z => q z.2)]
  have cv : covOf 86 gm1 = covOf 86 gm := covOf_same (x1 86 (by decide) (by decide) (by decide) (by decide) (by decide)) (x1 92 (by decide) (by decide) (by decide) (by decide) (by decide))
  have hL : gc2 35 11 = gc1 35 11 := by
    rw [z2, z1, hidem, y1, cv, x1 87 (by decide) (by decide) (by decide) (by decide) (by decide), x1 54 (by decide) (by decide) (by decide) (by decide) (by decide)]
  have hpos : ¬ gc1 35 11 ≤ -1 := by
    obtain ⟨l, l1, l2⟩ := shL_rng (cl := gm 87) (of := up gm 89 j 0 89) (rw := rw) (W := gm 54 1) (cov := covOf 86 gm) (N := N) (fun p hp => rng_n (hr _ (h.2.2.2.2.1.2.1 p hp).2)) N (Nat.le_refl _)
    rw [z1, l2, Int32.not_le, Int32.lt_iff_toInt_lt, nI_toInt (by omega)]
    show (-1 : Int) < (l : Int)
    omega
  have h3 : RelL 35 86 N rw gc1 gm2 := h1.fr rfl rfl rfl rfl rfl rfl h1.2.2.2.2.2.2.1 (x2 54 (by decide) (by decide) (by decide) (by decide) (by decide)) (x2 87 (by decide) (by decide) (by decide) (by decide) (by decide)) (y2.trans hidem) (x2 90 (by decide) (by decide) (by decide) (by decide) (by decide)) (covOf_same (x2 86 (by decide) (by decide) (by decide) (by decide) (by decide)) (x2 92 (by decide) (by decide) (by decide) (by decide) (by decide)))
  refine ⟨gc1 35 11, gc1, gm2, c1, ?_, h3, f1, f2.trans f4⟩
  have m1' : ∀ K : Int32 → G → Option (Int32 × G), (sto gm 89 10 (nI j) 0 fun g3 => (k11_light 86 g3).bind fun u4 => K u4.1 u4.2) = K (gc1 35 11) gm1 := by
    intro K
    rw [sto_n (by omega) (by omega)] at m1 ⊢
    rw [m1]; rfl
  have m2' : ∀ K : Int32 → G → Option (Int32 × G), (sto gm1 89 10 (nI j) 0 fun g3 => (k11_light 86 g3).bind fun u4 => K u4.1 u4.2) = K (gc1 35 11) gm2 := by
    intro K
    rw [sto_n (by omega) (by omega)] at m2 ⊢
    rw [m2, hL]; rfl
  have s3 : k11_bestOffset_38 KM (f + 1) (nI j) 0 (gc1 35 11) 0 (-3) gm2 = KM (nI j) 0 (gc1 35 11) (nI 1) gm2 := by
    unfold k11_bestOffset_38
    rw [if_pos (by decide), bd_eq]
    rfl
  have s2 : k11_bestOffset_38 KM (f + 1 + 1) (nI j) 0 (gc1 35 11) 0 (-1) gm1 = k11_bestOffset_38 KM (f + 1) (nI j) 0 (gc1 35 11) 0 (-3) gm2 := by
    conv => lhs; unfold k11_bestOffset_38
    rw [if_neg (by decide), show (-1 : Int32) * 0 = 0 from rfl, m2' (fun x g => if gc1 35 11 < x then bd 0 fun x6 => bd (g 47 22) fun x7 => bd (-1 + (-2)) fun x8 => k11_bestOffset_38 KM (f + 1) (nI j) x6 x7 0 x8 g else bd (-1 + (-2)) fun x9 => k11_bestOffset_38 KM (f + 1) (nI j) 0 (gc1 35 11) 0 x9 g), if_neg (fun z => Int32.lt_irrefl z), bd_eq, show (-1 : Int32) + (-2) = -3 from rfl]
  show k11_bestOffset_38 KM (f + 2 + 1) (nI j) 0 (-1) 0 1 gm = _
  rw [← s3, ← s2]
  conv => lhs; unfold k11_bestOffset_38
  rw [if_neg (by decide), show (1 : Int32) * 0 = 0 from rfl, m1' (fun x g => if -1 < x then bd 0 fun x6 => bd (g 47 22) fun x7 => bd (1 + (-2)) fun x8 => k11_bestOffset_38 KM (f + 2) (nI j) x6 x7 0 x8 g else bd (1 + (-2)) fun x9 => k11_bestOffset_38 KM (f + 2) (nI j) 0 (-1) 0 x9 g), if_pos (Int32.not_le.mp hpos), bd_eq, bd_eq, bd_eq, e1, show (1 : Int32) + (-2) = -1 from rfl]
theorem off_both {N J j : Nat} {rw : Nat → Nat} {gc gm : G} (h : RelL 22 79 N rw gc gm) (hr : ∀ m, m < N → 0 ≤ gm 80 m ∧ gm 80 m ≤ 100) (hj : j < N) (hJ0 : J ≤ 12) (hJ : gm 79 6 = nI J) (hq : J = 0 → gm 79 7 = 0) : ∃ v gc' gm', k8_bestOffset (nI j) gc = some (0, v, gc') ∧ k11_bestOffset (nI j) gm = some (v, gm') ∧ frC gc gc' ∧ frM (up gm 47 0 0) gm' := by
  have hN9 := h.2.2.2.1.1
  have hu : RelL 22 79 N rw gc (up gm 47 0 0) := h.fr rfl rfl rfl rfl rfl rfl h.2.2.2.2.2.2.1 (up_ne (by decide)) (up_ne (by decide)) (up_ne (by decide)) (up_ne (by decide)) (covOf_same (up_ne (by decide)) (up_ne (by decide)))
  obtain ⟨gc1, gm1, c1, m1, h1, a1, a2, -⟩ := copyL hu hJ0 (by rw [up_other (by decide)]; exact hJ) (fun z => by rw [up_other (by decide)]; exact hq z)
  have hr1 : ∀ m, m < N → 0 ≤ gm1 87 m ∧ gm1 87 m ≤ 100 := by
    intro m hm
    obtain ⟨gm1', m1', -, -, m4, -⟩ := becomeS (up gm 47 0 0)
    obtain rfl : gm1' = gm1 := Option.some.inj (m1'.symm.trans m1)
    rw [show gm1' 87 m = up gm 47 0 0 80 m from m4 1 m (by decide) (by decide) (by omega), up_other (by decide)]
    exact hr m hm
  obtain ⟨L, gc2, gm2, c2, m2, h2, b1, b2⟩ := off_first (f := 99997) (KM := k11_bestOffset_28 99999) h1 hj hr1
  obtain ⟨v, gc3, gm3, c3, m3, d1, d2⟩ := off_loop hj 90 1 FU 99999 0 L gc2 gm2 (by omega) (by unfold FU; omega) (by omega) h2
  refine ⟨v, gc3, gm3, ?_, ?_, (a1.trans b1).trans d1, (a2.trans b2).trans d2⟩
  · unfold k8_bestOffset
    rw [chk_in h.1 hN9 hj, xb_0, c1, some_bind, c2, some_bind, bd_eq]
    exact c3
  · unfold k11_bestOffset
    rw [isM_in h.2.1 hN9 hj, some_bind]
    dsimp only
    rw [if_neg (by decide), m1, some_bind]
    show k11_bestOffset_28 (99999 + 1) (nI j) 0 (-1) 0 gm1 = _
    conv => lhs; unfold k11_bestOffset_28
    rw [if_neg (by decide)]
    exact m2.trans m3
theorem p_bestOffset : S_bestOffset Inv := by
  intro n g f a h
  obtain ⟨N, J, rw, h⟩ := h
  have hN9 := h.R.N9
  obtain ⟨q1, q2, q3, q4, q5, q6, q7, q8⟩ := h.Q
  by_cases hm : ¬ a < 0 ∧ a < nI N
  · obtain ⟨m, hm1, rfl⟩ := (in_c (by omega)).mp hm
    have hr : ∀ m, m < N → 0 ≤ g 80 m ∧ g 80 m ≤ 100 := fun m hm => (h.2.2.2.1 m hm).1
    obtain ⟨v, gF, -, c1, -, f1, -⟩ := off_both h.R.L hr hm1 q1 q3 q8
    have hF : InvC n N J rw gF := h.frC f1
    have ef : ∀ a, 47 ≤ a → gF a = g a := fun a ha => f1 a (by omega)
    have hL : RelL 22 79 N rw g gF := h.R.L.fr rfl rfl rfl rfl rfl rfl h.R.L.2.2.2.2.2.2.1 (ef _ (by omega)) (ef _ (by omega)) (ef _ (by omega)) (ef _ (by omega)) (covOf_same (ef _ (by omega)) (ef _ (by omega)))
    obtain ⟨v2, gF2, gM, c2, m2, -, f2⟩ := off_both hL (fun m hm => by rw [ef 80 (by omega)]; exact hr m hm) hm1 q1 (by rw [ef 79 (by omega)]; exact q3) (fun z => by rw [ef 79 (by omega)]; exact q8 z)
    have hv : v = v2 := by
      have := c1.symm.trans c2
      injection this with this
      exact (Prod.mk.inj (Prod.mk.inj this).2).1
    subst hv
    refine ⟨(0, gF, vp_updL f 0 v.toInt64), (v, gM), ?_, m2, ?_, fun _ => rfl, (hF.thrown.frM f2).next⟩
    · unfold w_bestOffset
      rw [c1]
      exact wr1_0
    · show gM 47 0 = 0
      rw [f2.2 0 (by decide) (by decide), up_self]
  · refine ⟨(1, g, f), (0, up g 47 0 1), ?_, ?_, by show up g 47 0 1 47 0 = 1; exact up_self, fun h => absurd h (by show ¬ (1 : Int32) = 0; decide), h.thrown.next⟩
    · unfold w_bestOffset k8_bestOffset
      rw [chk_out h.R.1 hm, xb_e (by decide)]
      exact wr1_e (by decide)
    · unfold k11_bestOffset
      show (k11_isMirror a g).bind _ = _
      rw [isM_out h.R.2.1 hN9 hm, some_bind, if_pos rfl]
