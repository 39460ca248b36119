/-! looks ahead -/
theorem copyQ (gc : G) : ∃ gc', k3_copy 43 30 gc = some gc' ∧ (∀ a, a < 43 ∨ 45 < a → gc' a = gc a) ∧ (∀ k, 2 ≤ k → k ≤ 4 → gc' 43 k = gc 30 k) ∧ ∀ i j, 1 ≤ i → i ≤ 2 → j < 12 → gc' (43 + i) j = gc (30 + i) j := by
  refine ⟨up (up (up (cpy (cpy gc 31 44 12) 32 45 12) 43 2 (gc 30 2)) 43 3 (gc 30 3)) 43 4 (gc 30 4), ?_, fun a ha => ?_, fun k k1 k2 => ?_, fun i j i1 i2 hj => ?_⟩
  · unfold k3_copy
    simp only [bd_eq]
    rw [up_other (by decide), up_other (by decide), up_other (by decide), cpy_ne (by decide), cpy_ne (by decide)]
  · rw [up_ne (by omega), up_ne (by omega), up_ne (by omega), cpy_ne (by omega), cpy_ne (by omega)]
  · rcases (show k = 2 ∨ k = 3 ∨ k = 4 by omega) with rfl | rfl | rfl
    · rw [up_slot (by decide), up_slot (by decide), up_self]
    · rw [up_slot (by decide), up_self]
    · rw [up_self]
  · rw [up_ne (by omega), up_ne (by omega), up_ne (by omega)]
    rcases (show i = 1 ∨ i = 2 by omega) with rfl | rfl
    · rw [cpy_ne (by decide)]
      exact cpy_at hj
    · exact (cpy_at hj).trans (by rw [cpy_ne (by decide)])
theorem copyW {N J : Nat} {rw : Nat → Nat} {gc gm : G} (h : RelW 21 79 N J rw gc gm) : ∃ gc' gm', k7_copy 34 21 gc = some gc' ∧ k9_become 86 79 gm = some gm' ∧ RelW 34 86 N J rw gc' gm' ∧ frC gc gc' ∧ frM gm gm' ∧ gc' 43 4 = gc 30 4 := by
  obtain ⟨gc1, c1, c2, c3, c4, c5⟩ := copyR gc
  obtain ⟨gc2, d1, d2, d3, d4⟩ := copyQ gc1
  obtain ⟨gm', m1, m2, m3, m4, m5⟩ := becomeS gm
  obtain ⟨⟨r1, r2, r3, r4, r5, r6, r7, r8⟩, h2, h3, h4, ⟨q1, q2, q3, q4, q5, q6, q7, q8⟩, h6⟩ := h
  have hN := r4.1
  have e1 : ∀ a, a < 34 ∨ 46 < a → gc2 a = gc a := fun a ha => by rw [d2 a (by omega), c2 a (by omega)]
  have x35 : ∀ k, gc2 35 k = gc1 35 k := fun k => by rw [d2 35 (by decide)]
  have u : ∀ a, a ≠ 34 → up gc2 34 5 (gc2 21 5) a = gc2 a := fun a ha => up_ne ha
  have m54 : gm' 54 = gm 54 := m2 54 (by decide)
  have a1 : ∀ i j, 1 ≤ i → i ≤ 4 → j < 10 → up gc2 34 5 (gc2 21 5) (35 + i) j = gc (22 + i) j := fun i j i1 i2 hj => by
    rw [u _ (by omega), d2 _ (by omega), c5 i j i1 i2 hj]
  have a2 : ∀ i j, 1 ≤ i → i ≤ 2 → j < 12 → up gc2 34 5 (gc2 21 5) (43 + i) j = gc (30 + i) j := fun i j i1 i2 hj => by
    rw [u _ (by omega), d4 i j i1 i2 hj, c2 _ (by omega)]
  have a3 : ∀ k, 7 ≤ k → k ≤ 10 → up gc2 34 5 (gc2 21 5) 35 k = gc 22 k := fun k k1 k2 => by
    rw [u _ (by omega), x35, c4 k k1 k2]
  have a4 : ∀ k, 2 ≤ k → k ≤ 4 → up gc2 34 5 (gc2 21 5) 43 k = gc 30 k := fun k k1 k2 => by
    rw [u _ (by omega), d3 k k1 k2, c2 _ (by omega)]
  refine ⟨up gc2 34 5 (gc2 21 5), gm', ?_, m1, ⟨⟨by rw [show (34 + 1 : Nat) = 35 from rfl, a3 7 (by decide) (by decide)]; exact r1, by rw [m54]; exact r2, by rw [show (34 + 1 : Nat) = 35 from rfl, a3 8 (by decide) (by decide), m54]; exact r3, isRow_copy r4 (fun j hj => a1 4 j (by decide) (by decide) hj), isRow_copy r5 (fun j hj => m4 4 j (by decide) (by decide) hj), fun j hj => ?_, Or.inl ?_, ?_⟩, by rw [show (34 + 1 : Nat) = 35 from rfl, a3 9 (by decide) (by decide), m54]; exact h2, fun j hj => ?_, fun j hj => ?_, ⟨q1, ?_, ?_, ?_, ?_, fun k hk => ?_, ?_, fun z => ?_⟩, ?_⟩, fun a ha => ?_, ⟨fun a _ _ x => m2 a (by omega), fun k _ _ => by rw [m2 47 (by decide)]⟩, a4 4 (by decide) (by decide)⟩
  · unfold k7_copy
    rw [show k4_copy (34 + 1) (21 + 1) gc = some gc1 from c1, some_bind, show k3_copy (34 + 9) (21 + 9) gc1 = some gc2 from d1, some_bind, bd_eq]
  · have z1 := a1 1 j (by decide) (by decide) (by omega)
    have z3 := a1 3 j (by decide) (by decide) (by omega)
    rw [m4 1 j (by decide) (by decide) (by omega), m4 3 j (by decide) (by decide) (by omega)]
    exact ⟨z1.trans (r6 j hj).1, z3.trans (r6 j hj).2⟩
  · rw [u _ (by decide), x35]; exact c3
  · rw [show (34 + 1 : Nat) = 35 from rfl, a3 10 (by decide) (by decide)]
    refine r8.trans ?_
    unfold covOf
    rw [m3 7 (by decide) (by decide), show gm' (86 + 6) 0 = gm (79 + 6) 0 from m5 6 0 (by decide) (by decide) (by decide)]
  · have z2 := a1 2 j (by decide) (by decide) (by omega)
    rw [m4 2 j (by decide) (by decide) (by omega)]
    exact z2.trans (h3 j hj)
  · rw [m4 1 j (by decide) (by decide) (by omega), m4 2 j (by decide) (by decide) (by omega), m4 3 j (by decide) (by decide) (by omega)]
    exact h4 j hj
  · exact (a4 2 (by decide) (by decide)).trans q2
  · rw [m3 6 (by decide) (by decide)]; exact q3
  · rw [m3 7 (by decide) (by decide)]; exact (a4 3 (by decide) (by decide)).trans q4
  · rw [m3 9 (by decide) (by decide)]; exact (a4 4 (by decide) (by decide)).trans q5
  · rw [m5 5 k (by decide) (by decide) (by omega), m5 6 k (by decide) (by decide) (by omega)]
    have z1 := a2 1 k (by decide) (by decide) (by omega)
    have z2 := a2 2 k (by decide) (by decide) (by omega)
    obtain ⟨b1, b2, b3, b4⟩ := q6 k hk
    exact ⟨z1.trans b1, z2.trans b2, b3, b4⟩
  · rw [m3 7 (by decide) (by decide)]; exact q7
  · rw [m3 7 (by decide) (by decide)]; exact q8 z
  · rw [up_self, m3 8 (by decide) (by decide), e1 21 (by decide)]; exact h6
  · rw [up_ne (by omega), e1 a (by omega)]
theorem fC.fr {gc gc' : G} (h : fC 34 gc gc') : frC gc gc' := fun a ha => h a (by omega)
theorem fM.fr {gm gm' : G} (h : fM 86 gm gm') : frM gm gm' := ⟨fun a a1 a2 a3 => h.1 a a1 a2 (by omega) (by omega) (by omega) (by omega), h.2⟩
theorem planC.fr {g0 g g' : G} (h : planC g0 g) (hf : frC g g') : planC g0 g' := fun a ha => (hf a (by omega)).trans (h a ha)
theorem planM.fr {g0 g g' : G} (h : planM g0 g) (hf : frM g g') : planM g0 g' := fun a a1 a2 => (hf.1 a (by omega) (by omega) (by omega)).trans (h a a1 a2)
theorem hO34 : wOK 34 86 := Or.inr ⟨rfl, rfl⟩
theorem hO21 : wOK 21 79 := Or.inl ⟨rfl, rfl⟩
theorem la34 {k : Nat} {L : Int32} {gL : G} (hk : k ≤ 100) : ∀ (d p f : Nat) (g g' : G), k = p + d → d < f → npass 86 d g = some g' → k11_light 86 g' = some (L, gL) → k11_lightAfter_34 f (nI k) (nI p) g = some (L, gL) := by
  intro d
  induction d with
  | zero =>
    intro p f g g' hd hf hp hl
    obtain ⟨f, rfl⟩ : ∃ z, f = z + 1 := ⟨f - 1, by omega⟩
    obtain rfl : g = g' := Option.some.inj hp
    unfold k11_lightAfter_34
    rw [if_pos (by rw [nI_leI (by omega) (by omega)]; omega), hl, some_bind]
  | succ d ih =>
    intro p f g g' hd hf hp hl
    obtain ⟨f, rfl⟩ : ∃ z, f = z + 1 := ⟨f - 1, by omega⟩
    unfold k11_lightAfter_34
    rw [if_neg (by rw [nI_leI (by omega) (by omega)]; omega)]
    unfold npass at hp
    cases hq : k11_pass 86 g with
    | none => rw [hq] at hp; cases hp
    | some u =>
      rw [hq] at hp
      rw [some_bind, bd_eq, nI_1]
      exact ih (p + 1) f u.2 g' (by omega) (by omega) hp hl
theorem la_both {N J k : Nat} {rw : Nat → Nat} {g0 gc gm : G} (hP : RelP N g0) (hk : 1 ≤ k ∧ k ≤ 100) (h : RelW 21 79 N J rw gc gm) (pc : planC g0 gc) (pm : planM g0 gm) : ∃ L gc' gm', k8_lightAfter (nI k) gc = some (0, L, gc') ∧ k11_lightAfter (nI k) gm = some (L, gm') ∧ frC gc gc' ∧ frM (up gm 47 0 0) gm' := by
  obtain ⟨gc1, gm1, c1, m1, h1, f1, f2, -⟩ := copyW (h.m hO21 (gm' := up gm 47 0 0) (fun a ha => up_ne (by omega)))
  obtain ⟨gc2, gm2, J2, E, c2, m2, -, h2, f3, f4, -⟩ := passes hO34 hP hk.2 k 0 FU J gc1 gm1 (by omega) (by unfold FU; omega) h1 (pc.fr f1) (planM.fr (fun a a1 a2 => by rw [up_ne (by omega)]; exact pm a a1 a2) f2)
  obtain ⟨gc3, gm3, c3, m3, h3, f5, -, -, f6, -, e1, -⟩ := w_light hO34 h2
  refine ⟨gc3 35 11, gc3, gm3, ?_, ?_, (f1.trans f3.fr).trans f5.fr, (f2.trans f4.fr).trans f6.fr⟩
  · unfold k8_lightAfter k7_pass k4_lastLight
    rw [chkM_in hk, xb_0, c1, some_bind, show k7_pass_2 34 FU (nI k) 0 gc1 = some gc2 from c2, some_bind, show k4_shine 35 gc2 = some gc3 from c3]
    rfl
  · unfold k11_lightAfter
    show (k11_isIn (nI k) 1 100 (up gm 47 0 0)).bind _ = _
    rw [k11_isIn_n, some_bind, inM, if_pos (minutes_in.mpr ⟨k, hk.1, hk.2, rfl⟩), if_neg (by decide), m1, some_bind]
    refine la34 hk.2 k 0 FU gm1 gm2 (by omega) (by unfold FU; omega) m2 ?_
    unfold k11_light
    rw [m3, some_bind, e1]
theorem p_lightAfter : S_lightAfter Inv := by
  intro n g f a h
  obtain ⟨N, J, rw, h⟩ := h
  have hP := h.2.2.2.2.2.2.2
  by_cases hm : ¬ a < 1 ∧ a ≤ 100
  · obtain ⟨k, k1, k2, rfl⟩ := minutes_in.mp hm
    obtain ⟨v, gF, -, c1, -, f1, -⟩ := la_both (g0 := g) hP ⟨k1, k2⟩ h.W (fun _ _ => rfl) (fun _ _ _ => rfl)
    have ef : ∀ a, 47 ≤ a → gF a = g a := fun a ha => f1 a (by omega)
    obtain ⟨v2, gF2, gM, c2, m2, -, f2⟩ := la_both (g0 := g) (gc := g) (gm := gF) hP ⟨k1, k2⟩ (h.W.m hO21 (fun a ha => ef a (by omega))) (fun _ _ => rfl) (fun a a1 a2 => ef a (by omega))
    have hv : v = v2 := by
      have := c1.symm.trans c2
      injection this with this
      exact (Prod.mk.inj (Prod.mk.inj this).2).1
    subst hv
    refine ⟨(0, gF, vp_updL f 0 v.toInt64), (v, gM), ?_, m2, ?_, fun _ => rfl, ((h.frC f1).thrown.frM f2).next⟩
    · unfold w_lightAfter
      rw [c1]
      exact wr1_0
    · show gM 47 0 = 0
      rw [f2.2 0 (by decide) (by decide), up_self]
  · refine ⟨(1, g, f), (0, up (up g 47 0 0) 47 0 1), ?_, ?_, (show up (up g 47 0 0) 47 0 1 47 0 = 1 from up_self), fun h => absurd h (by show ¬ (1 : Int32) = 0; decide), h.thrown.thrown.next⟩
    · unfold w_lightAfter k8_lightAfter
      rw [chkM_out hm, xb_e (by decide)]
      exact wr1_e (by decide)
    · unfold k11_lightAfter
      show (k11_isIn a 1 100 (up g 47 0 0)).bind _ = _
      rw [k11_isIn_n, some_bind, inM, if_neg hm, if_pos rfl]
      rfl
/-! seen: in how many minutes -/
theorem seen2 {w t N J : Nat} {rw : Nat → Nat} {gc gm : G} (hO : wOK w t) (h : RelW w t N J rw gc gm) : ∃ s gc1 gm1, (s = 0 ∨ s = 1) ∧ k4_showsLight (w + 1) gc = some (s, gc1) ∧ k11_seen t gm = some (s, gm1) ∧ RelW w t N J rw gc1 gm1 ∧ fC w gc gc1 ∧ fM t gm gm1 := by
  obtain ⟨gc1, gm1, c1, m1, h1, f1, -, -, f4, -, e1, e2, -, -⟩ := w_light hO h
  refine ⟨seenV (gc1 (w + 1) 11) (gc1 (w + 1) 9) (gc1 (w + 1) 8) (gc1 (w + 1) 12), gc1, gm1, seenV_01, ?_, ?_, h1, f1, f4⟩
  · unfold k4_showsLight seenV
    rw [c1, some_bind]
    split
    · rfl
    · rw [k4_within, some_bind]
      split <;> rfl
  · unfold k11_seen k11_light seenV
    rw [m1, some_bind, some_bind, h1.2.1, e1]
    dsimp only
    split
    · rfl
    · rw [k11_isWide_n, some_bind, h1.1.2.2.1, e2]
      split <;> rfl
theorem pass1 {N J : Nat} {rw : Nat → Nat} {g0 gc gm : G} (hP : RelP N g0) (h : RelW 34 86 N J rw gc gm) (pc : planC g0 gc) (pm : planM g0 gm) : ∃ gc' gm' J' e, k7_pass 34 1 gc = some gc' ∧ k11_pass 86 gm = some (nI e, gm') ∧ e ≤ 1 ∧ RelW 34 86 N J' rw gc' gm' ∧ fC 34 gc gc' ∧ fM 86 gm gm' ∧ gc' 43 4 = gc 43 4 + nI e := by
  obtain ⟨gc1, gm1, J1, e, x1, x2, x3, x4, x5, x6, x7⟩ := minute2 hO34 hP h pc pm
  refine ⟨gc1, gm1, J1, e, ?_, x2, x3, x4, x5, x6, x7⟩
  unfold k7_pass
  have := x1 99999 1 0 (by decide)
  rw [show k7_pass_2 34 FU 1 0 gc = _ from this]
  show k7_pass_2 34 (99998 + 1) 1 (0 + 1) gc1 = _
  conv => lhs; unfold k7_pass_2
  rw [if_pos (by decide)]
theorem mus_loop {N : Nat} {rw : Nat → Nat} {g0 : G} (hP : RelP N g0) : ∀ (d p f J : Nat) (gc gm : G), 101 = p + d → d < f → RelW 34 86 N J rw gc gm → planC g0 gc → planM g0 gm → ∃ v gc' gm', k8_minutesUntilSeen_13 f (nI p) gc = some (v, gc') ∧ k11_minutesUntilSeen_18 f (nI p) gm = some (v, gm') ∧ frC gc gc' ∧ frM gm gm' := by
  intro d
  induction d with
  | zero =>
    intro p f J gc gm hd hf h pc pm
    obtain ⟨f, rfl⟩ : ∃ z, f = z + 1 := ⟨f - 1, by omega⟩
    obtain rfl : p = 101 := by omega
    refine ⟨-1, gc, gm, ?_, ?_, frC.refl, frM.refl⟩
    · unfold k8_minutesUntilSeen_13
      rw [if_pos (by decide)]
    · unfold k11_minutesUntilSeen_18
      rw [if_pos (by decide)]
  | succ d ih =>
    intro p f J gc gm hd hf h pc pm
    obtain ⟨f, rfl⟩ : ∃ z, f = z + 1 := ⟨f - 1, by omega⟩
    have hgt : ¬ (100 : Int32) < nI p := Int32.not_lt.mpr ((le_lit (M := 100) (k := 100) rfl (by omega) (by omega)).mpr (by omega))
    obtain ⟨s, gc1, gm1, s01, c1, m1, h1, f1, f2⟩ := seen2 hO34 h
    rcases s01 with rfl | rfl
    · obtain ⟨gc2, gm2, J2, e, c2, m2, -, h2, f3, f4, -⟩ := pass1 hP h1 (pc.fr f1.fr) (pm.fr f2.fr)
      obtain ⟨v, gc', gm', i1, i2, i3, i4⟩ := ih (p + 1) f J2 gc2 gm2 (by omega) (by omega) h2 ((pc.fr f1.fr).fr f3.fr) ((pm.fr f2.fr).fr f4.fr)
      refine ⟨v, gc', gm', ?_, ?_, (f1.fr.trans f3.fr).trans i3, (f2.fr.trans f4.fr).trans i4⟩
      · unfold k8_minutesUntilSeen_13
        rw [if_neg hgt, show k4_showsLight 35 gc = some (0, gc1) from c1, some_bind]
        dsimp only
        rw [if_pos rfl, c2, some_bind, bd_eq, nI_1, i1]
      · unfold k11_minutesUntilSeen_18
        rw [if_neg hgt, m1, some_bind]
        dsimp only
        rw [if_pos rfl, m2, some_bind, bd_eq, nI_1, i2]
    · refine ⟨nI p, gc1, gm1, ?_, ?_, f1.fr, f2.fr⟩
      · unfold k8_minutesUntilSeen_13
        rw [if_neg hgt, show k4_showsLight 35 gc = some (1, gc1) from c1, some_bind]
        dsimp only
        rw [if_neg (by decide)]
      · unfold k11_minutesUntilSeen_18
        rw [if_neg hgt, m1, some_bind]
        dsimp only
        rw [if_neg (by decide)]
theorem mus_both {N J : Nat} {rw : Nat → Nat} {g0 gc gm : G} (hP : RelP N g0) (h : RelW 21 79 N J rw gc gm) (pc : planC g0 gc) (pm : planM g0 gm) : ∃ v gc' gm', k8_minutesUntilSeen gc = some (v, gc') ∧ k11_minutesUntilSeen gm = some (v, gm') ∧ frC gc gc' ∧ frM (up gm 47 0 0) gm' := by
  obtain ⟨gc1, gm1, c1, m1, h1, f1, f2, -⟩ := copyW (h.m hO21 (gm' := up gm 47 0 0) (fun a ha => up_ne (by omega)))
  obtain ⟨v, gc', gm', c2, m2, f3, f4⟩ := mus_loop hP 101 0 FU J gc1 gm1 (by omega) (by unfold FU; omega) h1 (pc.fr f1) (planM.fr (fun a a1 a2 => by rw [up_ne (by omega)]; exact pm a a1 a2) f2)
  refine ⟨v, gc', gm', ?_, ?_, f1.trans f3, f2.trans f4⟩
  · unfold k8_minutesUntilSeen
    rw [c1, some_bind]
    exact c2
  · unfold k11_minutesUntilSeen
    rw [bd_eq, m1, some_bind]
    exact m2
theorem p_minutesUntilSeen : S_minutesUntilSeen Inv := by
  intro n g h
  obtain ⟨N, J, rw, h⟩ := h
  have hP := h.2.2.2.2.2.2.2
  obtain ⟨v, gF, -, c1, -, f1, -⟩ := mus_both (g0 := g) hP h.W (fun _ _ => rfl) (fun _ _ _ => rfl)
  have ef : ∀ a, 47 ≤ a → gF a = g a := fun a ha => f1 a (by omega)
  obtain ⟨v2, gF2, gM, c2, m2, -, f2⟩ := mus_both (g0 := g) (gc := g) (gm := gF) hP (h.W.m hO21 (fun a ha => ef a (by omega))) (fun _ _ => rfl) (fun a a1 a2 => ef a (by omega))
  have hv : v = v2 := by
    have := c1.symm.trans c2
    injection this with this
    exact (Prod.mk.inj this).1
  subst hv
  exact ⟨(v, gF), (v, gM), c1, m2, rfl, ((h.frC f1).thrown.frM f2).next⟩
/-! done: in how many minutes -/
theorem mud_loop {N D : Nat} {rw : Nat → Nat} {g0 : G} (hP : RelP N g0) (hD : D < 2 ^ 30) : ∀ (d p f J x r : Nat) (gc gm : G), 301 = p + d → d < f → RelW 34 86 N J rw gc gm → planC g0 gc → planM g0 gm → gc 43 4 = nI x → x + r = D → 0 < r → ∃ v gc' gm', k8_minutesUntilDone_33 f (nI D) (nI p) gc = some (0, v, gc') ∧ k11_minutesUntilDone_27 f (nI r) (nI p) gm = some (v, gm') ∧ frC gc gc' ∧ frM gm gm' := by
  intro d
  induction d with
  | zero =>
    intro p f J x r gc gm hd hf h pc pm hx hr hr0
    obtain ⟨f, rfl⟩ : ∃ z, f = z + 1 := ⟨f - 1, by omega⟩
    obtain rfl : p = 301 := by omega
    refine ⟨-1, gc, gm, ?_, ?_, frC.refl, frM.refl⟩
    · unfold k8_minutesUntilDone_33
      rw [if_pos (by decide)]
    · unfold k11_minutesUntilDone_27
      rw [if_pos (by decide)]
  | succ d ih =>
    intro p f J x r gc gm hd hf h pc pm hx hr hr0
    obtain ⟨f, rfl⟩ : ∃ z, f = z + 1 := ⟨f - 1, by omega⟩
    have hgt : ¬ (300 : Int32) < nI p := Int32.not_lt.mpr ((le_lit (M := 300) (k := 300) rfl (by omega) (by omega)).mpr (by omega))
    obtain ⟨gc2, gm2, J2, e, c2, m2, e1, h2, f3, f4, x2⟩ := pass1 hP h pc pm
    rw [hx, nI_add] at x2
    have hcls : k8_minutesUntilDone_33 (f + 1) (nI D) (nI p) gc = if nI (x + e) < nI D then k8_minutesUntilDone_33 f (nI D) (nI (p + 1)) gc2 else some (0, nI p, gc2) := by
      conv => lhs; unfold k8_minutesUntilDone_33
      rw [if_neg hgt, c2, some_bind, x2, bd_eq, nI_1]
    have hmdl : k11_minutesUntilDone_27 (f + 1) (nI r) (nI p) gm = if nI (r - e) = 0 then some (nI p, gm2) else k11_minutesUntilDone_27 f (nI (r - e)) (nI (p + 1)) gm2 := by
      conv => lhs; unfold k11_minutesUntilDone_27 k11_minutesUntilDone_48
      rw [if_neg hgt, m2, some_bind]
      dsimp only
      rcases (show e = 0 ∨ e = 1 by omega) with rfl | rfl
      · rw [if_pos (show nI 0 = 0 from rfl), Nat.sub_zero, bd_eq, nI_1]
      · obtain ⟨r, rfl⟩ : ∃ z, r = z + 1 := ⟨r - 1, by omega⟩
        rw [if_neg (show ¬ nI 1 = 0 by decide), bd_eq, nI_dec, bd_eq, nI_1]
        rfl
    by_cases hl : x + e < D
    · obtain ⟨v, gc', gm', i1, i2, i3, i4⟩ := ih (p + 1) f J2 (x + e) (r - e) gc2 gm2 (by omega) (by omega) h2 (pc.fr f3.fr) (pm.fr f4.fr) x2 (by omega) (by omega)
      refine ⟨v, gc', gm', ?_, ?_, f3.fr.trans i3, f4.fr.trans i4⟩
      · rw [hcls, if_pos ((nI_ltI (by omega) (by omega)).mpr hl), i1]
      · rw [hmdl, if_neg (nI_ne0 (by omega) (by omega)), i2]
    · refine ⟨nI p, gc2, gm2, ?_, ?_, f3.fr, f4.fr⟩
      · rw [hcls, if_neg (by rw [nI_ltI (by omega) (by omega)]; exact hl)]
      · rw [hmdl, show r - e = 0 by omega, if_pos (show nI 0 = 0 from rfl)]
theorem mud_both {N J d k : Nat} {rw : Nat → Nat} {g0 gc gm : G} (hP : RelP N g0) (h : RelW 21 79 N J rw gc gm) (hk : k < J) (hd : gc 30 4 = nI d) (hd9 : d < 2 ^ 29) (pc : planC g0 gc) (pm : planM g0 gm) : ∃ v gc' gm', k8_minutesUntilDone (nI k) gc = some (0, v, gc') ∧ k11_minutesUntilDone (nI k) gm = some (v, gm') ∧ frC gc gc' ∧ frM (up gm 47 0 0) gm' := by
  obtain ⟨q1, q2, q3, -⟩ := h.2.2.2.2.1
  obtain ⟨gc1, gm1, c1, m1, h1, f1, f2, e1⟩ := copyW (h.m hO21 (gm' := up gm 47 0 0) (fun a ha => up_ne (by omega)))
  obtain ⟨v, gc', gm', c2, m2, f3, f4⟩ := mud_loop (D := d + k + 1) hP (by omega) 300 1 FU J d (k + 1) gc1 gm1 (by omega) (by unfold FU; omega) h1 (pc.fr f1) (planM.fr (fun a a1 a2 => by rw [up_ne (by omega)]; exact pm a a1 a2) f2) (e1.trans hd) (by omega) (by omega)
  refine ⟨v, gc', gm', ?_, ?_, f1.trans f3, f2.trans f4⟩
  · unfold k8_minutesUntilDone
    rw [chkJ_in q2 q1 hk, xb_0, c1, some_bind, f1 30 (by decide), hd, nI_add, nI_1, bd_eq]
    exact c2
  · unfold k11_minutesUntilDone
    rw [isJ_in q3 q1 hk, some_bind]
    dsimp only
    rw [if_neg (by decide), m1, some_bind, nI_1, bd_eq]
    exact m2
theorem p_minutesUntilDone : S_minutesUntilDone Inv := by
  intro n g f a hn h
  obtain ⟨N, J, rw, h⟩ := h
  have hP := h.2.2.2.2.2.2.2
  obtain ⟨d, d1, d2⟩ := h.2.2.2.2.2.2.1
  obtain ⟨q1, q2, q3, -⟩ := h.Q
  by_cases hm : ¬ a < 0 ∧ a < nI J
  · obtain ⟨k, hk, rfl⟩ := (in_c (by omega)).mp hm
    obtain ⟨v, gF, -, c1, -, f1, -⟩ := mud_both (g0 := g) hP h.W hk d2 (by omega) (fun _ _ => rfl) (fun _ _ _ => rfl)
    have ef : ∀ a, 47 ≤ a → gF a = g a := fun a ha => f1 a (by omega)
    obtain ⟨v2, gF2, gM, c2, m2, -, f2⟩ := mud_both (g0 := g) (gc := g) (gm := gF) hP (h.W.m hO21 (fun a ha => ef a (by omega))) hk d2 (by omega) (fun _ _ => rfl) (fun a a1 a2 => ef a (by omega))
    have hv : v = v2 := by
      have := c1.symm.trans c2
      injection this with this
      exact (Prod.mk.inj (Prod.mk.inj this).2).1
    subst hv
    refine ⟨(0, gF, vp_updL f 0 v.toInt64), (v, gM), ?_, m2, ?_, fun _ => rfl, ((h.frC f1).thrown.frM f2).next⟩
    · unfold w_minutesUntilDone
      rw [c1]
      exact wr1_0
    · show gM 47 0 = 0
      rw [f2.2 0 (by decide) (by decide), up_self]
  · refine ⟨(1, g, f), (0, up g 47 0 1), ?_, ?_, by show up g 47 0 1 47 0 = 1; exact up_self, fun h => absurd h (by show ¬ (1 : Int32) = 0; decide), h.thrown.next⟩
    · unfold w_minutesUntilDone k8_minutesUntilDone
      rw [chkJ_out q2 hm, xb_e (by decide)]
      exact wr1_e (by decide)
    · unfold k11_minutesUntilDone
      show (k11_isJob a g).bind _ = _
      rw [isJ_out q3 q1 hm, some_bind, if_pos rfl]
