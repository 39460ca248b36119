/-! what is told ahead: light, jobs; the best offset -/
theorem nI_sub {a b : Nat} : nI (a + b) - nI a = nI b := by
  have e : nI (a + b) = nI b + nI a := by
    show Int32.ofNat (a + b) = Int32.ofNat b + Int32.ofNat a
    rw [Nat.add_comm]
    exact Int32.ofNat_add _ _
  rw [e, Int32.add_sub_cancel]
theorem nI_plus {a b : Nat} : nI a + nI b = nI (a + b) := (Int32.ofNat_add _ _).symm
/-- what is told of a job: never, or the minute in which it is done -/
def DT (P : List OR4) (A : TA) (D pl : Nat) (x : Int32) : Prop := x = -1 ∨ ∃ j, j < 300 ∧ x = nI (1 + j) ∧ pl < dnC P A (j + 1) ∧ ∀ k, k < j → dnC P A (k + 1) ≤ pl
theorem dn_c {P : List OR4} {A : TA} {D : Nat} (h : A.dn = nI D) : (∀ k, (minN P k A).dn = nI (D + dnC P A k)) ∧ ∀ k, dnC P A k ≤ dnC P A (k + 1) ∧ dnC P A (k + 1) ≤ dnC P A k + 1 := by
  have step : ∀ B : TA, (minA P B).dn = B.dn ∨ (minA P B).dn = B.dn + 1 := by
    intro B
    have e : (minA P B).dn = B.dn + dnm P B := minA_dn.1
    have h01 : dnm P B = 0 ∨ dnm P B = 1 := dnv_01
    rcases h01 with z | z
    · exact Or.inl (by rw [e, z, Int32.add_zero])
    · exact Or.inr (by rw [e, z])
  have cs1 : ∀ k, dnC P A (k + 1) = if (minN P (k + 1) A).dn = (minN P k A).dn then dnC P A k else dnC P A k + 1 := fun k => rfl
  refine ⟨fun k => ?_, fun k => ?_⟩
  · induction k with
    | zero => exact h
    | succ k ih =>
      rw [cs1]
      by_cases e : (minN P (k + 1) A).dn = (minN P k A).dn
      · rw [if_pos e, e, ih]
      · rw [if_neg e]
        rcases step (minN P k A) with z | z
        · exact absurd (by rw [minN_succ]; exact z) e
        · rw [minN_succ, z, ih, nI_1]
          rfl
  · rw [cs1]
    by_cases e : (minN P (k + 1) A).dn = (minN P k A).dn
    · rw [if_pos e]; omega
    · rw [if_neg e]; omega
theorem dnC_le {P : List OR4} {A : TA} {D : Nat} (h : A.dn = nI D) : ∀ k, dnC P A k ≤ k := by
  intro k
  induction k with
  | zero => exact Nat.le_refl _
  | succ k ih =>
    have := ((dn_c (P := P) h).2 k).2
    omega
theorem mud_DT {P : List OR4} {A : TA} {D pl : Nat} (h : A.dn = nI D) (hD : D < 1000000) (hp : pl < 12) : DT P A D pl (mudA P (A.dn + nI pl + 1) 300 1 A) := by
  have hv : A.dn + nI pl + 1 = nI (D + pl + 1) := by rw [h, nI_plus, nI_1]
  rw [hv]
  have hc := (dn_c (P := P) h).1
  have hl := dnC_le (P := P) h
  rcases mud_spec (P := P) (v := nI (D + pl + 1)) 300 1 A with ⟨e, -⟩ | ⟨j, h1, h2, h3, h4⟩
  · exact Or.inl e
  · refine Or.inr ⟨j, h1, h2, ?_, fun k hk => ?_⟩
    · rw [hc, nI_ltI (by have := hl (j + 1); omega) (by omega)] at h3
      omega
    · have := h4 k hk
      rw [hc, nI_ltI (by have := hl (k + 1); omega) (by omega)] at this
      omega
theorem lw768 {S : ZS} {t r u sL M : Nat} {sx : Nat → Int32} {A : TA} {P : List OR4} {K88 : Int32 → Nat → Nat → Int32 → ZS → Option (Int32 × ZS)} {v2 v6 v20 v21 : Int32} {D : Nat} (hM : M ≤ 25) (hD : A.dn = nI D) (hD2 : D < 1000000) (hp : (v20 = -1 ∧ v21 = -1) ∨ ∃ pl, pl < 12 ∧ v20 = nI pl ∧ DT P A D pl v21)
    (hK : ∀ S1, LX S1 t r (minN P M A) (minN P M A) P u → Ret (K88 v2 r t (v6 + 1) S1) S1) (h : LX S t r A A P (u + 700)) : Ret (kL_law_768 sL sx K88 v2 r t v6 (musA P 101 0 A) v20 v21 A.dn (nI M) (lgt (minN P M A) A.N) S) S := by
  unfold kL_law_768
  have hc := dn_c (P := P) hD
  have hl := dnC_le (P := P) hD
  have hmus := mus_spec (P := P) 101 0 A
  have h1 : LX S t r (minN P 0 A) (minN P 0 A) P (u + 25 * M + 5) := h.le (by omega)
  have hsn : ∀ B : TA, snA B ≠ 0 → snA B = 1 := fun B z => (snA_01 (A := B)).resolve_left z
  refine lw771 (t := t) (r := r) (u := u) (M := M) (A := A) (P := P) hM rfl (fun k hk h1 h2 => ?_) (fun k hk hs => ?_) (fun k hk hs1 hs2 => ?_) hK M 0 FU S (by omega) (by unfold FU; omega) h1
  · rcases hp with ⟨-, z⟩ | ⟨pl, q1, q2, q3⟩
    · rw [z] at h1
      exact absurd (by decide) h1
    · rw [hc.1, hD, nI_sub, q2, nI_leI (by have := hl (k + 1); omega) (by omega)]
      rcases q3 with z | ⟨j, z1, z2, z3, z4⟩
      · rw [z] at h1
        exact absurd (by decide) h1
      · rw [z2, nI_ltI (by omega) (by omega)] at h2
        rw [z2, nI_eq (by omega) (by omega)]
        by_cases e : k = j
        · subst e
          omega
        · have := z4 k (by omega)
          omega
  · rcases hmus with ⟨-, z⟩ | ⟨j, z1, z2, z3, z4⟩
    · exact z (k + 1) (by omega)
    · rw [z2] at hs
      exact absurd hs (nI_pos (by omega))
  · rcases hmus with ⟨z, -⟩ | ⟨j, z1, z2, z3, z4⟩
    · rw [z] at hs1
      exact absurd (by decide) hs1
    · rw [z2, Nat.zero_add, nI_ltI (by omega) (by omega)] at hs2
      rw [z2, Nat.zero_add]
      by_cases e : k + 1 = j
      · subst e
        rw [if_pos rfl]
        exact hsn _ z3
      · rw [if_neg (by rw [nI_eq (by omega) (by omega)]; exact e)]
        exact z4 (k + 1) (by omega)
theorem lw705 {S : ZS} {t r u sL : Nat} {sx : Nat → Int32} {A : TA} {P : List OR4} {K88 : Int32 → Nat → Nat → Int32 → ZS → Option (Int32 × ZS)} {v2 v6 v20 v21 : Int32} {D : Nat} (hD : A.dn = nI D) (hD2 : D < 1000000) (hp : (v20 = -1 ∧ v21 = -1) ∨ ∃ pl, pl < A.J ∧ v20 = nI pl ∧ DT P A D pl v21)
    (hK : ∀ M S1, M ≤ 25 → LX S1 t r (minN P M A) (minN P M A) P u → Ret (K88 v2 r t (v6 + 1) S1) S1) (h : LX S t r A A P (u + 702)) : Ret (kL_law_705 sL sx K88 v2 r t v6 (dgA A P) (musA P 101 0 A) v20 v21 S) S := by
  have hJ := h.rc.w.J12
  have hp2 : (v20 = -1 ∧ v21 = -1) ∨ ∃ pl, pl < 12 ∧ v20 = nI pl ∧ DT P A D pl v21 := hp.imp id (fun ⟨pl, q1, q2, q3⟩ => ⟨pl, by omega, q2, q3⟩)
  unfold kL_law_705
  rw [bd_eq]
  refine ret_jobsDone h ?_
  refine lx_next (n := 25) h (by omega) (by omega) (fun j S1 hj h1 => ?_)
  have e1 : 1 + nI j = nI (j + 1) := by rw [Int32.add_comm, nI_1]
  rw [bd_eq, e1]
  refine lx_clR (k := u + 701) h1 (q_lightAfter (n := j + 1) h1.rc h1.good (by omega) (by omega)) (fun S2 h2 _ => ?_)
  refine lx_clI h2 (q_digest h2.rc) (fun S3 h3 _ => ?_)
  have eM : lgt (minN P (j + 1) A) A.N = lgt (minN P (j + 1) A) A.N := rfl
  have hcmp : lg_cmp (dgA A P) (dgA A P) = 0 := by
    unfold lg_cmp
    rw [if_neg (fun z => Int64.lt_irrefl z), if_pos rfl]
  have h9 : ∀ S4, LX S4 t r A A P (u + 700) → Ret (kL_law_768 sL sx K88 v2 r t v6 (musA P 101 0 A) v20 v21 A.dn (nI (j + 1)) (lgt (minN P (j + 1) A) A.N) S4) S4 := fun S4 h4 => lw768 (by omega) hD hD2 hp2 (fun S5 h5 => hK (j + 1) S5 (by omega) h5) h4
  have hne : ¬ v21 = 0 := by
    rcases hp with ⟨-, z⟩ | ⟨pl, q1, q2, z | ⟨i, z1, z2, -⟩⟩
    · rw [z]; decide
    · rw [z]; decide
    · rw [z2]; exact nI_ne0 (by omega) (by omega)
  rw [if_pos hcmp, if_neg hne]
  by_cases e2 : v20 ≤ 0
  · rw [if_pos e2]
    exact h9 S3 (h3.le (by omega))
  · rw [if_neg e2]
    by_cases e3 : v21 ≤ 0
    · rw [if_pos e3]
      exact h9 S3 (h3.le (by omega))
    · rw [if_neg e3]
      obtain ⟨pl, q1, q2, q3⟩ := hp.resolve_left (fun z => e3 (by rw [z.2]; decide))
      obtain ⟨i, z1, z2, z3, z4⟩ := q3.resolve_left (fun z => e3 (by rw [z]; decide))
      have hpl : 0 < pl := by
        rcases Nat.eq_zero_or_pos pl with y | y
        · rw [q2, y] at e2
          exact absurd (by decide) e2
        · exact y
      refine lx_clR (k := u + 700) h3 (q_minutesUntilDone (k := 0) h3.rc h3.good (by omega)) (fun S4 h4 _ => ?_)
      have hlt : mudA P (A.dn + nI 0 + 1) 300 1 A < v21 := by
        have hc := dn_c (P := P) hD
        rcases mud_DT (P := P) (pl := 0) hD hD2 (by omega) with y | ⟨i', y1, y2, y3, y4⟩
        · rw [y, z2, Int32.lt_iff_toInt_lt]
          have := nI_toInt (n := 1 + i) (by omega)
          rw [this, show (-1 : Int32).toInt = -1 from rfl]
          omega
        · rw [y2, z2, nI_ltI (by omega) (by omega)]
          have hi : 0 < i := by
            rcases Nat.eq_zero_or_pos i with w | w
            · subst w
              have := (hc.2 0).2
              have e0 : dnC P A 0 = 0 := rfl
              omega
            · exact w
          obtain ⟨i2, rfl⟩ : ∃ z, i = z + 1 := ⟨i - 1, by omega⟩
          have := (hc.2 (i2 + 1)).2
          rcases Nat.lt_or_ge i2 i' with w | w
          · have := y4 i2 w
            omega
          · omega
      rw [if_pos hlt]
      exact h9 S4 h4
theorem lw688 {S : ZS} {t r u sL : Nat} {sx : Nat → Int32} {A : TA} {P : List OR4} {K88 : Int32 → Nat → Nat → Int32 → ZS → Option (Int32 × ZS)} {v2 v6 v20 : Int32} {D : Nat} (hD : A.dn = nI D) (hD2 : D < 1000000) (hp : v20 = -1 ∨ ∃ pl, pl < A.J ∧ v20 = nI pl)
    (hK : ∀ M S1, M ≤ 25 → LX S1 t r (minN P M A) (minN P M A) P u → Ret (K88 v2 r t (v6 + 1) S1) S1) (h : LX S t r A A P (u + 703)) : Ret (kL_law_688 sL sx K88 v2 r t v6 (dgA A P) (musA P 101 0 A) v20 S) S := by
  have hJ := h.rc.w.J12
  unfold kL_law_688
  rw [bd_eq]
  rcases hp with e | ⟨pl, q1, e⟩
  · rw [e, if_neg (by decide)]
    exact lw705 hD hD2 (Or.inl ⟨rfl, rfl⟩) hK (h.le (by omega))
  · rw [e, if_pos (nI_pos' (by omega))]
    refine lx_clR (k := u + 702) h (q_minutesUntilDone h.rc h.good q1) (fun S1 h1 _ => ?_)
    exact lw705 hD hD2 (Or.inr ⟨pl, q1, rfl, mud_DT hD hD2 (by omega)⟩) hK h1
/-- the end of a step: the best offset, what is told ahead -/
theorem lw518_end {S : ZS} {t r u sL : Nat} {sx : Nat → Int32} {A : TA} {P : List OR4} {K88 : Int32 → Nat → Nat → Int32 → ZS → Option (Int32 × ZS)} {f : Nat} {v2 v6 : Int32} {D : Nat} (hD : A.dn = nI D) (hD2 : D < 1000000)
    (hK : ∀ M S1, M ≤ 25 → LX S1 t r (minN P M A) (minN P M A) P u → Ret (K88 v2 r t (v6 + 1) S1) S1) (h : LX S t r A A P (u + 708)) : Ret (kL_law_518 sL sx K88 (f + 1) v2 r t v6 (dgA A P) (nI A.N) (nI A.J) (nI A.J) S) S := by
  have hJ := h.rc.w.J12
  have hN := h.rc.w.N9
  unfold kL_law_518
  rw [if_pos (Int32.le_refl _)]
  refine lx_next (n := A.N) h h.n0 (by omega) (fun m S1 hm h1 => ?_)
  have hrw := h1.rc.w.rng hm
  refine lx_clR (k := u + 707) h1 (q_offsetOf h1.rc hm) (fun S2 h2 _ => ?_)
  refine lx_clI h2 (q_lightAtEnd h2.rc) (fun S3 h3 _ => ?_)
  refine lx_clR (k := u + 706) h3 (q_bestOffset h3.rc hm) (fun S4 h4 _ => ?_)
  have hb := bst_rng (A := A) (m := m)
  refine lx_clR (k := u + 705) h4 (q_turnMirror h4.rc hm hb.1) (fun S5 h5 _ => ?_)
  rw [if_pos rfl]
  refine lx_clI h5 (q_lightAtEnd h5.rc) (fun S6 h6 _ => ?_)
  have hl : ¬ lgt (turnA A m (bstA A m)) (turnA A m (bstA A m)).N < lgt A A.N := by
    have := hb.2 (A.of m) hrw.2.2
    rw [lo_own] at this
    exact Int32.not_lt.mpr this
  rw [if_neg hl]
  refine lx_clR (k := u + 704) h6 (q_bestOffset h6.rc hm) (fun S7 h7 _ => ?_)
  rw [if_pos bst_turn]
  refine lx_clR (k := u + 703) h7 (q_turnMirror h7.rc hm hrw.2.2) (fun S8 h8 _ => ?_)
  rw [turn_back] at h8
  have e1 : (turnA A m (bstA A m)).of m = bstA A m := updI_eq
  rw [if_pos e1]
  refine lx_clI h8 (q_digest h8.rc) (fun S9 h9 _ => ?_)
  have hcmp : lg_cmp (dgA A P) (dgA A P) = 0 := by
    unfold lg_cmp
    rw [if_neg (fun z => Int64.lt_irrefl z), if_pos rfl]
  rw [if_pos hcmp]
  refine lx_clI h9 (q_minutesUntilSeen h9.rc h9.good) (fun S10 h10 _ => ?_)
  by_cases e2 : nI A.J = 0
  · rw [if_pos e2]
    exact lw688 hD hD2 (Or.inl rfl) hK h10
  · rw [if_neg e2]
    have hJ0 : 0 < A.J := by
      rcases Nat.eq_zero_or_pos A.J with z | z
      · exact absurd (by rw [z]; rfl) e2
      · exact z
    refine lx_next (n := A.J) h10 hJ0 (by omega) (fun pl S11 hpl h11 => ?_)
    exact lw688 hD hD2 (Or.inr ⟨pl, hpl, rfl⟩) hK h11
