/-! no job twice; what is seen -/
theorem lw528 {t r u sL k : Nat} {sx : Nat → Int32} {A : TA} {P : List OR4} {K518 : Int32 → Nat → Nat → Int32 → Int64 → Int32 → Int32 → Int32 → ZS → Option (Int32 × ZS)} {v2 v6 v9 v14 : Int32} {v7 : Int64} (hk : k < A.J) (hK : ∀ S1, LX S1 t r A A P u → Ret (K518 v2 r t v6 v7 v9 v14 (nI (k + 1)) S1) S1) : ∀ (d o f : Nat) (S : ZS), k = o + d → d < f → LX S t r A A P (u + 4 * d) → Ret (kL_law_528 sL sx K518 f v2 r t v6 v7 v9 v14 (nI k) (nI o) S) S := by
  intro d
  induction d with
  | zero =>
    intro o f S hd hf h
    obtain ⟨f, rfl⟩ : ∃ z, f = z + 1 := ⟨f - 1, by omega⟩
    obtain rfl : k = o := by omega
    unfold kL_law_528
    rw [if_pos (Int32.le_refl _), bd_eq, nI_1]
    exact hK S h
  | succ d ih =>
    intro o f S hd hf h
    obtain ⟨f, rfl⟩ : ∃ z, f = z + 1 := ⟨f - 1, by omega⟩
    have hJ := h.rc.w.J12
    have hno := h.rc.w.2.2.2.2.2.2.1 o k (by omega) hk
    have ho : o < A.J := by omega
    have hN := h.rc.w.N9
    unfold kL_law_528
    rw [if_neg (by rw [nI_leI (by omega) (by omega)]; omega)]
    refine lx_clR (k := u + 4 * d + 3) (h.le (by omega)) (q0 (q_kindOfJob h.rc hk) h.rc) (fun S1 h1 _ => ?_)
    refine lx_clR (k := u + 4 * d + 2) h1 (q0 (q_kindOfJob h1.rc ho) h1.rc) (fun S2 h2 _ => ?_)
    by_cases e : A.jk k = A.jk o
    · rw [if_pos e]
      refine lx_clR (k := u + 4 * d + 1) h2 (q0 (q_mirrorOfJob h2.rc hk) h2.rc) (fun S3 h3 _ => ?_)
      refine lx_clR (k := u + 4 * d) h3 (q0 (q_mirrorOfJob h3.rc ho) h3.rc) (fun S4 h4 _ => ?_)
      have a1 := (h.rc.w.jb hk).1
      have a2 := (h.rc.w.jb ho).1
      rw [if_neg (fun z => hno ⟨e.symm, (nI_inj (by omega) (by omega) z).symm⟩), bd_eq, nI_1]
      exact ih (o + 1) f S4 (by omega) (by omega) h4
    · rw [if_neg e, bd_eq, nI_1]
      exact ih (o + 1) f S2 (by omega) (by omega) (h2.le (by omega))
theorem lw518 {t r u sL : Nat} {sx : Nat → Int32} {A : TA} {P : List OR4} {K88 : Int32 → Nat → Nat → Int32 → ZS → Option (Int32 × ZS)} {v2 v6 : Int32} {D : Nat} (hD : A.dn = nI D) (hD2 : D < 1000000)
    (hK : ∀ M S1, M ≤ 25 → LX S1 t r (minN P M A) (minN P M A) P u → Ret (K88 v2 r t (v6 + 1) S1) S1) : ∀ (d k f : Nat) (S : ZS), A.J = k + d → d < f → LX S t r A A P (u + 708 + 48 * d) → Ret (kL_law_518 sL sx K88 f v2 r t v6 (dgA A P) (nI A.N) (nI A.J) (nI k) S) S := by
  intro d
  induction d with
  | zero =>
    intro k f S hd hf h
    obtain ⟨f, rfl⟩ : ∃ z, f = z + 1 := ⟨f - 1, by omega⟩
    obtain rfl : A.J = k := by omega
    exact lw518_end hD hD2 hK h
  | succ d ih =>
    intro k f S hd hf h
    obtain ⟨f, rfl⟩ : ∃ z, f = z + 1 := ⟨f - 1, by omega⟩
    have hJ := h.rc.w.J12
    unfold kL_law_518
    rw [if_neg (by rw [nI_leI (by omega) (by omega)]; omega)]
    exact lw528 (u := u + 708 + 48 * d) (k := k) (A := A) (P := P) (by omega) (fun S1 h1 => ih (k + 1) f S1 (by omega) (by omega) h1) k 0 FU S (by omega) (by unfold FU; omega) (h.le (by omega))
theorem mus_0 {P : List OR4} {A : TA} : musA P 101 0 A = 0 ↔ snA A ≠ 0 := by
  unfold musA
  by_cases e : snA A = 0
  · rw [if_pos e]
    refine ⟨fun z => ?_, fun z => absurd e z⟩
    rcases mus_spec (P := P) 100 (0 + 1) (minA P A) with ⟨y, -⟩ | ⟨j, h1, y, -⟩
    · rw [y] at z
      exact absurd z (by decide)
    · rw [y] at z
      exact absurd z (nI_ne0 (by omega) (by omega))
  · rw [if_neg e]
    exact ⟨fun _ => e, fun _ => rfl⟩
theorem lw506 {S : ZS} {t r u sL : Nat} {sx : Nat → Int32} {A : TA} {P : List OR4} {K88 : Int32 → Nat → Nat → Int32 → ZS → Option (Int32 × ZS)} {v2 v6 vt0 : Int32} {D : Nat} (hD : A.dn = nI D) (hD2 : D < 1000000)
    (hK : ∀ M S1, M ≤ 25 → LX S1 t r (minN P M A) (minN P M A) P u → Ret (K88 v2 r t (v6 + 1) S1) S1) (h : LX S t r A A P (u + 1284)) (hv : vt0 = snA A) : Ret (kL_law_506 sL sx K88 v2 r t v6 (dgA A P) (nI A.N) (nI A.J) vt0 S) S := by
  have hJ := h.rc.w.J12
  unfold kL_law_506
  refine lx_clI h (q_isSeen h.rc) (fun S1 h1 _ => ?_)
  rw [if_pos hv]
  exact lw518 hD hD2 hK A.J 0 FU S1 (by omega) (by unfold FU; omega) (h1.le (by omega))
theorem lw491 {S : ZS} {t r u sL : Nat} {sx : Nat → Int32} {A : TA} {P : List OR4} {K88 : Int32 → Nat → Nat → Int32 → ZS → Option (Int32 × ZS)} {v2 v6 vt0 : Int32} {D : Nat} (hD : A.dn = nI D) (hD2 : D < 1000000)
    (hK : ∀ M S1, M ≤ 25 → LX S1 t r (minN P M A) (minN P M A) P u → Ret (K88 v2 r t (v6 + 1) S1) S1) (h : LX S t r A A P (u + 1284)) (hv : snA A = vt0) : Ret (kL_law_491 sL sx K88 v2 r t v6 (dgA A P) (nI A.N) (nI A.J) vt0 (snA A) S) S := by
  unfold kL_law_491
  rw [if_pos hv]
  refine lx_clI h (q_minutesUntilSeen h.rc h.good) (fun S1 h1 _ => ?_)
  have hm := mus_0 (P := P) (A := A)
  by_cases e : musA P 101 0 A = 0
  · rw [if_pos e]
    exact lw506 hD hD2 hK h1 ((snA_01 (A := A)).resolve_left (hm.mp e)).symm
  · rw [if_neg e]
    refine lw506 hD hD2 hK h1 ?_
    rcases snA_01 (A := A) with z | z
    · exact z.symm
    · exact absurd (hm.mpr (by rw [z]; decide)) e
theorem lw455 {S : ZS} {t r u sL : Nat} {sx : Nat → Int32} {A : TA} {P : List OR4} {K88 : Int32 → Nat → Nat → Int32 → ZS → Option (Int32 × ZS)} {v2 v6 : Int32} {D : Nat} (hD : A.dn = nI D) (hD2 : D < 1000000)
    (hK : ∀ M S1, M ≤ 25 → LX S1 t r (minN P M A) (minN P M A) P u → Ret (K88 v2 r t (v6 + 1) S1) S1) (h : LX S t r A A P (u + 1284)) : Ret (kL_law_455 sL sx K88 v2 r t v6 (dgA A P) (nI A.N) (nI A.J) S) S := by
  unfold kL_law_455
  refine lx_clI h (q_isSeen h.rc) (fun S1 h1 _ => ?_)
  refine lx_clI h1 (q_lightAtEnd h1.rc) (fun S2 h2 _ => ?_)
  rw [gI_o h2.tt.o, h2.tt.lim]
  have hs : snA A = if lgt A A.N < A.lim then 0 else if wi A.W (tlt A A.N) = 0 then 0 else 1 := rfl
  unfold kL_law_490
  by_cases e : lgt A A.N < A.lim
  · rw [if_pos e]
    rw [if_pos e] at hs
    exact lw491 hD hD2 hK h2 hs
  · rw [if_neg e]
    rw [if_neg e] at hs
    refine lx_clI h2 (q_tiltAtEnd h2.rc) (fun S3 h3 _ => ?_)
    rw [bd_eq, gI_o h3.tt.o, h3.tt.W]
    have ha := abs_wi h3.rc.w h3.ww
    by_cases e2 : wi A.W (tlt A A.N) = 0
    · rw [if_pos (ha.mpr e2)]
      rw [if_pos e2] at hs
      exact lw491 hD hD2 hK h3 hs
    · rw [if_neg (fun z => e2 (ha.mp z))]
      rw [if_neg e2] at hs
      exact lw491 hD hD2 hK h3 hs
