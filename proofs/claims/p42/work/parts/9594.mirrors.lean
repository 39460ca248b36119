/-! the law's look at the mirrors, one place of the row behind the other -/
def IsT (S : ZS) (c : Nat) (A : TA) (p : Nat) : Prop := AR S c 300000 A.N ∧ ∀ q, p ≤ q → q < A.N → S.i (c / 2) (A.rw q) = 0
theorem IsT.loo {S S' : ZS} {c p : Nat} {A : TA} (h : IsT S c A p) (l : Loo S S') : IsT S' c A p := by
  obtain ⟨l1, l2, l3, l4⟩ := l
  obtain ⟨⟨a1, a2, a3, a4⟩, h2⟩ := h
  exact ⟨⟨a1, by rw [l1]; exact a2, by rw [l2]; exact a3, a4⟩, fun q h1 h3 => by rw [l3]; exact h2 q h1 h3⟩
def Q3 : Nat → Prop := fun k => 300000 ≤ k ∧ k < 400000
theorem Q3_no : (∀ q, Q3 q → noT q) ∧ ¬ Q3 12 ∧ ¬ Q3 13 ∧ ¬ Q3 14 ∧ ∀ n, ¬ Q3 (500000 + n) := by
  unfold Q3 noT
  refine ⟨fun q h => ?_, by omega, by omega, by omega, fun n => by omega⟩
  omega
theorem IsT.put {S : ZS} {c p : Nat} {A : TA} (h : IsT S c A p) (hA : WA A) (hp : p < A.N) : IsT (S.wi (c / 2) (A.rw p) 1) c A (p + 1) := by
  obtain ⟨h1, h2⟩ := h
  refine ⟨h1, fun q h3 h4 => ?_⟩
  show up S.i (c / 2) (A.rw p) 1 (c / 2) (A.rw q) = 0
  rw [up_slot (fun e => by have := hA.inj h4 hp e; omega)]
  exact h2 q (by omega) h4
theorem lw311 {S : ZS} {t r u sL p : Nat} {sx : Nat → Int32} {A : TA} {P : List OR4} {K154 : Int32 → Nat → Nat → Int32 → Int64 → Int32 → Int32 → Int32 → Nat → Int32 → Int32 → ZS → Option (Int32 × ZS)} {v2 v6 v9 v10 v16 vt0 : Int32} {v7 : Int64} {c : Nat} (hp : p < A.N)
    (hK : ∀ S1, LX S1 t r A A P u → Loo S S1 → Ret (K154 v2 r t v6 v7 v9 v10 (ofS A (p + 1)) c v16 (nI (p + 1)) S1) S1) (h : LX S t r A A P (u + 7)) : Ret (kL_law_311 sL sx K154 v2 r t v6 v7 v9 v10 (ofS A (p + 1)) c (nI p) (nI (A.rw p)) v16 vt0 vt0 S) S := by
  have hm := h.rc.w.lt hp
  obtain ⟨⟨r1, r2⟩, ⟨r3, r4⟩, ⟨r5, r6⟩⟩ := h.rc.w.rng hm
  have hpl : plc A (A.rw p) = p := plc_rw h.rc.w hp
  unfold kL_law_311
  rw [if_pos rfl]
  refine lx_clR (k := u + 6) h (q_clarityOf h.rc hm) (fun S1 h1 l1 => ?_)
  rw [if_neg (Int32.not_lt.mpr r1)]
  refine lx_clR (k := u + 5) h1 (q_clarityOf h1.rc hm) (fun S2 h2 l2 => ?_)
  rw [if_neg (Int32.not_lt.mpr r2)]
  refine lx_clR (k := u + 4) h2 (q_bestClarityOf h2.rc hm) (fun S3 h3 l3 => ?_)
  rw [if_neg (Int32.not_lt.mpr r3)]
  refine lx_clR (k := u + 3) h3 (q_bestClarityOf h3.rc hm) (fun S4 h4 l4 => ?_)
  rw [if_neg (Int32.not_lt.mpr r4)]
  refine lx_clR (k := u + 2) h4 (q_offsetOf h4.rc hm) (fun S5 h5 l5 => ?_)
  rw [if_neg (Int32.not_lt.mpr r5)]
  refine lx_clR (k := u + 1) h5 (q_offsetOf h5.rc hm) (fun S6 h6 l6 => ?_)
  rw [if_neg (Int32.not_lt.mpr r6)]
  refine lx_clR (k := u) h6 (q_tiltBehind h6.rc hm) (fun S7 h7 l7 => ?_)
  rw [hpl, if_pos (tlt_ofS (p + 1)), bd_eq, nI_1]
  exact hK S7 h7 (((((((Loo.trans l1 l2).trans l3).trans l4).trans l5).trans l6).trans l7))
theorem lw283 {S : ZS} {t r u sL p : Nat} {sx : Nat → Int32} {A : TA} {P : List OR4} {K154 : Int32 → Nat → Nat → Int32 → Int64 → Int32 → Int32 → Int32 → Nat → Int32 → Int32 → ZS → Option (Int32 × ZS)} {v2 v6 v9 v10 v16 : Int32} {v7 : Int64} {c : Nat} (hp : p < A.N)
    (hK : ∀ S1, LX S1 t r A A P u → Loo S S1 → Ret (K154 v2 r t v6 v7 v9 v10 (ofS A (p + 1)) c v16 (nI (p + 1)) S1) S1) (h : LX S t r A A P (u + 9)) : Ret (kL_law_283 sL sx K154 v2 r t v6 v7 v9 v10 (ofS A (p + 1)) c (nI p) (nI (A.rw p)) v16 S) S := by
  have hm := h.rc.w.lt hp
  have hN := h.rc.w.N9
  unfold kL_law_283 kL_law_310
  refine lx_clR (k := u + 8) h (q0 (q_isCovered h.rc hm) h.rc) (fun S1 h1 l1 => ?_)
  refine ret_toGo h1 ?_
  by_cases e : A.go ≤ 0
  · rw [if_pos e, cv_none (by omega) e]
    exact lw311 hp (fun S2 h2 l2 => hK S2 h2 (l1.trans l2)) (h1.le (by omega))
  · have hJ := go_J h1.rc.w e
    have hj := (h1.rc.w.jb hJ).1
    rw [if_neg e, cv_job e]
    refine lx_clR (k := u + 7) h1 (q0 (q_mirrorOfJob (k := 0) h1.rc hJ) h1.rc) (fun S2 h2 l2 => ?_)
    by_cases e2 : nI (A.jm 0) = nI (A.rw p)
    · rw [if_pos e2, if_pos e2]
      exact lw311 hp (fun S3 h3 l3 => hK S3 h3 ((l1.trans l2).trans l3)) h2
    · rw [if_neg e2, if_neg e2]
      exact lw311 hp (fun S3 h3 l3 => hK S3 h3 ((l1.trans l2).trans l3)) h2
theorem lw154 {t r u sL : Nat} {sx : Nat → Int32} {A : TA} {P : List OR4} {K88 : Int32 → Nat → Nat → Int32 → ZS → Option (Int32 × ZS)} {v2 v6 : Int32} {D c : Nat} (hD : A.dn = nI D) (hD2 : D < 1000000)
    (hK : ∀ M S1, M ≤ 25 → LX S1 t r (minN P M A) (minN P M A) P u → Ret (K88 v2 r t (v6 + 1) S1) S1) : ∀ (d p f : Nat) (S : ZS), A.N = p + d → d < f → IsT S c A p → LX S t r A A P (u + 1284 + 22 * d) → Ret (kL_law_154 sL sx K88 f v2 r t v6 (dgA A P) (nI A.N) (10000 - lgt A p) (ofS A p) c (lgt A p) (nI p) S) S := by
  intro d
  induction d with
  | zero =>
    intro p f S hd hf ht h
    obtain ⟨f, rfl⟩ : ∃ z, f = z + 1 := ⟨f - 1, by omega⟩
    obtain rfl : A.N = p := by omega
    have hJ := h.rc.w.J12
    unfold kL_law_154
    rw [if_pos (Int32.le_refl _), q_jobs h.rc, some_bind]
    refine lx_clI h (q_lightAtEnd h.rc) (fun S1 h1 _ => ?_)
    rw [if_pos lost_end]
    refine lx_clI h1 (q_tiltAtEnd h1.rc) (fun S2 h2 _ => ?_)
    rw [if_pos (tlt_ofS A.N), if_neg (nI_pos (by omega)), if_neg (by
      rw [show (12 : Int32) = nI 12 from rfl, nI_ltI (by omega) (by omega)]
      omega)]
    refine ret_toGo h2 ?_
    by_cases e : A.go ≤ 0
    · rw [if_pos e]
      exact lw455 hD hD2 hK h2
    · rw [if_neg e, if_neg (nI_ne0 (go_J h2.rc.w e) (by omega))]
      exact lw455 hD hD2 hK h2
  | succ d ih =>
    intro p f S hd hf ht h
    obtain ⟨f, rfl⟩ : ∃ z, f = z + 1 := ⟨f - 1, by omega⟩
    have hA := h.rc.w
    have hN := hA.N9
    have hp : p < A.N := by omega
    have hm := hA.lt hp
    have hpl : plc A (A.rw p) = p := plc_rw hA hp
    have hr1 := lgt_rng hA (p + 1) (by omega)
    have hst := lgt_step hA hp (lgt_rng hA p (by omega))
    unfold kL_law_154
    rw [if_neg (by rw [nI_leI (by omega) (by omega)]; omega)]
    refine lx_clR (k := u + 1284 + 22 * d + 21) (h.le (by omega)) (q0 (q_mirrorAt h.rc hp) h.rc) (fun S1 h1 l1 => ?_)
    have t1 := ht.loo l1
    rw [aG_n t1.1 hm, t1.2 p (Nat.le_refl _) hp, if_pos rfl]
    refine lx_clR (k := u + 1284 + 22 * d + 20) h1 (q0 (q_placeOf h1.rc hm) h1.rc) (fun S2 h2 l2 => ?_)
    have t2 := t1.loo l2
    rw [hpl, if_pos rfl, aP_n t2.1 hm]
    have t3 := t2.put hA hp
    have s3 : Ste Q3 0 0 S2 (S2.wi (c / 2) (A.rw p) 1) := Ste.wi (fun _ => by
      rw [t2.1.2.2.1]
      unfold Q3
      omega)
    have h3 : LX (S2.wi (c / 2) (A.rw p) 1) t r A A P (u + 1284 + 22 * d + 20) := h2.ste s3 Q3_no h2.rm
    obtain ⟨S3, eS3⟩ : ∃ z, z = S2.wi (c / 2) (A.rw p) 1 := ⟨_, rfl⟩
    rw [← eS3] at t3 h3 ⊢
    have hle : S3.c ≤ S2.c ∧ S3.w ≤ S2.w := by rw [eS3]; exact ⟨Nat.le_refl _, Nat.le_refl _⟩
    refine Ret.mono ?_ hle.1 hle.2
    refine lx_clR (k := u + 1284 + 22 * d + 19) h3 (q_lightBehind h3.rc hm) (fun S4 h4 l4 => ?_)
    refine lx_clR (k := u + 1284 + 22 * d + 18) h4 (q_lostAt h4.rc hm) (fun S5 h5 l5 => ?_)
    rw [hpl, bd_eq, ← ls_eq, lost_step]
    refine lx_clR (k := u + 1284 + 22 * d + 17) h5 (q_offsetOf h5.rc hm) (fun S6 h6 l6 => ?_)
    have eo : ofS A p + A.of (A.rw p) = ofS A (p + 1) := rfl
    have n1 : ¬ lgt A (p + 1) < 0 := by
      rw [Int32.lt_iff_toInt_lt, show (0 : Int32).toInt = 0 from rfl]
      omega
    have n2 : ¬ lgt A p < lgt A (p + 1) := by
      rw [Int32.lt_iff_toInt_lt]
      omega
    rw [bd_eq, eo, if_neg n1, if_neg n2]
    refine lx_clR (k := u + 1284 + 22 * d + 16) h6 (q_lostAt h6.rc hm) (fun S7 h7 l7 => ?_)
    rw [hpl, if_pos ls_eq.symm]
    refine lx_clR (k := u + 1284 + 22 * d + 15) h7 (q_lostAt h7.rc hm) (fun S8 h8 l8 => ?_)
    refine lx_clR (k := u + 1284 + 22 * d + 14) h8 (q_worstMirror h8.rc h8.n0) (fun S9 h9 l9 => ?_)
    have hz : wstA A (A.N - 1) 1 0 < A.N := wstA_lt (A.N - 1) 1 0 (by omega) (by omega)
    have hzm := hA.lt hz
    have hpz : plc A (A.rw (wstA A (A.N - 1) 1 0)) = wstA A (A.N - 1) 1 0 := plc_rw hA hz
    refine lx_clR (k := u + 1284 + 22 * d + 13) h9 (q_lostAt h9.rc hzm) (fun S10 h10 l10 => ?_)
    have n3 : ¬ lgt A (wstA A (A.N - 1) 1 0) - lgt A (wstA A (A.N - 1) 1 0 + 1) < lgt A p - lgt A (p + 1) := Int32.not_lt.mpr (wst_top (A := A) (by omega) hp)
    rw [hpz, hpl, if_neg n3]
    refine lx_clR (k := u + 1284 + 22 * d + 12) h10 (q0 (q_isCovered h10.rc hm) h10.rc) (fun S11 h11 l11 => ?_)
    have tend : ∀ S12, Loo S11 S12 → IsT S12 c A (p + 1) := fun S12 l12 => t3.loo ((((((((((Loo.trans l4 l5).trans l6).trans l7).trans l8).trans l9).trans l10).trans l11).trans l12)))
    have go : Ret (kL_law_283 sL sx (kL_law_154 sL sx K88 f) v2 r t v6 (dgA A P) (nI A.N) (10000 - lgt A (p + 1)) (ofS A (p + 1)) c (nI p) (nI (A.rw p)) (lgt A (p + 1)) S11) S11 :=
      lw283 (u := u + 1284 + 22 * d) hp (fun S12 h12 l12 => ih (p + 1) f S12 (by omega) (by omega) (tend S12 l12) h12) (h11.le (by omega))
    by_cases e : cvA A (A.rw p) = 0
    · rw [if_pos e]
      exact go
    · rw [if_neg e, if_neg (by rw [cv_dark e]; decide)]
      exact go
