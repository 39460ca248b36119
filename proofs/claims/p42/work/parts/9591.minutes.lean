/-! the law's own minutes, looked at one by one -/
theorem lw884 {S : ZS} {t r u sL : Nat} {sx : Nat → Int32} {B : TA} {P : List OR4} {K771 : Int32 → Nat → Nat → Int32 → Int32 → Int32 → Int32 → Int32 → Int32 → Int32 → Int32 → ZS → Option (Int32 × ZS)} {v2 v6 v19 v20 v21 v22 v23 v24 v25 : Int32} {v3 v5 : Nat} (h : LX S t r B B P u) (hd : ¬ v21 ≤ 0 → ¬ v21 < v25 → (B.dn - v22 ≤ v20 ↔ ¬ v25 = v21)) (hk : Ret (K771 v2 v3 v5 v6 v19 v20 v21 v22 v23 v24 (v25 + 1) S) S) : Ret (kL_law_884 sL sx K771 v2 v3 v5 v6 v19 v20 v21 v22 v23 v24 v25 S) S := by
  unfold kL_law_884
  by_cases e1 : v21 ≤ 0
  · rw [if_pos e1, bd_eq]
    exact hk
  · rw [if_neg e1]
    by_cases e2 : v21 < v25
    · rw [if_pos e2, bd_eq]
      exact hk
    · rw [if_neg e2]
      refine ret_jobsDone h ?_
      have hh := hd e1 e2
      unfold kL_law_913 kL_law_925
      by_cases e3 : v25 = v21
      · rw [if_neg (fun z => (hh.mp z) e3), if_pos e3, if_pos rfl, bd_eq]
        exact hk
      · rw [if_pos (hh.mpr e3), if_neg e3, if_pos rfl, bd_eq]
        exact hk
theorem lw870 {S : ZS} {t r u sL : Nat} {sx : Nat → Int32} {B : TA} {P : List OR4} {K771 : Int32 → Nat → Nat → Int32 → Int32 → Int32 → Int32 → Int32 → Int32 → Int32 → Int32 → ZS → Option (Int32 × ZS)} {v2 v6 v19 v20 v21 v22 v23 v24 v25 : Int32} {v3 v5 : Nat} (h : LX S t r B B P u) (hd : ¬ v21 ≤ 0 → ¬ v21 < v25 → (B.dn - v22 ≤ v20 ↔ ¬ v25 = v21)) (hn : v19 < 0 → snA B = 0) (hk : ∀ S', LX S' t r B B P u → Ret (K771 v2 v3 v5 v6 v19 v20 v21 v22 v23 v24 (v25 + 1) S') S') : Ret (kL_law_870 sL sx K771 v2 v3 v5 v6 v19 v20 v21 v22 v23 v24 v25 S) S := by
  unfold kL_law_870
  by_cases e : 0 ≤ v19
  · rw [if_pos e]
    exact lw884 h hd (hk S h)
  · rw [if_neg e]
    refine lx_clI h (q_isSeen h.rc) (fun S1 h1 _ => ?_)
    rw [if_pos (hn (Int32.not_le.mp e))]
    exact lw884 h1 hd (hk S1 h1)
theorem lw839 {S : ZS} {t r u sL : Nat} {sx : Nat → Int32} {B : TA} {P : List OR4} {K771 : Int32 → Nat → Nat → Int32 → Int32 → Int32 → Int32 → Int32 → Int32 → Int32 → Int32 → ZS → Option (Int32 × ZS)} {v2 v6 v19 v20 v21 v22 v23 v24 v25 : Int32} {v3 v5 : Nat} (h : LX S t r B B P u) (hd : ¬ v21 ≤ 0 → ¬ v21 < v25 → (B.dn - v22 ≤ v20 ↔ ¬ v25 = v21)) (hn : v19 < 0 → snA B = 0) (hs : ¬ v19 ≤ 0 → ¬ v19 < v25 → snA B = if v25 = v19 then 1 else 0) (hk : ∀ S', LX S' t r B B P u → Ret (K771 v2 v3 v5 v6 v19 v20 v21 v22 v23 v24 (v25 + 1) S') S') : Ret (kL_law_839 sL sx K771 v2 v3 v5 v6 v19 v20 v21 v22 v23 v24 v25 S) S := by
  unfold kL_law_839
  by_cases e1 : v19 ≤ 0
  · rw [if_pos e1]
    exact lw870 h hd hn hk
  · rw [if_neg e1]
    by_cases e2 : v19 < v25
    · rw [if_pos e2]
      exact lw870 h hd hn hk
    · rw [if_neg e2]
      refine lx_clI h (q_isSeen h.rc) (fun S1 h1 _ => ?_)
      have hh := hs e1 e2
      unfold kL_law_867
      by_cases e3 : v25 = v19
      · rw [if_pos e3] at hh
        rw [if_pos e3, hh, if_pos rfl]
        exact lw870 h1 hd hn hk
      · rw [if_neg e3] at hh
        rw [if_neg e3, hh, if_pos rfl]
        exact lw870 h1 hd hn hk
theorem dnm_eq {P : List OR4} {B : TA} : (minA P B).dn - B.dn = dnm P B := by
  rw [minA_dn.1, Int32.add_comm, Int32.add_sub_cancel]
theorem go_done {P : List OR4} {B : TA} (h : dnm P B = 1) : (minA P B).go = 0 := by
  unfold dnm dnv at h
  show (workA (P.foldl carO B)).go = 0
  unfold workA
  by_cases e : (P.foldl carO B).J = 0
  · rw [if_pos e] at h
    exact absurd h (by decide)
  · rw [if_neg e] at h ⊢
    by_cases e2 : goA (P.foldl carO B) - 1 = 0
    · rw [if_pos e2]
      unfold finA
      split
      · rfl
      · split <;> rfl
    · rw [if_neg e2] at h
      exact absurd h (by decide)
theorem minN_1 {P : List OR4} {A : TA} : minN P 1 A = minA P A := rfl
/-- the class and the law's train live a minute -/
theorem lx_pass {S : ZS} {t r k : Nat} {B : TA} {P : List OR4} {f : Int32 → ZS → Option (Int32 × ZS)} (h : LX S t r B (minA P B) P (k + 23)) (hw : WA B) (K : ∀ S', LX S' t r (minA P B) (minA P B) P k → Ret (f (dnm P B) S') S') : Ret (rcv S t 14 (b2 Prod.snd (kX12_pass t S) f)) S := by
  obtain ⟨m1, m2⟩ := h.rm
  obtain ⟨S1, e1, s1, t1, r1⟩ := k_pass h.tt hw h.ww h.oa h.rc.p.1 (by omega) (by omega)
  have hc := s1.2.2.2
  rw [rcv_o h.tt.o]
  refine ret_b2 e1 (by omega) (by omega) (K S1 ⟨t1, ?_, by rw [s1.1]; exact h.rc, h.ww.min, by rw [minA_N]; exact h.n0, h.ob.ste s1, ⟨by omega, by omega⟩⟩)
  rw [minA_N]
  exact h.oa.ste s1 r1
theorem lw771 {t r u sL M : Nat} {sx : Nat → Int32} {A : TA} {P : List OR4} {K88 : Int32 → Nat → Nat → Int32 → ZS → Option (Int32 × ZS)} {v2 v6 v19 v20 v21 v22 v24 : Int32} (hM : M ≤ 25) (hdue : v24 = lgt (minN P M A) A.N)
    (hd : ∀ k, k < M → ¬ v21 ≤ 0 → ¬ v21 < nI (k + 1) → ((minN P (k + 1) A).dn - v22 ≤ v20 ↔ ¬ nI (k + 1) = v21))
    (hn : ∀ k, k < M → v19 < 0 → snA (minN P (k + 1) A) = 0) (hs : ∀ k, k < M → ¬ v19 ≤ 0 → ¬ v19 < nI (k + 1) → snA (minN P (k + 1) A) = if nI (k + 1) = v19 then 1 else 0)
    (hK : ∀ S1, LX S1 t r (minN P M A) (minN P M A) P u → Ret (K88 v2 r t (v6 + 1) S1) S1) : ∀ (d p f : Nat) (S : ZS), M = p + d → d < f → LX S t r (minN P p A) (minN P p A) P (u + 25 * d + 5) → Ret (kL_law_771 sL sx K88 f v2 r t v6 v19 v20 v21 v22 (nI M) v24 (nI (p + 1)) S) S := by
  intro d
  induction d with
  | zero =>
    intro p f S hp hf h
    obtain ⟨f, rfl⟩ : ∃ z, f = z + 1 := ⟨f - 1, by omega⟩
    obtain rfl : M = p := by omega
    unfold kL_law_771
    rw [if_pos ((nI_ltI (by omega) (by omega)).mpr (Nat.lt_succ_self M))]
    refine lx_clI h (q_lightAtEnd h.rc) (fun S1 h1 _ => ?_)
    rw [if_pos (by rw [hdue, minN_N])]
    refine lx_clI h1 (q_bestToClean h1.rc) (fun S2 h2 _ => ?_)
    rcases btc_ok (A := minN P M A) with e | ⟨m, hm, e, hl⟩
    · rw [e, if_pos (by decide), bd_eq]
      exact hK S2 (h2.le (by omega))
    · have hN := h2.rc.w.N9
      rw [e, if_neg (nI_pos (by omega))]
      refine lx_clR (k := u + 4) (h2.le (by omega)) (q_clarityOf h2.rc hm) (fun S3 h3 _ => ?_)
      refine lx_clR (k := u + 3) h3 (q_bestClarityOf h3.rc hm) (fun S4 h4 _ => ?_)
      rw [if_pos (btc_clean hl), bd_eq]
      exact hK S4 (h4.le (by omega))
  | succ d ih =>
    intro p f S hp hf h
    obtain ⟨f, rfl⟩ : ∃ z, f = z + 1 := ⟨f - 1, by omega⟩
    have hpM : p < M := by omega
    unfold kL_law_771
    rw [if_neg (by rw [nI_ltI (by omega) (by omega)]; omega)]
    refine ret_jobsDone h ?_
    have hwB : WA (minN P p A) := h.rc.w
    have hg : ∀ o, o ∈ P → goodO (minN P p A).N o := h.good
    refine lx_clR (B' := minA P (minN P p A)) (v := (minA P (minN P p A)).dn - (minN P p A).dn) (k := u + 25 * d + 5 + 23) (h.le (by omega)) (q_passMinutes (n := 1) h.rc hg (by omega) (by omega)) (fun S1 h1 _ => ?_)
    refine lx_pass h1 hwB (fun S2 h2 => ?_)
    rw [dnm_eq, if_pos rfl]
    have h01 : dnm P (minN P p A) = 0 ∨ dnm P (minN P p A) = 1 := dnv_01
    have e3 : minA P (minN P p A) = minN P (p + 1) A := (minN_succ p A).symm
    have hend : LX S2 t r (minA P (minN P p A)) (minA P (minN P p A)) P (u + 25 * d + 5) → Ret (kL_law_839 sL sx (kL_law_771 sL sx K88 f) v2 r t v6 v19 v20 v21 v22 (nI M) v24 (nI (p + 1)) S2) S2 := by
      intro h2
      rw [e3] at h2
      refine lw839 h2 (hd p hpM) (hn p hpM) (hs p hpM) (fun S3 h3 => ?_)
      have e4 : nI (p + 1) + 1 = nI (p + 1 + 1) := nI_1 _
      rw [e4]
      refine ih (p + 1) f S3 (by omega) (by omega) (h3.le ?_)
      omega
    have hd2 : (minA P (minN P p A)).dn = (minN P p A).dn + dnm P (minN P p A) := minA_dn.1
    rcases h01 with e | e
    · rw [if_neg (by rw [e]; decide), if_neg (by rw [e]; decide)]
      refine ret_jobsDone h2 ?_
      rw [if_pos hd2, if_neg (by rw [e]; decide)]
      exact hend h2
    · rw [if_neg (by rw [e]; decide), if_neg (by rw [e]; decide)]
      refine ret_jobsDone h2 ?_
      rw [if_pos hd2, if_pos e]
      refine ret_toGo h2 ?_
      rw [if_pos (by rw [go_done e]; decide)]
      exact hend h2
