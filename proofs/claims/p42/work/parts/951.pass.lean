/-! the law's minute -/
theorem fin_k {A : TA} {k : Int32} {m : Nat} (hk : k = 0 ∨ k = 1 ∨ k = 2) : (if k = 0 then finA A 0 m else if k = 2 then finA A 2 m else turnA A m 0) = finA A k m := by
  rcases hk with rfl | rfl | rfl
  · rfl
  · rfl
  · rfl
theorem take_go {B : TA} {v : Int32} : takeA (B.sGo v) 0 = takeA B 0 := rfl
theorem go_le {x : Int32} (h : 0 < x) : x - 1 ≤ 0 ↔ x - 1 = 0 := by
  constructor
  · intro z
    exact Int32.le_antisymm z (Int32.not_lt.mp (sub1_pos h))
  · intro z
    rw [z]
    decide
theorem pass129 {S : ZS} {t : Nat} {B : TA} (h : TT S t B) (hA : WA B) (hJ : B.J ≠ 0) (hgo : 0 < B.go) (hc : 1 ≤ S.c) (hw : 12 ≤ S.w) : ∃ S', kX12_pass_129 t (S.r (S.r (t / 2) 2 / 2) (B.jm 0)) S = some (if B.go - 1 = 0 then 1 else 0, S') ∧ Ste QM 1 11 S S' ∧ TT S' t (if B.go - 1 = 0 then finA ((takeA B 0).sDn (B.dn + 1)) (B.jk 0) (B.jm 0) else B.sGo (B.go - 1)) ∧ S'.r (t / 2) 8 = S.r (t / 2) 8 := by
  have h0 : 0 < B.J := by omega
  obtain ⟨hm, hk⟩ := hA.jb h0
  have h1 := h.sgo (v := B.go - 1)
  have hA1 : WA (B.sGo (B.go - 1)) := hA.go hJ (sub1_pos hgo)
  obtain ⟨S1, eS1⟩ : ∃ z, z = S.wi (t / 2) 5 (B.go - 1) := ⟨_, rfl⟩
  have s1 : Ste QM 0 0 S S1 := by rw [eS1]; exact Ste.wi (fun _ => by rw [h.o.2.2]; exact Or.inl rfl)
  have hr1 : S1.r = S.r := by rw [eS1]; rfl
  rw [← eS1] at h1
  unfold kX12_pass_129
  rw [gI_o h.o, h.go, pI_o h.o, ← eS1, gI_o h1.o, h1.go]
  show ∃ S', (if B.go - 1 ≤ 0 then _ else some (0, S1)) = _ ∧ _
  by_cases e : B.go - 1 = 0
  · rw [if_pos ((go_le hgo).mpr e), if_pos e, if_pos e]
    obtain ⟨c, S2, k1, k2, k3, k4, k5⟩ := k_take (i := 0) h1 hA1 h0 (by rw [eS1]; exact hc) (by rw [eS1]; exact hw)
    rw [take_go] at k3
    have k1 : kX12_take t 0 S1 = some (c, S2) := k1
    have h3 := k3.sdn (v := B.dn + 1)
    obtain ⟨S3, eS3⟩ : ∃ z, z = S2.wi (t / 2) 7 (B.dn + 1) := ⟨_, rfl⟩
    rw [← eS3] at h3
    have s3 : Ste QM 0 0 S2 S3 := by rw [eS3]; exact Ste.wi (fun _ => by rw [k3.o.2.2]; exact Or.inl rfl)
    have hm3 : S3.r (S3.r (t / 2) 2 / 2) (B.jm 0) = S.r (S.r (t / 2) 2 / 2) (B.jm 0) := by
      have e1 : S3.r = S2.r := by rw [eS3]; rfl
      have e2 : S2.r (t / 2) 2 = S.r (t / 2) 2 := by rw [k4 2 (by decide), hr1]
      have e3 : S2.r (S.r (t / 2) 2 / 2) = S.r (S.r (t / 2) 2 / 2) := by
        have ha : AR S1 (S.r (t / 2) 2) 400000 B.N := by rw [eS1]; exact h.am
        rw [((k2.2.2.1 _ ha.2.1).2 (by rw [ha.2.2.1]; unfold QT; omega)).2, hr1]
      rw [e1, e2, e3]
    obtain ⟨j1, j2, j3⟩ := k5
    have hj3 : AR S3 c 100000 2 ∧ S3.i (c / 2) 0 = B.jk 0 := by
      refine ⟨by rw [eS3]; exact j1, ?_⟩
      rw [eS3]
      show up S2.i (t / 2) 7 (B.dn + 1) (c / 2) 0 = _
      rw [up_ne (j1.neO k3.o (by omega))]
      exact j2
    have hA3 : WA ((takeA B 0).sDn (B.dn + 1)) := (hA.take h0).sdn
    obtain ⟨S', f1, f2, f3, f4⟩ := pass_fin h3 hA3 (m := B.jm 0) hm hj3
    rw [hm3] at f1
    refine ⟨S', ?_, (((s1.trans (k2.mono QT_QM (Nat.le_refl _) (Nat.le_refl _))).trans s3).trans f2).mono (fun _ z => z) (by omega) (by omega), f3.eqA (fin_k hk), ?_⟩
    · rw [rcv_o h1.o, k1, b2_s]
      have hle : S'.c ≤ S2.c ∧ S'.w ≤ S2.w := by
        have := (s3.trans f2)
        exact ⟨this.2.2.2.1, this.2.2.2.2.2.1⟩
      refine chk_of ?_ hle.1 hle.2
      have hdn : S2.i (t / 2) 7 = B.dn := k3.dn
      rw [gI_o k3.o, hdn, pI_o k3.o, ← eS3]
      exact f1
    · rw [f4, eS3]
      show S2.r (t / 2) 8 = _
      rw [k4 8 (by decide), hr1]
  · rw [if_neg (fun z => e ((go_le hgo).mp z)), if_neg e, if_neg e]
    exact ⟨S1, rfl, s1.mono (fun _ z => z) (by omega) (by omega), h1, by rw [hr1]⟩
/-- the orders of the law's train -/
def OA (N : Nat) (S : ZS) (t : Nat) (P : List OR4) : Prop := AR S (S.r (t / 2) 8) 500000 P.length ∧ ∀ k o, P[k]? = some o → OS N S (S.r (S.r (t / 2) 8 / 2) k) o
theorem OA.ste {N : Nat} {x y : Nat} {S S' : ZS} {t : Nat} {P : List OR4} (h : OA N S t P) (s : Ste QM x y S S') (h8 : S'.r (t / 2) 8 = S.r (t / 2) 8) : OA N S' t P := by
  obtain ⟨h1, h2⟩ := h
  refine ⟨by rw [h8]; exact h1.ste s, fun k o hk => ?_⟩
  rw [h8, ((s.2.2.1 _ h1.2.1).2 (by rw [h1.2.2.1]; unfold QM; omega)).2]
  exact (h2 k o hk).ste s ⟨QM_no.1, QM_no.2.1⟩
theorem OA.good {N : Nat} {S : ZS} {t : Nat} {P : List OR4} (h : OA N S t P) : ∀ o, o ∈ P → goodO N o := by
  intro o ho
  obtain ⟨k, hk, e⟩ := List.getElem_of_mem ho
  exact (h.2 k o (by rw [← e]; exact List.getElem?_eq_getElem hk)).good
def dnv (B : TA) : Int32 := if B.J = 0 then 0 else if goA B - 1 = 0 then 1 else 0
theorem work_mi {B : TA} {v : Int32} : workA (B.sMi v) = (workA B).sMi v := by
  unfold workA
  show (if B.J = 0 then B.sMi v else if goA B - 1 = 0 then finA ((takeA (B.sMi v) 0).sDn (B.dn + 1)) (B.jk 0) (B.jm 0) else (B.sMi v).sGo (goA B - 1)) = _
  by_cases e : B.J = 0
  · rw [if_pos e, if_pos e]
  · rw [if_neg e, if_neg e]
    by_cases e2 : goA B - 1 = 0
    · rw [if_pos e2, if_pos e2]
      unfold finA
      by_cases e3 : B.jk 0 = 0
      · rw [if_pos e3, if_pos e3]; rfl
      · rw [if_neg e3, if_neg e3]
        by_cases e4 : B.jk 0 = 1
        · rw [if_pos e4, if_pos e4]; rfl
        · rw [if_neg e4, if_neg e4]; rfl
    · rw [if_neg e2, if_neg e2]
      rfl
/-- behind the orders: the crew -/
theorem crew_law {S : ZS} {t : Nat} {B : TA} {f : Nat} {n v1 : Nat} (h : TT S t B) (hA : WA B) (hn : n < 1000) (hc : 1 ≤ S.c) (hw : 12 ≤ S.w) : ∃ S', kX12_pass_10 (f + 1) t v1 (nI n) (nI n) S = some (dnv B, S') ∧ Ste QM 1 11 S S' ∧ TT S' t ((workA B).sMi (B.mi + 1)) ∧ S'.r (t / 2) 8 = S.r (t / 2) 8 := by
  have hJ12 := hA.J12
  have hN9 := hA.N9
  have h1 := h.smi (v := B.mi + 1)
  obtain ⟨S1, eS1⟩ : ∃ z, z = S.wi (t / 2) 6 (B.mi + 1) := ⟨_, rfl⟩
  have s1 : Ste QM 0 0 S S1 := by rw [eS1]; exact Ste.wi (fun _ => by rw [h.o.2.2]; exact Or.inl rfl)
  have hr1 : S1.r = S.r := by rw [eS1]; rfl
  rw [← eS1] at h1
  have hA1 : WA (B.sMi (B.mi + 1)) := hA.smi
  have haj : AR S1 (S1.r (t / 2) 4) 400000 B.J := h1.aj
  have ham : AR S1 (S1.r (t / 2) 2) 400000 B.N := h1.am
  have hgo1 : S1.i (t / 2) 5 = B.go := h1.go
  unfold kX12_pass_10
  rw [if_pos (by rw [nI_leI (by omega) (by omega)]; omega), gI_o h.o, h.mi, pI_o h.o, ← eS1, gN_o h1.o haj.ne0, aL_n haj]
  rw [← work_mi]
  unfold dnv
  by_cases e : B.J = 0
  · refine ⟨S1, ?_, s1.mono (fun _ z => z) (by omega) (by omega), ?_, by rw [hr1]⟩
    · rw [if_pos (show nI B.J = 0 by rw [e]; rfl), if_pos e]
    · unfold workA
      rw [if_pos (show (B.sMi (B.mi + 1)).J = 0 from e)]
      exact h1
  · have h0 : 0 < B.J := by omega
    obtain ⟨hm, hk⟩ := hA.jb h0
    obtain ⟨b1, b2, b3, b4⟩ := h1.m hm
    obtain ⟨j1, j2, j3⟩ := h1.j h0
    have aN0 : ∀ f : Nat → Option (Int32 × ZS), aN S1 (S1.r (t / 2) 4) 400000 0 f = f (S1.r (S1.r (t / 2) 4 / 2) 0) := fun f => aN_n (j := 0) haj h0 j1.ne0
    have aG1 : ∀ f : Int32 → Option (Int32 × ZS), aG S1 (S1.r (S1.r (t / 2) 4 / 2) 0) 100000 1 f = f (nI (B.jm 0)) := fun f => (aG_n (j := 1) j1 (by omega)).trans (congrArg f j3)
    have aG0 : ∀ f : Int32 → Option (Int32 × ZS), aG S1 (S1.r (S1.r (t / 2) 4 / 2) 0) 100000 0 f = f (B.jk 0) := fun f => (aG_n (j := 0) j1 (by omega)).trans (congrArg f j2)
    have aC : ∀ f : Int32 → Option (Int32 × ZS), aG S1 (S1.r (S1.r (t / 2) 2 / 2) (B.jm 0)) 100000 0 f = f (B.cl (B.jm 0)) := fun f => (aG_n (j := 0) b1 (by omega)).trans (congrArg f b2)
    have aO : ∀ f : Int32 → Option (Int32 × ZS), aG S1 (S1.r (S1.r (t / 2) 2 / 2) (B.jm 0)) 100000 2 f = f (B.of (B.jm 0)) := fun f => (aG_n (j := 2) b1 (by omega)).trans (congrArg f b4)
    rw [if_neg (nI_ne0 h0 (by omega)), gN_o h1.o ham.ne0, gN_o h1.o haj.ne0, aN0, aG1, aN_n ham hm b1.ne0, gI_o h1.o, hgo1, if_neg e]
    have fin : ∀ S2 : ZS, S2 = S1.wi (t / 2) 5 (goA B) → ∃ S', kX12_pass_129 t (S1.r (S1.r (t / 2) 2 / 2) (B.jm 0)) S2 = some (if goA B - 1 = 0 then 1 else 0, S') ∧ Ste QM 1 11 S S' ∧ TT S' t (workA (B.sMi (B.mi + 1))) ∧ S'.r (t / 2) 8 = S.r (t / 2) 8 := by
      intro S2 eS2
      have h2 := h1.sgo (v := goA B)
      have s2 : Ste QM 0 0 S1 S2 := by rw [eS2]; exact Ste.wi (fun _ => by rw [h1.o.2.2]; exact Or.inl rfl)
      have hr2 : S2.r = S1.r := by rw [eS2]; rfl
      rw [← eS2] at h2
      have hp := go_pos hA e
      have hA2 : WA ((B.sMi (B.mi + 1)).sGo (goA B)) := hA1.go e (Int32.not_lt.mpr (Int32.le_of_lt hp))
      have hcw : S2.c = S.c ∧ S2.w = S.w := by rw [eS2, eS1]; exact ⟨rfl, rfl⟩
      obtain ⟨S', k1, k2, k3, k4⟩ := pass129 h2 hA2 e hp (by rw [hcw.1]; exact hc) (by rw [hcw.2]; exact hw)
      rw [hr2] at k1 k4
      refine ⟨S', k1, ((s1.trans s2).trans k2).mono (fun _ z => z) (by omega) (by omega), k3.eqA ?_, by rw [k4, hr1]⟩
      unfold workA
      rw [if_neg (show ¬ (B.sMi (B.mi + 1)).J = 0 from e)]
      rfl
    by_cases e2 : B.go = 0
    · have hg : goA B = minsA B (B.jk 0) (B.jm 0) := if_pos e2
      have p126 : ∀ v : Int32, v = goA B → ∃ S', kX12_pass_126 t (S1.r (S1.r (t / 2) 2 / 2) (B.jm 0)) v t S1 = some (if goA B - 1 = 0 then 1 else 0, S') ∧ Ste QM 1 11 S S' ∧ TT S' t (workA (B.sMi (B.mi + 1))) ∧ S'.r (t / 2) 8 = S.r (t / 2) 8 := by
        intro v hv
        unfold kX12_pass_126
        rw [pI_o h1.o]
        exact fin _ (by rw [hv])
      show ∃ S', (if B.go = 0 then _ else _) = _ ∧ _
      rw [if_pos e2, gN_o h1.o haj.ne0, aN0, aG0]
      unfold minsA at hg
      by_cases k0 : B.jk 0 = 0
      · rw [if_pos k0] at hg
        rw [if_pos k0, aC]
        have hd : ∀ f : Int32 → Option (Int32 × ZS), dv (100 - B.cl (B.jm 0)) 10 f = f ((100 - B.cl (B.jm 0)) / 10) := fun f => if_neg (by decide)
        rw [hd]
        exact p126 _ (by rw [hg, dn_eq])
      · rw [if_neg k0] at hg
        rw [if_neg k0, gN_o h1.o haj.ne0, aN0, aG0]
        by_cases k1 : B.jk 0 = 1
        · rw [if_pos k1] at hg
          rw [if_pos k1, aO, bd_eq]
          have hd : ∀ f : Int32 → Option (Int32 × ZS), dv (if 0 ≤ B.of (B.jm 0) then B.of (B.jm 0) else 0 - B.of (B.jm 0)) 5 f = f (absI (B.of (B.jm 0)) / 5) := fun f => if_neg (by decide)
          rw [hd]
          exact p126 _ (by rw [hg, dn_eq])
        · rw [if_neg k1] at hg
          rw [if_neg k1]
          exact p126 _ hg.symm
    · have hg : goA B = B.go := if_neg e2
      show ∃ S', (if B.go = 0 then _ else _) = _ ∧ _
      rw [if_neg e2]
      refine fin S1 ?_
      rw [hg, eS1]
      have z : ∀ T : ZS, T.i (t / 2) 5 = B.go → T = T.wi (t / 2) 5 B.go := by
        intro T hT
        have : T.i = up T.i (t / 2) 5 B.go := by
          funext o k
          by_cases y : o = t / 2 ∧ k = 5
          · obtain ⟨y1, y2⟩ := y
            rw [y1, y2, up_self]
            exact hT
          · exact (if_neg y).symm
        show T = (T.g, T.n, T.K, up T.i (t / 2) 5 B.go, T.r, T.c, T.w)
        rw [← this]
      rw [← eS1]
      exact z S1 h1.go
