/-! the crew's minute -/
def finA (A : TA) (k : Int32) (m : Nat) : TA := if k = 0 then (A.sCl (updI A.cl m (if A.cl m < A.be m then A.be m else A.cl m))).sBe (updI A.be m (if 0 < A.be m - 1 then A.be m - 1 else 0)) else if k = 1 then turnA A m 0 else ((A.sCl (updI A.cl m 100)).sBe (updI A.be m 100)).sOf (updI A.of m 0)
def absI (x : Int32) : Int32 := if 0 ≤ x then x else 0 - x
def minsA (A : TA) (k : Int32) (m : Nat) : Int32 := if k = 0 then (100 - A.cl m) / 10 + 1 else if k = 1 then absI (A.of m) / 5 + 1 else 20
def goA (A : TA) : Int32 := if A.go = 0 then minsA A (A.jk 0) (A.jm 0) else A.go
def workA (A : TA) : TA := if A.J = 0 then A else if goA A - 1 = 0 then finA ((takeA A 0).sDn (A.dn + 1)) (A.jk 0) (A.jm 0) else A.sGo (goA A - 1)
def minA (P : List OR4) (A : TA) : TA := ((workA (P.foldl carO A)).sMi (A.mi + 1))
theorem best_all : ((List.range 101).all fun i => decide (0 ≤ (if 0 < nI i - 1 then nI i - 1 else 0) ∧ (if 0 < nI i - 1 then nI i - 1 else 0) ≤ 100)) = true := by decide +kernel
theorem best_eq {c : Int32} (hc : 0 ≤ c ∧ c ≤ 100) : 0 ≤ (if 0 < c - 1 then c - 1 else 0) ∧ (if 0 < c - 1 then c - 1 else 0) ≤ 100 := by
  obtain ⟨i, hi, rfl⟩ := nI_of2 (M := 100) (n := 100) rfl (Int32.not_lt.mpr hc.1) hc.2
  exact of_decide_eq_true (List.all_eq_true.mp best_all i (List.mem_range.mpr (by omega)))
theorem WA.fin {A : TA} {k : Int32} {m : Nat} (h : WA A) (hm : m < A.N) : WA (finA A k m) := by
  unfold finA
  obtain ⟨m1, m2, m3⟩ := h.rng hm
  split
  · obtain ⟨h1, h2, h3, h4, h5⟩ := h
    refine ⟨h1, h2, h3, fun i hi => ?_, h5⟩
    obtain ⟨b1, b2, b3⟩ := h4 i hi
    refine ⟨?_, ?_, b3⟩
    · show 0 ≤ updI A.cl m (if A.cl m < A.be m then A.be m else A.cl m) i ∧ updI A.cl m (if A.cl m < A.be m then A.be m else A.cl m) i ≤ 100
      by_cases q : i = m
      · subst q
        rw [updI_eq]
        split
        · exact m2
        · exact m1
      · rw [updI_ne q]; exact b1
    · show 0 ≤ updI A.be m (if 0 < A.be m - 1 then A.be m - 1 else 0) i ∧ updI A.be m (if 0 < A.be m - 1 then A.be m - 1 else 0) i ≤ 100
      by_cases q : i = m
      · subst q
        rw [updI_eq]
        exact best_eq m2
      · rw [updI_ne q]; exact b2
  · split
    · exact h.turn ⟨by decide, by decide⟩
    · obtain ⟨h1, h2, h3, h4, h5⟩ := h
      refine ⟨h1, h2, h3, fun i hi => ?_, h5⟩
      obtain ⟨b1, b2, b3⟩ := h4 i hi
      refine ⟨?_, ?_, ?_⟩
      · show 0 ≤ updI A.cl m 100 i ∧ updI A.cl m 100 i ≤ 100
        by_cases q : i = m
        · subst q; rw [updI_eq]; exact ⟨by decide, by decide⟩
        · rw [updI_ne q]; exact b1
      · show 0 ≤ updI A.be m 100 i ∧ updI A.be m 100 i ≤ 100
        by_cases q : i = m
        · subst q; rw [updI_eq]; exact ⟨by decide, by decide⟩
        · rw [updI_ne q]; exact b2
      · show -90 ≤ updI A.of m 0 i ∧ updI A.of m 0 i ≤ 90
        by_cases q : i = m
        · subst q; rw [updI_eq]; exact ⟨by decide, by decide⟩
        · rw [updI_ne q]; exact b3
theorem clean_ok {w m : Nat} {A : TA} {g : G} (h : RW w A g) (hm : m < A.N) : ∃ g', k4_clean (w + 1) (nI m) g = some g' ∧ fM w g g' ∧ RW w (finA A 0 m) g' := by
  have := h.N9
  obtain ⟨b1, b2, b3⟩ := h.m hm
  refine ⟨up (up (up g (w + 1 + 1) m (if A.cl m < A.be m then A.be m else A.cl m)) (w + 1 + 2) m (if 0 < A.be m - 1 then A.be m - 1 else 0)) (w + 1) 13 0, ?_, fun a a0 a1 a2 a3 _ _ _ _ => by rw [up_ne a0, up_ne a2, up_ne a1], h.wr ⟨rfl, rfl, rfl, rfl, rfl, rfl, rfl, rfl, rfl, rfl⟩ (fun a a0 a1 a2 a3 => by rw [up_ne a0, up_ne a2, up_ne a1]) (fun k hk => by rw [up_slot hk, up_other (by omega), up_other (by omega)]) up_self (fun i hi => ?_)⟩
  · unfold k4_clean
    rw [rw_pre h hm, some_bind, if_neg (by decide), ld_n (by omega) (by omega), ld_n (by omega) (by omega), b1, b2, bd_eq, sto_n (by omega) (by omega), ld_n (by omega) (by omega), up_other (by omega), b2, bd_eq, sto_n (by omega) (by omega), bd_eq]
  · have c1 : up (up (up g (w + 1 + 1) m (if A.cl m < A.be m then A.be m else A.cl m)) (w + 1 + 2) m (if 0 < A.be m - 1 then A.be m - 1 else 0)) (w + 1) 13 0 (w + 1 + 1) i = up g (w + 1 + 1) m (if A.cl m < A.be m then A.be m else A.cl m) (w + 1 + 1) i := by rw [up_other (by omega), up_other (by omega)]
    have c2 : up (up (up g (w + 1 + 1) m (if A.cl m < A.be m then A.be m else A.cl m)) (w + 1 + 2) m (if 0 < A.be m - 1 then A.be m - 1 else 0)) (w + 1) 13 0 (w + 1 + 2) i = up (up g (w + 1 + 1) m (if A.cl m < A.be m then A.be m else A.cl m)) (w + 1 + 2) m (if 0 < A.be m - 1 then A.be m - 1 else 0) (w + 1 + 2) i := by rw [up_other (by omega)]
    have c3 : up (up (up g (w + 1 + 1) m (if A.cl m < A.be m then A.be m else A.cl m)) (w + 1 + 2) m (if 0 < A.be m - 1 then A.be m - 1 else 0)) (w + 1) 13 0 (w + 1 + 3) i = g (w + 1 + 3) i := by rw [up_other (by omega), up_other (by omega), up_other (by omega)]
    rw [c1, c2, c3]
    obtain ⟨d1, d2, d3⟩ := h.m hi
    refine ⟨?_, ?_, d3⟩
    · show up g (w + 1 + 1) m (if A.cl m < A.be m then A.be m else A.cl m) (w + 1 + 1) i = updI A.cl m (if A.cl m < A.be m then A.be m else A.cl m) i
      by_cases q : i = m
      · subst q; rw [up_self, updI_eq]
      · rw [up_slot q, updI_ne q, d1]
    · show up (up g (w + 1 + 1) m (if A.cl m < A.be m then A.be m else A.cl m)) (w + 1 + 2) m (if 0 < A.be m - 1 then A.be m - 1 else 0) (w + 1 + 2) i = updI A.be m (if 0 < A.be m - 1 then A.be m - 1 else 0) i
      by_cases q : i = m
      · subst q; rw [up_self, updI_eq]
      · rw [up_slot q, updI_ne q, up_other (by omega), d2]
theorem repl_ok {w m : Nat} {k : Int32} {A : TA} {g : G} (h : RW w A g) (hm : m < A.N) (h0 : ¬ k = 0) (h1 : ¬ k = 1) : ∃ g', k4_replace (w + 1) (nI m) g = some g' ∧ fM w g g' ∧ RW w (finA A k m) g' := by
  have := h.N9
  have e : finA A k m = ((A.sCl (updI A.cl m 100)).sBe (updI A.be m 100)).sOf (updI A.of m 0) := by
    unfold finA
    rw [if_neg h0, if_neg h1]
  rw [e]
  refine ⟨up (up (up (up g (w + 1 + 1) m 100) (w + 1 + 2) m 100) (w + 1 + 3) m 0) (w + 1) 13 0, ?_, fun a a0 a1 a2 a3 _ _ _ _ => by rw [up_ne a0, up_ne a3, up_ne a2, up_ne a1], h.wr ⟨rfl, rfl, rfl, rfl, rfl, rfl, rfl, rfl, rfl, rfl⟩ (fun a a0 a1 a2 a3 => by rw [up_ne a0, up_ne a3, up_ne a2, up_ne a1]) (fun k hk => by rw [up_slot hk, up_other (by omega), up_other (by omega), up_other (by omega)]) up_self (fun i hi => ?_)⟩
  · have hh : k4_has (w + 1) (nI m) (up (up g (w + 1 + 1) m 100) (w + 1 + 2) m 100) = some 1 := k4_has_n (by rw [up_other (by omega), up_other (by omega)]; exact h.N) h.N9 hm
    unfold k4_replace k4_turn
    rw [rw_pre h hm, some_bind, if_neg (by decide), sto_n (by omega) (by omega), sto_n (by omega) (by omega), hh, some_bind, if_neg (by decide), sto_n (by omega) (by omega)]
    rfl
  · have c1 : up (up (up (up g (w + 1 + 1) m 100) (w + 1 + 2) m 100) (w + 1 + 3) m 0) (w + 1) 13 0 (w + 1 + 1) i = up g (w + 1 + 1) m 100 (w + 1 + 1) i := by rw [up_other (by omega), up_other (by omega), up_other (by omega)]
    have c2 : up (up (up (up g (w + 1 + 1) m 100) (w + 1 + 2) m 100) (w + 1 + 3) m 0) (w + 1) 13 0 (w + 1 + 2) i = up (up g (w + 1 + 1) m 100) (w + 1 + 2) m 100 (w + 1 + 2) i := by rw [up_other (by omega), up_other (by omega)]
    have c3 : up (up (up (up g (w + 1 + 1) m 100) (w + 1 + 2) m 100) (w + 1 + 3) m 0) (w + 1) 13 0 (w + 1 + 3) i = up (up (up g (w + 1 + 1) m 100) (w + 1 + 2) m 100) (w + 1 + 3) m 0 (w + 1 + 3) i := by rw [up_other (by omega)]
    rw [c1, c2, c3]
    obtain ⟨d1, d2, d3⟩ := h.m hi
    refine ⟨?_, ?_, ?_⟩
    · show up g (w + 1 + 1) m 100 (w + 1 + 1) i = updI A.cl m 100 i
      by_cases q : i = m
      · subst q; rw [up_self, updI_eq]
      · rw [up_slot q, updI_ne q, d1]
    · show up (up g (w + 1 + 1) m 100) (w + 1 + 2) m 100 (w + 1 + 2) i = updI A.be m 100 i
      by_cases q : i = m
      · subst q; rw [up_self, updI_eq]
      · rw [up_slot q, updI_ne q, up_other (by omega), d2]
    · show up (up (up g (w + 1 + 1) m 100) (w + 1 + 2) m 100) (w + 1 + 3) m 0 (w + 1 + 3) i = updI A.of m 0 i
      by_cases q : i = m
      · subst q; rw [up_self, updI_eq]
      · rw [up_slot q, updI_ne q, up_other (by omega), up_other (by omega), d3]
theorem fin_ok {w m : Nat} {k : Int32} {A : TA} {g : G} (h : RW w A g) (hm : m < A.N) : ∃ g', k7_finish w k (nI m) g = some g' ∧ fM w g g' ∧ RW w (finA A k m) g' := by
  unfold k7_finish
  by_cases e0 : k = 0
  · subst e0
    obtain ⟨g', e1, f1, r1⟩ := clean_ok h hm
    refine ⟨g', ?_, f1, r1⟩
    rw [if_pos rfl, e1]
    rfl
  · by_cases e1 : k = 1
    · subst e1
      obtain ⟨g', e1, f1, r1⟩ := turn_ok (v := 0) h hm
      refine ⟨g', ?_, f1, r1⟩
      rw [if_neg (by decide), if_pos rfl, e1]
      rfl
    · obtain ⟨g', e2, f1, r1⟩ := repl_ok (k := k) h hm e0 e1
      refine ⟨g', ?_, f1, r1⟩
      rw [if_neg e0, if_neg e1, e2]
      rfl
theorem mins_ok {w m : Nat} {k : Int32} {A : TA} {g : G} (h : RW w A g) (hm : m < A.N) : ∃ g', k7_minutesFor w k (nI m) g = some (minsA A k m, g') ∧ fQ w g g' ∧ RW w A g' := by
  unfold k7_minutesFor minsA
  by_cases e0 : k = 0
  · obtain ⟨g', e1, f1, r1⟩ := rw_cl h hm
    refine ⟨g', ?_, f1, r1⟩
    rw [if_pos e0, if_pos e0, e1, some_bind]
    exact if_neg (by decide)
  · by_cases e1 : k = 1
    · obtain ⟨g', e2, f1, r1⟩ := rw_of h hm
      refine ⟨g', ?_, f1, r1⟩
      rw [if_neg e0, if_neg e0, if_pos e1, if_pos e1, e2, some_bind, bd_eq]
      exact if_neg (by decide)
    · exact ⟨g, by rw [if_neg e0, if_neg e0, if_neg e1, if_neg e1], fQ.refl, h⟩
theorem mins_all : ((List.range 101).all fun i => decide (0 < (100 - nI i) / 10 + 1 ∧ (100 - nI i) / 10 + 1 ≤ 20)) = true ∧ ((List.range 181).all fun i => decide (0 < absI (nI i - 90) / 5 + 1 ∧ absI (nI i - 90) / 5 + 1 ≤ 20)) = true := ⟨by decide +kernel, by decide +kernel⟩
theorem ofs_of {x : Int32} (h : -90 ≤ x ∧ x ≤ 90) : ∃ i, i < 181 ∧ x = nI i - 90 := by
  have h1 := Int32.le_iff_toInt_le.mp h.1
  have h2 := Int32.le_iff_toInt_le.mp h.2
  have h1 : (-90 : Int) ≤ x.toInt := h1
  have h2 : x.toInt ≤ 90 := h2
  refine ⟨(x.toInt + 90).toNat, by omega, Int32.toInt_inj.mp ?_⟩
  rw [Int32.toInt_sub, nI_toInt (by omega), show (90 : Int32).toInt = 90 from rfl, Int.bmod_eq_of_le (by omega) (by omega)]
  omega
theorem mins_rng {A : TA} {k : Int32} {m : Nat} (h : WA A) (hm : m < A.N) : 0 < minsA A k m ∧ minsA A k m ≤ 20 := by
  obtain ⟨m1, m2, m3⟩ := h.rng hm
  unfold minsA
  split
  · obtain ⟨i, hi, e⟩ := nI_of2 (M := 100) (n := 100) rfl (Int32.not_lt.mpr m1.1) m1.2
    rw [e]
    exact of_decide_eq_true (List.all_eq_true.mp mins_all.1 i (List.mem_range.mpr (by omega)))
  · split
    · obtain ⟨i, hi, e⟩ := ofs_of m3
      rw [e]
      exact of_decide_eq_true (List.all_eq_true.mp mins_all.2 i (List.mem_range.mpr (by omega)))
    · exact ⟨by decide, by decide⟩
theorem sub1_pos {x : Int32} (h : 0 < x) : ¬ x - 1 < 0 := by
  have h1 := Int32.lt_iff_toInt_lt.mp h
  have h1 : (0 : Int) < x.toInt := h1
  have h2 := Int32.toInt_lt x
  rw [Int32.lt_iff_toInt_lt, Int32.toInt_sub, show (1 : Int32).toInt = 1 from rfl, Int.bmod_eq_of_le (by omega) (by omega), show (0 : Int32).toInt = 0 from rfl]
  omega
theorem go_pos {A : TA} (h : WA A) (hJ : A.J ≠ 0) : 0 < goA A := by
  unfold goA
  split
  · exact (mins_rng h (h.jb (show 0 < A.J by omega)).1).1
  · rename_i e
    have h0 := h.go0
    rcases Int32.lt_or_eq_of_le (Int32.not_lt.mp h0) with z | z
    · exact z
    · exact absurd z.symm e
theorem WA.go {A : TA} {v : Int32} (h : WA A) (hJ : A.J ≠ 0) (hv : ¬ v < 0) : WA (A.sGo v) := by
  obtain ⟨h1, h2, h3, h4, h5, h6, h7, h8, h9⟩ := h
  exact ⟨h1, h2, h3, h4, h5, h6, h7, hv, fun z => absurd z hJ⟩
theorem WA.sdn {A : TA} {v : Int32} (h : WA A) : WA (A.sDn v) := h
theorem WA.smi {A : TA} {v : Int32} (h : WA A) : WA (A.sMi v) := h
theorem WA.work {A : TA} (h : WA A) : WA (workA A) := by
  unfold workA
  split
  · exact h
  · rename_i hJ
    split
    · exact (h.take (show 0 < A.J by omega)).sdn.fin (h.jb (show 0 < A.J by omega)).1
    · exact h.go hJ (sub1_pos (go_pos h hJ))
theorem finA_N {A : TA} {k : Int32} {m : Nat} : (finA A k m).N = A.N := by
  unfold finA
  split
  · rfl
  · split <;> rfl
theorem workA_N {A : TA} : (workA A).N = A.N := by
  unfold workA
  split
  · rfl
  · split
    · exact finA_N
    · rfl
theorem minA_N {P : List OR4} {A : TA} : (minA P A).N = A.N := by
  show (workA (P.foldl carO A)).N = A.N
  rw [workA_N, carL_N]
theorem WA.min {P : List OR4} {A : TA} (h : WA A) (hg : ∀ o, o ∈ P → goodO A.N o) : WA (minA P A) := (WA.carL P h hg).work.smi
theorem RW.up5 {w : Nat} {A : TA} {g : G} {v : Int32} (h : RW w A g) : RW w (A.sMi v) (up g w 5 v) := by
  have h' : RW w (A.sMi (g w 5)) g := by
    have e : A.sMi (g w 5) = A := by rw [h.mi]; rfl
    rw [e]; exact h
  refine ⟨by rw [up_other (by omega)]; exact h.N, by rw [up_other (by omega)]; exact h.W, by rw [up_other (by omega)]; exact h.lim, by rw [up_other (by omega)]; exact h.cv, isRow_same (up_ne (by omega)) h.row, fun m hm => by rw [up_ne (by omega), up_ne (by omega), up_ne (by omega)]; exact h.m hm, litOK_same (fun i _ => up_ne (by omega)) h.lok, by rw [up_other (by omega)]; exact h.J, by rw [up_other (by omega)]; exact h.go, by rw [up_other (by omega)]; exact h.dn, fun k hk => by rw [up_ne (by omega), up_ne (by omega)]; exact h.j hk, up_self⟩
/-- the number of minutes to go, and of jobs done, written -/
theorem RW.upD {w : Nat} {A : TA} {g : G} {v : Int32} (h : RW w A g) : RW w (A.sDn v) (up g (w + 9) 4 v) :=
  ⟨by rw [up_other (by omega)]; exact h.N, by rw [up_other (by omega)]; exact h.W, by rw [up_other (by omega)]; exact h.lim, by rw [up_other (by omega)]; exact h.cv, isRow_same (up_ne (by omega)) h.row, fun m hm => by rw [up_ne (by omega), up_ne (by omega), up_ne (by omega)]; exact h.m hm, litOK_same (fun i _ => up_ne (by omega)) h.lok, by rw [up_slot (by decide)]; exact h.J, by rw [up_slot (by decide)]; exact h.go, up_self, fun k hk => by rw [up_ne (by omega), up_ne (by omega)]; exact h.j hk, by rw [up_other (by omega)]; exact h.mi⟩
theorem cov_pos {A : TA} (h : 0 < A.go) : cov A = nI (A.jm 0) := if_neg (Int32.not_le.mpr h)
/-- work at a job that is covered -/
theorem work60 {w : Nat} {A : TA} {g : G} (hA : WA A) (h : RW w A g) (hJ : A.J ≠ 0) (hgo : 0 < A.go) : ∃ g', k7_work_60 w (A.jk 0) (nI (A.jm 0)) g = some g' ∧ fC w g g' ∧ RW w (if A.go - 1 = 0 then finA ((takeA A 0).sDn (A.dn + 1)) (A.jk 0) (A.jm 0) else A.sGo (A.go - 1)) g' := by
  have hm := (hA.jb (show 0 < A.J by omega)).1
  unfold k7_work_60
  rw [bd_eq, up_self, h.go]
  by_cases e : A.go - 1 = 0
  · rw [if_pos e, if_pos e]
    have h1 : RW w (A.sGo A.go) g := h
    have ht : ∃ g', k7_dropJob w 0 (up g (w + 9) 3 (A.go - 1)) = some g' ∧ (∀ b, b ≠ w + 1 → b ≠ w + 9 → b ≠ w + 9 + 1 → b ≠ w + 9 + 2 → g' b = g b) ∧ RW w (takeA A 0) g' := by
      obtain ⟨g1, e1, f1, f2, f3, f4, f5, f6, f7, f8, f9⟩ := drop_c (o := w) (a := 0) (J := A.J - 1) (g := up g (w + 9) 3 (A.go - 1)) (by have := hA.J12; omega) (by omega) (by rw [up_slot (by decide), h.J]; congr 1; omega)
      have f1 : ∀ b, b ≠ w + 1 → b ≠ w + 9 → b ≠ w + 9 + 1 → b ≠ w + 9 + 2 → g1 b = g b := fun b b1 b2 b3 b4 => by rw [f1 b b1 b2 b3 b4, up_ne b2]
      have f2 : ∀ k, k ≠ 10 → k ≠ 13 → g1 (w + 1) k = g (w + 1) k := fun k k1 k2 => by rw [f2 k k1 k2, up_other (by omega)]
      have hc : ∀ i, 1 ≤ i → i ≤ 7 → g1 (w + 1 + i) = g (w + 1 + i) := fun i h1 h2 => f1 _ (by omega) (by omega) (by omega) (by omega)
      rw [up_ne (by omega)] at f8 f9
      refine ⟨g1, e1, f1, by rw [f2 7 (by decide) (by decide)]; exact h.N, by rw [f2 8 (by decide) (by decide)]; exact h.W, by rw [f2 9 (by decide) (by decide)]; exact h.lim, by rw [cov_take0]; exact (f3 rfl).1, isRow_same (hc 4 (by omega) (by omega)) h.row, fun m hm => ?_, Or.inl (f3 rfl).2, f5, by rw [f6]; rfl, by rw [f7, up_slot (by decide)]; exact h.dn, fun k hk => ?_, by rw [f1 w (by omega) (by omega) (by omega) (by omega)]; exact h.mi⟩
      · rw [hc 1 (by omega) (by omega), hc 2 (by omega) (by omega), hc 3 (by omega) (by omega)]
        exact h.m hm
      · have hk : k < A.J - 1 := hk
        obtain ⟨s1, s2, -⟩ := f8
        obtain ⟨t1, t2, -⟩ := f9
        show g1 (w + 9 + 1) k = (if k < 0 then A.jk k else A.jk (k + 1)) ∧ g1 (w + 9 + 2) k = nI (if k < 0 then A.jm k else A.jm (k + 1))
        rw [if_neg (by omega), if_neg (by omega), s2 k (by omega) (by omega), t2 k (by omega) (by omega)]
        exact h.j (by omega)
    obtain ⟨g1, e1, f1, r1⟩ := ht
    have r2 := r1.upD (v := A.dn + 1)
    obtain ⟨g3, e3, f3, r3⟩ := fin_ok (k := A.jk 0) (m := A.jm 0) r2 hm
    refine ⟨g3, ?_, fun a ha => ?_, r3⟩
    · rw [e1, some_bind, bd_eq]
      have : g1 (w + 9) 4 = A.dn := r1.dn
      rw [this, e3]
      rfl
    · rw [f3.C a ha, up_ne (by omega)]
      exact f1 a (by omega) (by omega) (by omega) (by omega)
  · rw [if_neg e, if_neg e]
    refine ⟨_, rfl, fun a ha => up_ne (by omega), ?_⟩
    have hp : 0 < A.go - 1 := by
      rcases Int32.lt_or_eq_of_le (Int32.not_lt.mp (sub1_pos hgo)) with z | z
      · exact z
      · exact absurd z.symm e
    refine ⟨by rw [up_other (by omega)]; exact h.N, by rw [up_other (by omega)]; exact h.W, by rw [up_other (by omega)]; exact h.lim, ?_, isRow_same (up_ne (by omega)) h.row, fun m hm => by rw [up_ne (by omega), up_ne (by omega), up_ne (by omega)]; exact h.m hm, litOK_same (fun i _ => up_ne (by omega)) h.lok, by rw [up_slot (by decide)]; exact h.J, up_self, by rw [up_slot (by decide)]; exact h.dn, fun k hk => by rw [up_ne (by omega), up_ne (by omega)]; exact h.j hk, by rw [up_other (by omega)]; exact h.mi⟩
    rw [up_other (by omega), h.cv, cov_pos hgo]
    exact (cov_pos (A := A.sGo (A.go - 1)) hp).symm
theorem work_ok {w : Nat} {A : TA} {g : G} (hA : WA A) (h : RW w A g) : ∃ g', k7_work w g = some g' ∧ fC w g g' ∧ RW w (workA A) g' := by
  have hJ12 := hA.J12
  unfold k7_work workA
  rw [h.J]
  by_cases e : A.J = 0
  · rw [if_pos (by rw [e]; rfl), if_pos e]
    exact ⟨g, rfl, fC.refl, h⟩
  · have h0 : 0 < A.J := by omega
    have hm := (hA.jb h0).1
    have k1 : k3_kindIn (w + 9) 0 g = some (A.jk 0) := kindIn_n (k := 0) hA h h0
    have k2 : k3_mirrorIn (w + 9) 0 g = some (nI (A.jm 0)) := mirIn_n (k := 0) hA h h0
    rw [if_neg (nI_ne0 h0 (by omega)), if_neg e, k1, some_bind, k2, some_bind, h.go]
    by_cases e2 : A.go = 0
    · obtain ⟨g1, e1, q1, r1⟩ := mins_ok (k := A.jk 0) h hm
      rw [if_pos e2, e1, some_bind, bd_eq]
      have hgo : goA A = minsA A (A.jk 0) (A.jm 0) := if_pos e2
      have hpos := (mins_rng (k := A.jk 0) hA hm).1
      have hc : k4_cover (w + 1) (nI (A.jm 0)) (up g1 (w + 9) 3 (minsA A (A.jk 0) (A.jm 0))) = some (up (up (up g1 (w + 9) 3 (minsA A (A.jk 0) (A.jm 0))) (w + 1) 10 (nI (A.jm 0))) (w + 1) 13 0) := rfl
      show ∃ g', (k4_cover (w + 1) (nI (A.jm 0)) (up g1 (w + 9) 3 (minsA A (A.jk 0) (A.jm 0)))).bind _ = some g' ∧ _
      rw [hc, some_bind, hgo]
      have r2 : RW w (A.sGo (minsA A (A.jk 0) (A.jm 0))) (up (up (up g1 (w + 9) 3 (minsA A (A.jk 0) (A.jm 0))) (w + 1) 10 (nI (A.jm 0))) (w + 1) 13 0) := by
        have o1 : ∀ a, a ≠ w + 1 → a ≠ w + 9 → up (up (up g1 (w + 9) 3 (minsA A (A.jk 0) (A.jm 0))) (w + 1) 10 (nI (A.jm 0))) (w + 1) 13 0 a = g1 a := fun a a1 a2 => by rw [up_ne a1, up_ne a1, up_ne a2]
        have o2 : ∀ k, k ≠ 10 → k ≠ 13 → up (up (up g1 (w + 9) 3 (minsA A (A.jk 0) (A.jm 0))) (w + 1) 10 (nI (A.jm 0))) (w + 1) 13 0 (w + 1) k = g1 (w + 1) k := fun k k1 k2 => by rw [up_slot k2, up_slot k1, up_other (by omega)]
        have o3 : ∀ k, k ≠ 3 → up (up (up g1 (w + 9) 3 (minsA A (A.jk 0) (A.jm 0))) (w + 1) 10 (nI (A.jm 0))) (w + 1) 13 0 (w + 9) k = g1 (w + 9) k := fun k k1 => by rw [up_other (by omega), up_other (by omega), up_slot k1]
        refine ⟨by rw [o2 7 (by decide) (by decide)]; exact r1.N, by rw [o2 8 (by decide) (by decide)]; exact r1.W, by rw [o2 9 (by decide) (by decide)]; exact r1.lim, ?_, isRow_same (o1 _ (by omega) (by omega)) r1.row, fun m hm => by rw [o1 _ (by omega) (by omega), o1 _ (by omega) (by omega), o1 _ (by omega) (by omega)]; exact r1.m hm, Or.inl up_self, by rw [o3 2 (by decide)]; exact r1.J, ?_, by rw [o3 4 (by decide)]; exact r1.dn, fun k hk => by rw [o1 _ (by omega) (by omega), o1 _ (by omega) (by omega)]; exact r1.j hk, by rw [o1 _ (by omega) (by omega)]; exact r1.mi⟩
        · rw [up_slot (by decide), up_self]
          exact (cov_pos (A := A.sGo (minsA A (A.jk 0) (A.jm 0))) hpos).symm
        · rw [up_other (by omega), up_other (by omega), up_self]
          rfl
      obtain ⟨g3, e3, f3, r3⟩ := work60 (hA.go e (Int32.not_lt.mpr (Int32.le_of_lt hpos))) r2 e hpos
      refine ⟨g3, e3, (q1.C.trans ?_).trans f3, r3⟩
      intro a ha
      rw [up_ne (by omega), up_ne (by omega), up_ne (by omega)]
    · have hgo : goA A = A.go := if_neg e2
      rw [if_neg e2, hgo]
      have hp := go_pos hA e
      rw [hgo] at hp
      exact work60 hA h e hp
theorem minute_ok {w : Nat} {P : List OR4} {A : TA} {g : G} {K : Int32 → Int32 → G → Option G} {v1 v2 : Int32} (hw : 21 ≤ w) (hA : WA A) (hg : ∀ o, o ∈ P → goodO A.N o) (hp : RPl P g) (h : RW w A g) : ∃ g', RW w (minA P A) g' ∧ fC w g g' ∧ k7_pass_14 w K FU v1 v2 0 (up g w 4 0) = K v1 (v2 + 1) g' := by
  have hf0 : fC w g (up g w 4 0) := fun a ha => up_ne (by omega)
  have h0 : RW w A (up g w 4 0) := h.far (fun a a1 a2 => up_ne (by omega)) (up_slot (by decide))
  have s0 : stW w [] (up g w 4 0) := ⟨up_self, trivial⟩
  have h400 := hp.2.2.1
  obtain ⟨g1, r1, f1, e1⟩ := plan_ok (K := K) (v1 := v1) (v2 := v2) hw P [] FU A (up g w 4 0) rfl hA hg (hp.C hw hf0) h0 s0 (by unfold FU; omega)
  obtain ⟨g2, e2, f2, r2⟩ := work_ok (WA.carL P hA hg) r1
  have r3 := r2.up5 (v := g2 w 5 + 1)
  refine ⟨up g2 w 5 (g2 w 5 + 1), ?_, ((hf0.trans f1).trans f2).trans (fun a ha => up_ne (by omega)), ?_⟩
  · have e : (workA (P.foldl carO A)).sMi (g2 w 5 + 1) = minA P A := by
      unfold minA
      have hmi : g2 w 5 = A.mi := by
        rw [r2.mi]
        have c1 : ∀ (A : TA) (d m : Nat) (t x : Int32), (carA A d m t x).mi = A.mi := by
          intro A d m t x
          have o : ∀ v, (ordA A v m).mi = A.mi := fun v => by
            unfold ordA
            split
            · rfl
            · split <;> rfl
          unfold carA
          split
          · rfl
          · split
            · exact o _
            · split
              · exact o _
              · split
                · exact o _
                · split <;> rfl
        have c2 : ∀ (L : List OR4) (A : TA), (L.foldl carO A).mi = A.mi := by
          intro L
          induction L with
          | nil => intro A; rfl
          | cons o L ih => intro A; exact (ih (carO A o)).trans (c1 _ _ _ _ _)
        have c3 : ∀ A : TA, (workA A).mi = A.mi := by
          intro A
          unfold workA
          split
          · rfl
          · split
            · unfold finA
              split
              · rfl
              · split <;> rfl
            · rfl
        rw [c3, c2]
      rw [hmi]
    rw [← e]
    exact r3
  · have e1 : k7_pass_14 w K FU v1 v2 0 (up g w 4 0) = k7_pass_60 w K v1 v2 g1 := e1
    rw [e1]
    unfold k7_pass_60
    rw [e2, some_bind, bd_eq, bd_eq]
def minN (P : List OR4) : Nat → TA → TA
  | 0, A => A
  | n + 1, A => minN P n (minA P A)
theorem minN_N {P : List OR4} : ∀ n A, (minN P n A).N = A.N := by
  intro n
  induction n with
  | zero => intro A; rfl
  | succ n ih => intro A; exact (ih _).trans minA_N
theorem WA.minN {P : List OR4} : ∀ n {A : TA}, WA A → (∀ o, o ∈ P → goodO A.N o) → WA (minN P n A) := by
  intro n
  induction n with
  | zero => intro A h _; exact h
  | succ n ih =>
    intro A h hg
    exact ih (h.min hg) (fun o ho => by rw [minA_N]; exact hg o ho)
theorem minN_succ {P : List OR4} : ∀ n A, minN P (n + 1) A = minA P (minN P n A) := by
  intro n
  induction n with
  | zero => intro A; rfl
  | succ n ih => intro A; exact ih (minA P A)
theorem pass_loop {w : Nat} {P : List OR4} {n : Nat} (hw : 21 ≤ w) (hn : n < 1000) : ∀ (d i f : Nat) (A : TA) (g : G), n = i + d → d < f → WA A → (∀ o, o ∈ P → goodO A.N o) → RPl P g → RW w A g → ∃ g', RW w (minN P d A) g' ∧ fC w g g' ∧ k7_pass_2 w f (nI n) (nI i) g = some g' := by
  intro d
  induction d with
  | zero =>
    intro i f A g hd hf hA hg hp h
    obtain ⟨f, rfl⟩ : ∃ z, f = z + 1 := ⟨f - 1, by omega⟩
    refine ⟨g, h, fC.refl, ?_⟩
    unfold k7_pass_2
    rw [if_pos (by rw [nI_leI (by omega) (by omega)]; omega)]
  | succ d ih =>
    intro i f A g hd hf hA hg hp h
    obtain ⟨f, rfl⟩ : ∃ z, f = z + 1 := ⟨f - 1, by omega⟩
    obtain ⟨g1, r1, f1, e1⟩ := minute_ok (K := k7_pass_2 w f) (v1 := nI n) (v2 := nI i) hw hA hg hp h
    obtain ⟨g2, r2, f2, e2⟩ := ih (i + 1) f (minA P A) g1 (by omega) (by omega) (hA.min hg) (fun o ho => by rw [minA_N]; exact hg o ho) (hp.C hw f1) r1
    refine ⟨g2, r2, f1.trans f2, ?_⟩
    unfold k7_pass_2
    rw [if_neg (by rw [nI_leI (by omega) (by omega)]; omega), bd_eq, e1, nI_1]
    exact e2
theorem pass_ok {w n : Nat} {P : List OR4} {A : TA} {g : G} (hw : 21 ≤ w) (hn : n < 1000) (hA : WA A) (hg : ∀ o, o ∈ P → goodO A.N o) (hp : RPl P g) (h : RW w A g) : ∃ g', k7_pass w (nI n) g = some g' ∧ RW w (minN P n A) g' ∧ fC w g g' := by
  obtain ⟨g', r, f, e⟩ := pass_loop (w := w) (P := P) (n := n) hw hn n 0 FU A g (by omega) (by unfold FU; omega) hA hg hp h
  exact ⟨g', e, r, f⟩
