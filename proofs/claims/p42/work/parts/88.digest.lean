/-! the checksum; the mean clarity -/
def dg (d : Int64) (x : Int32) : Int64 := d * 31 + x.toInt64
def dgM (A : TA) (d : Int64) (m : Nat) : Int64 := dg (dg (dg (dg (dg (dg (dg (dg d (A.cl m)) (A.be m)) (A.of m)) (nI (plc A m))) (lgt A (plc A m + 1))) (lsA A (plc A m))) (tlt A (plc A m + 1))) (cvA A m)
def dgL (A : TA) : Nat → Nat → Int64 → Int64
  | 0, _, v => v
  | d + 1, p, v => dgL A d (p + 1) (dgM A v p)
def dgJ (A : TA) : Nat → Nat → Int64 → Int64
  | 0, _, v => v
  | d + 1, k, v => dgJ A d (k + 1) (dg (dg v (A.jk k)) (nI (A.jm k)))
def dgA (A : TA) (P : List OR4) : Int64 := dgJ A A.J 0 (dg (dg (dg (dgL A A.N 0 (dg (dg (dg (dg (dg (dg (dg 983 (nI A.N)) (nI P.length)) A.mi) 0) (lgt A A.N)) (tlt A A.N)) (snA A))) (nI A.J)) A.dn) A.go)
theorem dgM_ok {A : TA} {P : List OR4} {g : G} {m : Nat} {d : Int64} (h : RC A P g) (hm : m < A.N) : ∃ g', k8_digestOfMirror d (nI m) g = some (dgM A d m, g') ∧ RC A P g' := by
  obtain ⟨p1, p2⟩ := plc_lt h.w hm
  obtain ⟨g1, e1, q1, r1⟩ := rw_cl h.r hm
  obtain ⟨g2, e2, q2, r2⟩ := rw_be r1 hm
  obtain ⟨g3, e3, q3, r3⟩ := rw_of r2 hm
  obtain ⟨g4, e4, q4, r4⟩ := rw_lb h.w r3 hm
  obtain ⟨g5, e5, q5, r5⟩ := rw_lo h.w r4 hm
  obtain ⟨g6, e6, q6, r6⟩ := rw_ti h.w r5 hm
  have eP := rw_place r3 p1
  rw [p2] at eP
  have e1 : k4_valueOf 22 129 (nI m) g = _ := e1
  have e2 : k4_valueOf 22 145 (nI m) g1 = _ := e2
  have e3 : k4_valueOf 22 130 (nI m) g2 = _ := e3
  have e4 : k4_valueOf 22 141 (nI m) g3 = _ := e4
  have e5 : k4_valueOf 22 143 (nI m) g4 = _ := e5
  have e6 : k4_valueOf 22 144 (nI m) g5 = _ := e6
  have eP : k4_findPlace 22 (nI m) g3 = some (nI (plc A m)) := eP
  have hc : g6 22 10 = cov A := r6.cv
  refine ⟨g6, ?_, h.q (((((q1.trans q2).trans q3).trans q4).trans q5).trans q6) r6⟩
  unfold k8_digestOfMirror
  rw [e1, some_bind, bd_eq, e2, some_bind, bd_eq, e3, some_bind, bd_eq, eP, some_bind, bd_eq, e4, some_bind, bd_eq, e5, some_bind, bd_eq, e6, some_bind, bd_eq]
  show (if g6 22 10 = nI m then _ else _) = _
  rw [hc]
  unfold dgM cvA k8_digestOfMirror_193
  by_cases e : cov A = nI m
  · rw [if_pos e, if_pos e]
    rfl
  · rw [if_neg e, if_neg e]
    rfl
theorem dgJ_loop {A : TA} {P : List OR4} {g : G} (h : RC A P g) : ∀ (d k f : Nat) (v : Int64), A.J = k + d → d < f → k8_digest_163 f v (nI k) g = some (dgJ A d k v, g) := by
  have hJ12 := h.w.J12
  have hJ : g 30 2 = nI A.J := h.r.J
  intro d
  induction d with
  | zero =>
    intro k f v hd hf
    obtain ⟨f, rfl⟩ : ∃ z, f = z + 1 := ⟨f - 1, by omega⟩
    unfold k8_digest_163
    rw [hJ, if_pos (by rw [nI_leI (by omega) (by omega)]; omega)]
    rfl
  | succ d ih =>
    intro k f v hd hf
    obtain ⟨f, rfl⟩ : ∃ z, f = z + 1 := ⟨f - 1, by omega⟩
    have hk : k < A.J := by omega
    have e1 : k3_kindIn 30 (nI k) g = some (A.jk k) := kindIn_n h.w h.r hk
    have e2 : k3_mirrorIn 30 (nI k) g = some (nI (A.jm k)) := mirIn_n h.w h.r hk
    unfold k8_digest_163
    rw [hJ, if_neg (by rw [nI_leI (by omega) (by omega)]; omega), e1, some_bind, bd_eq, e2, some_bind, bd_eq, bd_eq, nI_1]
    exact ih (k + 1) f _ (by omega) (by omega)
theorem dgL_loop {A : TA} {P : List OR4} : ∀ (d p f : Nat) (v : Int64) (g : G), A.N = p + d → d < f → RC A P g → ∃ g', k8_digest_98 f v (nI p) g = some (dgJ A A.J 0 (dg (dg (dg (dgL A d p v) (nI A.J)) A.dn) A.go), g') ∧ RC A P g' := by
  intro d
  induction d with
  | zero =>
    intro p f v g hd hf h
    obtain ⟨f, rfl⟩ : ∃ z, f = z + 1 := ⟨f - 1, by omega⟩
    have hN : g 22 7 = nI A.N := h.r.N
    have hN9 := h.r.N9
    refine ⟨g, ?_, h⟩
    unfold k8_digest_98
    rw [hN, if_pos (by rw [nI_leI (by omega) (by omega)]; omega), q_jobs h, some_bind, bd_eq, q_jobsDone h, some_bind, bd_eq, q_minutesToGo h, some_bind, bd_eq]
    exact dgJ_loop h A.J 0 FU _ (by omega) (by have := h.w.J12; unfold FU; omega)
  | succ d ih =>
    intro p f v g hd hf h
    obtain ⟨f, rfl⟩ : ∃ z, f = z + 1 := ⟨f - 1, by omega⟩
    have hN : g 22 7 = nI A.N := h.r.N
    have hN9 := h.r.N9
    obtain ⟨g1, e1, h1⟩ := dgM_ok (d := v) (m := p) h (by omega)
    obtain ⟨g2, e2, h2⟩ := ih (p + 1) f (dgM A v p) g1 (by omega) (by omega) h1
    refine ⟨g2, ?_, h2⟩
    unfold k8_digest_98
    rw [hN, if_neg (by rw [nI_leI (by omega) (by omega)]; omega), e1, some_bind, bd_eq, bd_eq, nI_1]
    exact e2
theorem q_digest {A : TA} {P : List OR4} {g : G} (h : RC A P g) : ∃ g', k8_digest g = some (dgA A P, g') ∧ RC A P g' := by
  obtain ⟨g1, e1, h1⟩ := q_lightAtEnd h
  obtain ⟨g2, e2, h2⟩ := q_tiltAtEnd h1
  obtain ⟨g3, e3, h3⟩ := q_isSeen h2
  obtain ⟨g4, e4, h4⟩ := dgL_loop A.N 0 FU (dg (dg (dg (dg (dg (dg (dg 983 (nI A.N)) (nI P.length)) A.mi) 0) (lgt A A.N)) (tlt A A.N)) (snA A)) g3 (by omega) (by have := h.r.N9; unfold FU; omega) h3
  refine ⟨g4, ?_, h4⟩
  unfold k8_digest
  rw [q_mirrors h, some_bind, bd_eq, q_orders h, some_bind, bd_eq, q_minutes h, some_bind, bd_eq, q_tapeBytes h, some_bind, bd_eq, e1, some_bind, bd_eq, e2, some_bind, bd_eq, e3, some_bind]
  unfold k8_digest_93
  show (if snA A = 0 then _ else _) = _
  rcases snA_01 (A := A) with z | z
  · rw [if_pos z, bd_eq]
    refine (congrArg (fun v => k8_digest_98 FU v 0 g3) (?_ : _ = dg (dg (dg (dg (dg (dg (dg 983 (nI A.N)) (nI P.length)) A.mi) 0) (lgt A A.N)) (tlt A A.N)) (snA A))).trans e4
    rw [z]
    rfl
  · rw [if_neg (by rw [z]; decide), bd_eq]
    refine (congrArg (fun v => k8_digest_98 FU v 0 g3) (?_ : _ = dg (dg (dg (dg (dg (dg (dg 983 (nI A.N)) (nI P.length)) A.mi) 0) (lgt A A.N)) (tlt A A.N)) (snA A))).trans e4
    rw [z]
    rfl
theorem mean_all : ((List.range 1001).all fun s => (List.range 10).all fun c => decide (FP.ddiv (FP.i2d (nI s)) (FP.i2d (nI (c + 1))) &&& 0x7fffffffffffffff ≤ 0x7ff0000000000000)) = true := by decide +kernel
theorem mean_n {ρ : Type} {s c : Nat} (hs : s ≤ 1000) (hc : 0 < c ∧ c ≤ 10) {F : UInt64 → Option ρ} : ddv (FP.i2d (nI s)) (FP.i2d (nI c)) F = F (FP.ddiv (FP.i2d (nI s)) (FP.i2d (nI c))) := by
  have h := List.all_eq_true.mp (List.all_eq_true.mp mean_all s (List.mem_range.mpr (by omega))) (c - 1) (List.mem_range.mpr (by omega))
  have h := of_decide_eq_true h
  rw [show c - 1 + 1 = c by omega] at h
  exact if_pos h
def cs (cl : Nat → Int32) : Nat → Int32
  | 0 => 0
  | p + 1 => cs cl p + cl p
theorem cs_rng {cl : Nat → Int32} {N : Nat} (h : ∀ m, m < N → ∃ c, c ≤ 100 ∧ cl m = nI c) : ∀ p, p ≤ N → ∃ s, s ≤ 100 * p ∧ cs cl p = nI s := by
  intro p
  induction p with
  | zero => intro _; exact ⟨0, by omega, rfl⟩
  | succ p ih =>
    intro hp
    obtain ⟨s, s1, s2⟩ := ih (by omega)
    obtain ⟨c, c1, c2⟩ := h p (by omega)
    exact ⟨s + c, by omega, by unfold cs; rw [s2, c2, nI_add]⟩
theorem WA.cs {A : TA} (h : WA A) : ∃ s, s ≤ 1000 ∧ cs A.cl A.N = nI s := by
  obtain ⟨s, s1, s2⟩ := cs_rng (cl := A.cl) (N := A.N) (fun m hm => by
    obtain ⟨⟨b1, b2⟩, -⟩ := h.rng hm
    obtain ⟨i, hi, e⟩ := nI_of2 (M := 100) (n := 100) rfl (Int32.not_lt.mpr b1) b2
    exact ⟨i, hi, e⟩) A.N (Nat.le_refl _)
  have := h.N9
  exact ⟨s, by omega, s2⟩
def mnA (A : TA) : UInt64 := FP.ddiv (FP.i2d (cs A.cl A.N)) (FP.i2d (nI A.N))
theorem mean_loop {A : TA} {P : List OR4} (h0 : 0 < A.N) : ∀ (d p f : Nat) (g : G), A.N = p + d → d < f → RC A P g → ∃ g', k8_meanClarity_21 f (nI A.N) (cs A.cl p) (nI p) g = some (mnA A, g') ∧ RC A P g' := by
  intro d
  induction d with
  | zero =>
    intro p f g hd hf h
    obtain ⟨f, rfl⟩ : ∃ z, f = z + 1 := ⟨f - 1, by omega⟩
    obtain rfl : A.N = p := by omega
    have hN9 := h.r.N9
    obtain ⟨s, s1, s2⟩ := h.w.cs
    refine ⟨g, ?_, h⟩
    unfold k8_meanClarity_21 mnA
    rw [if_pos (by rw [nI_leI (by omega) (by omega)]; omega), s2, mean_n s1 ⟨h0, hN9⟩]
  | succ d ih =>
    intro p f g hd hf h
    obtain ⟨f, rfl⟩ : ∃ z, f = z + 1 := ⟨f - 1, by omega⟩
    have hN9 := h.r.N9
    obtain ⟨g1, e1, q1, r1⟩ := rw_cl h.r (show p < A.N by omega)
    have e1 : k4_valueOf 22 129 (nI p) g = _ := e1
    obtain ⟨g', a1, a2⟩ := ih (p + 1) f g1 (by omega) (by omega) (h.q q1 r1)
    refine ⟨g', ?_, a2⟩
    unfold k8_meanClarity_21
    rw [if_neg (by rw [nI_leI (by omega) (by omega)]; omega), e1, some_bind, bd_eq, bd_eq, nI_1]
    exact a1
theorem q_meanClarity {A : TA} {P : List OR4} {g : G} (h : RC A P g) (h0 : 0 < A.N) : ∃ g', k8_meanClarity g = some (mnA A, g') ∧ RC A P g' := by
  have hN : g 22 7 = nI A.N := h.r.N
  have hN9 := h.r.N9
  obtain ⟨g', e, h'⟩ := mean_loop h0 A.N 0 FU g (by omega) (by unfold FU; omega) h
  refine ⟨g', ?_, h'⟩
  unfold k8_meanClarity
  rw [hN, bd_eq, if_neg (nI_ne0 h0 (by omega))]
  exact e
