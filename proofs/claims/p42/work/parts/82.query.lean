/-! the plan: steps of a sum, steps of a test, orders -/
abbrev SS : Type := Nat × Int32
abbrev OR4 : Type := Nat × Nat × List SS × List SS
def usesV (c : Nat) : Bool := c == 3 || c == 129 || c == 130 || c == 143 || c == 144 || c == 145 || c == 148 || c == 133 || c == 135 || c == 136 || c == 137 || c == 138
def doStep (d : Nat) : Nat := if d = 0 then 136 else if d = 1 then 137 else if d = 2 then 138 else if d = 3 then 133 else 135
def oSteps (o : OR4) : List SS := o.2.2.1 ++ ((if o.2.2.2 = [] then [(7, 0)] else o.2.2.2) ++ [(doStep o.1, nI o.2.1)])
def pSteps (P : List OR4) : List SS := P.flatMap oSteps
def RPl (P : List OR4) (g : G) : Prop := P.length ≤ 16 ∧ g 16 5 = nI P.length ∧ (pSteps P).length ≤ 400 ∧ g 16 8 = nI (pSteps P).length ∧ ∀ (j : Nat) (c : Nat) (v : Int32), (pSteps P)[j]? = some (c, v) → g 19 j = nI c ∧ (usesV c = true → g 20 j = v)
theorem RPl.frame {P : List OR4} {g g' : G} (h : RPl P g) (h1 : g' 16 = g 16) (h2 : g' 19 = g 19) (h3 : g' 20 = g 20) : RPl P g' := by
  obtain ⟨a1, a2, a3, a4, a5⟩ := h
  exact ⟨a1, by rw [h1]; exact a2, a3, by rw [h1]; exact a4, fun j c v e => by rw [h2, h3]; exact a5 j c v e⟩
/-- what holds of the class between two calls -/
def RC (A : TA) (P : List OR4) (g : G) : Prop := RW 21 A g ∧ WA A ∧ RPl P g ∧ g 1 1 = 0
theorem RC.r {A : TA} {P : List OR4} {g : G} (h : RC A P g) : RW 21 A g := h.1
theorem RC.w {A : TA} {P : List OR4} {g : G} (h : RC A P g) : WA A := h.2.1
theorem RC.p {A : TA} {P : List OR4} {g : G} (h : RC A P g) : RPl P g := h.2.2.1
theorem RC.t {A : TA} {P : List OR4} {g : G} (h : RC A P g) : g 1 1 = 0 := h.2.2.2
theorem RC.q {A : TA} {P : List OR4} {g g' : G} (h : RC A P g) (hq : fQ 21 g g') (r : RW 21 A g') : RC A P g' := ⟨r, h.w, h.p.frame (hq.1 16 (by decide) (by decide) (by decide) (by decide)) (hq.1 19 (by decide) (by decide) (by decide) (by decide)) (hq.1 20 (by decide) (by decide) (by decide) (by decide)), by rw [hq.1 1 (by decide) (by decide) (by decide) (by decide)]; exact h.t⟩
theorem RC.chk {A : TA} {P : List OR4} {g : G} (h : RC A P g) {m : Nat} (hm : m < A.N) : k8_checkMirror (nI m) g = some (0, 0, g) := chk_in h.r.N h.r.N9 hm
theorem RC.chkJ {A : TA} {P : List OR4} {g : G} (h : RC A P g) {k : Nat} (hk : k < A.J) : k8_checkJob (nI k) g = some (0, 0, g) := chkJ_in h.r.J h.w.J12 hk
theorem q_mirrors {A : TA} {P : List OR4} {g : G} (h : RC A P g) : k8_mirrors g = some (nI A.N) := by
  unfold k8_mirrors
  rw [h.r.N]
theorem q_orders {A : TA} {P : List OR4} {g : G} (h : RC A P g) : k8_orders g = some (nI P.length) := by
  unfold k8_orders
  rw [h.p.2.1]
theorem q_minutes {A : TA} {P : List OR4} {g : G} (h : RC A P g) : k8_minutes g = some A.mi := by
  unfold k8_minutes
  rw [h.r.mi]
theorem q_tapeBytes {A : TA} {P : List OR4} {g : G} (h : RC A P g) : k8_tapeBytes g = some 0 := by
  unfold k8_tapeBytes
  rw [h.t]
theorem q_jobs {A : TA} {P : List OR4} {g : G} (h : RC A P g) : k8_jobs g = some (nI A.J) := by
  unfold k8_jobs
  rw [h.r.J]
theorem q_jobsDone {A : TA} {P : List OR4} {g : G} (h : RC A P g) : k8_jobsDone g = some A.dn := by
  unfold k8_jobsDone
  rw [h.r.dn]
theorem q_minutesToGo {A : TA} {P : List OR4} {g : G} (h : RC A P g) : k8_minutesToGo g = some A.go := by
  unfold k8_minutesToGo
  rw [h.r.go]
theorem q_lightAtEnd {A : TA} {P : List OR4} {g : G} (h : RC A P g) : ∃ g', k8_lightAtEnd g = some (lgt A A.N, g') ∧ RC A P g' := by
  obtain ⟨g', e, q, r⟩ := rw_end h.r
  refine ⟨g', ?_, h.q q r⟩
  unfold k8_lightAtEnd
  rw [e]
  rfl
theorem q_tiltAtEnd {A : TA} {P : List OR4} {g : G} (h : RC A P g) : ∃ g', k8_tiltAtEnd g = some (tlt A A.N, g') ∧ RC A P g' := by
  obtain ⟨g', e, q, r⟩ := rw_tilt h.r
  refine ⟨g', ?_, h.q q r⟩
  unfold k8_tiltAtEnd
  rw [e]
  rfl
theorem snA_01 {A : TA} : snA A = 0 ∨ snA A = 1 := seenV_01
theorem q_isSeen {A : TA} {P : List OR4} {g : G} (h : RC A P g) : ∃ g', k8_isSeen g = some (snA A, g') ∧ RC A P g' := by
  obtain ⟨g', e, q, r⟩ := rw_seen h.r
  refine ⟨g', ?_, h.q q r⟩
  unfold k8_isSeen
  rw [e, some_bind]
  exact zr_01 snA_01
theorem q_clarityOf {A : TA} {P : List OR4} {g : G} {m : Nat} (h : RC A P g) (hm : m < A.N) : ∃ g', k8_clarityOf (nI m) g = some (0, A.cl m, g') ∧ RC A P g' := by
  obtain ⟨g', e, q, r⟩ := rw_cl h.r hm
  refine ⟨g', ?_, h.q q r⟩
  unfold k8_clarityOf
  rw [h.chk hm, xb_0, e]
  rfl
theorem q_bestClarityOf {A : TA} {P : List OR4} {g : G} {m : Nat} (h : RC A P g) (hm : m < A.N) : ∃ g', k8_bestClarityOf (nI m) g = some (0, A.be m, g') ∧ RC A P g' := by
  obtain ⟨g', e, q, r⟩ := rw_be h.r hm
  refine ⟨g', ?_, h.q q r⟩
  unfold k8_bestClarityOf
  rw [h.chk hm, xb_0, e]
  rfl
theorem q_offsetOf {A : TA} {P : List OR4} {g : G} {m : Nat} (h : RC A P g) (hm : m < A.N) : ∃ g', k8_offsetOf (nI m) g = some (0, A.of m, g') ∧ RC A P g' := by
  obtain ⟨g', e, q, r⟩ := rw_of h.r hm
  refine ⟨g', ?_, h.q q r⟩
  unfold k8_offsetOf
  rw [h.chk hm, xb_0, e]
  rfl
theorem q_lightBehind {A : TA} {P : List OR4} {g : G} {m : Nat} (h : RC A P g) (hm : m < A.N) : ∃ g', k8_lightBehind (nI m) g = some (0, lgt A (plc A m + 1), g') ∧ RC A P g' := by
  obtain ⟨g', e, q, r⟩ := rw_lb h.w h.r hm
  refine ⟨g', ?_, h.q q r⟩
  unfold k8_lightBehind
  rw [h.chk hm, xb_0, e]
  rfl
theorem q_lostAt {A : TA} {P : List OR4} {g : G} {m : Nat} (h : RC A P g) (hm : m < A.N) : ∃ g', k8_lostAt (nI m) g = some (0, lgt A (plc A m) - lgt A (plc A m + 1), g') ∧ RC A P g' := by
  obtain ⟨g', e, q, r⟩ := rw_lo h.w h.r hm
  refine ⟨g', ?_, h.q q r⟩
  unfold k8_lostAt
  rw [h.chk hm, xb_0, e]
  rfl
theorem q_tiltBehind {A : TA} {P : List OR4} {g : G} {m : Nat} (h : RC A P g) (hm : m < A.N) : ∃ g', k8_tiltBehind (nI m) g = some (0, tlt A (plc A m + 1), g') ∧ RC A P g' := by
  obtain ⟨g', e, q, r⟩ := rw_ti h.w h.r hm
  refine ⟨g', ?_, h.q q r⟩
  unfold k8_tiltBehind
  rw [h.chk hm, xb_0, e]
  rfl
theorem q_placeOf {A : TA} {P : List OR4} {g : G} {m : Nat} (h : RC A P g) (hm : m < A.N) : k8_placeOf (nI m) g = some (0, nI (plc A m), g) := by
  obtain ⟨p1, p2⟩ := plc_lt h.w hm
  have e := rw_place h.r p1
  rw [p2] at e
  unfold k8_placeOf
  rw [h.chk hm, xb_0, e]
  rfl
def cvA (A : TA) (m : Nat) : Int32 := if cov A = nI m then 1 else 0
theorem q_isCovered {A : TA} {P : List OR4} {g : G} {m : Nat} (h : RC A P g) (hm : m < A.N) : k8_isCovered (nI m) g = some (0, cvA A m, g) := by
  have e : g 22 10 = cov A := h.r.cv
  unfold k8_isCovered cvA
  rw [h.chk hm, xb_0, e]
  split <;> rfl
theorem q_mirrorAt {A : TA} {P : List OR4} {g : G} {p : Nat} (h : RC A P g) (hp : p < A.N) : k8_mirrorAt (nI p) g = some (0, nI (A.rw p), g) := by
  have hN : g 22 7 = nI A.N := h.r.N
  have e : k4_mirrorIn 22 (nI p) g = some (nI (A.rw p)) := k4_mirrorIn_n h.r.N h.r.row hp
  have := h.r.N9
  unfold k8_mirrorAt
  rw [if_neg (nI_pos (by omega)), hN, if_pos ((nI_ltI (by omega) (by omega)).mpr hp), e]
  rfl
theorem kindIn_n {w k : Nat} {A : TA} {g : G} (hA : WA A) (h : RW w A g) (hk : k < A.J) : k3_kindIn (w + 9) (nI k) g = some (A.jk k) := by
  have := hA.J12
  unfold k3_kindIn
  rw [if_neg (nI_pos (by omega)), h.J, if_neg (by rw [nI_leI (by omega) (by omega)]; omega), ld_n (by omega) (by omega), (h.j hk).1]
theorem mirIn_n {w k : Nat} {A : TA} {g : G} (hA : WA A) (h : RW w A g) (hk : k < A.J) : k3_mirrorIn (w + 9) (nI k) g = some (nI (A.jm k)) := by
  have := hA.J12
  unfold k3_mirrorIn
  rw [if_neg (nI_pos (by omega)), h.J, if_neg (by rw [nI_leI (by omega) (by omega)]; omega), ld_n (by omega) (by omega), (h.j hk).2]
theorem q_kindOfJob {A : TA} {P : List OR4} {g : G} {k : Nat} (h : RC A P g) (hk : k < A.J) : k8_kindOfJob (nI k) g = some (0, A.jk k, g) := by
  have e : k3_kindIn 30 (nI k) g = some (A.jk k) := kindIn_n h.w h.r hk
  unfold k8_kindOfJob
  rw [h.chkJ hk, xb_0, e]
  rfl
theorem q_mirrorOfJob {A : TA} {P : List OR4} {g : G} {k : Nat} (h : RC A P g) (hk : k < A.J) : k8_mirrorOfJob (nI k) g = some (0, nI (A.jm k), g) := by
  have e : k3_mirrorIn 30 (nI k) g = some (nI (A.jm k)) := mirIn_n h.w h.r hk
  unfold k8_mirrorOfJob
  rw [h.chkJ hk, xb_0, e]
  rfl
/-! the mirror that loses most -/
def lsA (A : TA) (p : Nat) : Int32 := lgt A p - lgt A (p + 1)
def wstA (A : TA) : Nat → Nat → Nat → Nat
  | 0, _, z => z
  | d + 1, p, z => if lsA A p ≤ lsA A z then wstA A d (p + 1) z else wstA A d (p + 1) p
theorem wstA_lt {A : TA} : ∀ d p z, p + d = A.N → z < A.N → wstA A d p z < A.N := by
  intro d
  induction d with
  | zero => intro p z _ hz; exact hz
  | succ d ih =>
    intro p z hp hz
    unfold wstA
    split
    · exact ih _ _ (by omega) hz
    · exact ih _ _ (by omega) (by omega)
theorem wst_loop {w : Nat} {A : TA} {g : G} (h : RW w A g) (hb : ∀ q, q < A.N → g (w + 1 + 6) (A.rw q) = lsA A q) : ∀ (d p f z : Nat), A.N = p + d → d < f → z < A.N → k4_mostLosing_12 (w + 1) f (nI (A.rw z)) (nI p) g = some (nI (A.rw (wstA A d p z)), g) := by
  have hN9 := h.N9
  have hN := h.N
  have hR := h.row
  intro d
  induction d with
  | zero =>
    intro p f z hd hf hz
    obtain ⟨f, rfl⟩ : ∃ y, f = y + 1 := ⟨f - 1, by omega⟩
    unfold k4_mostLosing_12
    rw [hN, if_pos (by rw [nI_leI (by omega) (by omega)]; omega)]
    rfl
  | succ d ih =>
    intro p f z hd hf hz
    obtain ⟨f, rfl⟩ : ∃ y, f = y + 1 := ⟨f - 1, by omega⟩
    have hp : p < A.N := by omega
    have hrp := (hR.2.1 p hp).2
    have hrz := (hR.2.1 z hz).2
    unfold k4_mostLosing_12 wstA
    rw [hN, if_neg (by rw [nI_leI (by omega) (by omega)]; omega), k4_mirrorIn_n hN hR hp, some_bind, k4_has_n hN hN9 hrp, some_bind, if_neg (by decide), k4_has_n hN hN9 hrz, some_bind, if_neg (by decide), ld_n (by omega) (by omega), ld_n (by omega) (by omega), hb p hp, hb z hz]
    by_cases hc : lsA A p ≤ lsA A z
    · rw [if_pos hc, if_pos hc, bd_eq, nI_1]
      exact ih (p + 1) f z (by omega) (by omega) hz
    · rw [if_neg hc, if_neg hc, bd_eq, nI_1]
      exact ih (p + 1) f p (by omega) (by omega) hp
theorem q_worstMirror {A : TA} {P : List OR4} {g : G} (h : RC A P g) (h0 : 0 < A.N) : ∃ g', k8_worstMirror g = some (0, nI (A.rw (wstA A (A.N - 1) 1 0)), g') ∧ RC A P g' := by
  obtain ⟨g', e1, l1, r1, -, -, e2⟩ := rw_shine h.r
  have hN9 := h.r.N9
  have hN : g 22 7 = nI A.N := h.r.N
  have e1 : k4_shine 22 g = some g' := e1
  have e3 : k4_mirrorIn 22 0 g' = some (nI (A.rw 0)) := k4_mirrorIn_n (j := 0) r1.N r1.row h0
  have e4 : k4_mostLosing_12 22 FU (nI (A.rw 0)) 1 g' = some (nI (A.rw (wstA A (A.N - 1) 1 0)), g') := wst_loop r1 (fun q hq => (e2 q hq).2.1) (A.N - 1) 1 FU 0 (by omega) (by unfold FU; omega) h0
  refine ⟨g', ?_, h.q l1.q r1⟩
  unfold k8_worstMirror k4_mostLosing
  rw [hN, if_neg (nI_ne0 h0 (by omega)), e1, some_bind, e3, some_bind, e4]
  rfl
