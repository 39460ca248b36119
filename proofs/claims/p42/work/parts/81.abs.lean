/-! the train in numbers: what the class and the law both keep: mirrors, width, limit, clarity, best, offset, row, jobs, their kinds and mirrors, minutes to go, minute, jobs done -/
abbrev TA : Type := Nat × Int32 × Int32 × (Nat → Int32) × (Nat → Int32) × (Nat → Int32) × (Nat → Nat) × Nat × (Nat → Int32) × (Nat → Nat) × Int32 × Int32 × Int32
abbrev TA.N (A : TA) : Nat := A.1
abbrev TA.W (A : TA) : Int32 := A.2.1
abbrev TA.lim (A : TA) : Int32 := A.2.2.1
abbrev TA.cl (A : TA) : Nat → Int32 := A.2.2.2.1
abbrev TA.be (A : TA) : Nat → Int32 := A.2.2.2.2.1
abbrev TA.of (A : TA) : Nat → Int32 := A.2.2.2.2.2.1
abbrev TA.rw (A : TA) : Nat → Nat := A.2.2.2.2.2.2.1
abbrev TA.J (A : TA) : Nat := A.2.2.2.2.2.2.2.1
abbrev TA.jk (A : TA) : Nat → Int32 := A.2.2.2.2.2.2.2.2.1
abbrev TA.jm (A : TA) : Nat → Nat := A.2.2.2.2.2.2.2.2.2.1
abbrev TA.go (A : TA) : Int32 := A.2.2.2.2.2.2.2.2.2.2.1
abbrev TA.mi (A : TA) : Int32 := A.2.2.2.2.2.2.2.2.2.2.2.1
abbrev TA.dn (A : TA) : Int32 := A.2.2.2.2.2.2.2.2.2.2.2.2
def TA.sCl (A : TA) (f : Nat → Int32) : TA := (A.N, A.W, A.lim, f, A.be, A.of, A.rw, A.J, A.jk, A.jm, A.go, A.mi, A.dn)
def TA.sBe (A : TA) (f : Nat → Int32) : TA := (A.N, A.W, A.lim, A.cl, f, A.of, A.rw, A.J, A.jk, A.jm, A.go, A.mi, A.dn)
def TA.sOf (A : TA) (f : Nat → Int32) : TA := (A.N, A.W, A.lim, A.cl, A.be, f, A.rw, A.J, A.jk, A.jm, A.go, A.mi, A.dn)
def TA.sRw (A : TA) (f : Nat → Nat) : TA := (A.N, A.W, A.lim, A.cl, A.be, A.of, f, A.J, A.jk, A.jm, A.go, A.mi, A.dn)
def TA.sQ (A : TA) (J : Nat) (k : Nat → Int32) (m : Nat → Nat) (go : Int32) : TA := (A.N, A.W, A.lim, A.cl, A.be, A.of, A.rw, J, k, m, go, A.mi, A.dn)
def TA.sGo (A : TA) (go : Int32) : TA := (A.N, A.W, A.lim, A.cl, A.be, A.of, A.rw, A.J, A.jk, A.jm, go, A.mi, A.dn)
def TA.sMi (A : TA) (mi : Int32) : TA := (A.N, A.W, A.lim, A.cl, A.be, A.of, A.rw, A.J, A.jk, A.jm, A.go, mi, A.dn)
def TA.sDn (A : TA) (dn : Int32) : TA := (A.N, A.W, A.lim, A.cl, A.be, A.of, A.rw, A.J, A.jk, A.jm, A.go, A.mi, dn)
def cov (A : TA) : Int32 := if A.go ≤ 0 then -1 else nI (A.jm 0)
def lgt (A : TA) (p : Nat) : Int32 := shL A.cl A.of A.rw A.W (cov A) p
def tlt (A : TA) (p : Nat) : Int32 := shA A.of A.rw p
def snA (A : TA) : Int32 := seenV (lgt A A.N) A.lim A.W (tlt A A.N)
/-- where a mirror is -/
def plcR (rw : Nat → Nat) (m : Nat) : Nat → Nat → Nat
  | 0, p => p
  | d + 1, p => if rw p = m then p else plcR rw m d (p + 1)
def plc (A : TA) (m : Nat) : Nat := plcR A.rw m A.N 0
def WA (A : TA) : Prop := A.N ≤ 10 ∧ (∀ p, p < A.N → A.rw p < A.N) ∧ (∀ p q, p < A.N → q < A.N → A.rw p = A.rw q → p = q) ∧ (∀ m, m < A.N → (0 ≤ A.cl m ∧ A.cl m ≤ 100) ∧ (0 ≤ A.be m ∧ A.be m ≤ 100) ∧ (-90 ≤ A.of m ∧ A.of m ≤ 90)) ∧ A.J ≤ 12 ∧ (∀ k, k < A.J → A.jm k < A.N ∧ (A.jk k = 0 ∨ A.jk k = 1 ∨ A.jk k = 2)) ∧ (∀ k j, k < j → j < A.J → ¬ (A.jk k = A.jk j ∧ A.jm k = A.jm j)) ∧ ¬ A.go < 0 ∧ (A.J = 0 → A.go = 0)
theorem WA.N9 {A : TA} (h : WA A) : A.N ≤ 10 := h.1
theorem WA.lt {A : TA} (h : WA A) {p : Nat} (hp : p < A.N) : A.rw p < A.N := h.2.1 p hp
theorem WA.inj {A : TA} (h : WA A) {p q : Nat} (hp : p < A.N) (hq : q < A.N) (e : A.rw p = A.rw q) : p = q := h.2.2.1 p q hp hq e
theorem WA.rng {A : TA} (h : WA A) {m : Nat} (hm : m < A.N) : (0 ≤ A.cl m ∧ A.cl m ≤ 100) ∧ (0 ≤ A.be m ∧ A.be m ≤ 100) ∧ (-90 ≤ A.of m ∧ A.of m ≤ 90) := h.2.2.2.1 m hm
theorem WA.J12 {A : TA} (h : WA A) : A.J ≤ 12 := h.2.2.2.2.1
theorem WA.jb {A : TA} (h : WA A) {k : Nat} (hk : k < A.J) : A.jm k < A.N ∧ (A.jk k = 0 ∨ A.jk k = 1 ∨ A.jk k = 2) := h.2.2.2.2.2.1 k hk
theorem WA.go0 {A : TA} (h : WA A) : ¬ A.go < 0 := h.2.2.2.2.2.2.2.1
theorem WA.J0 {A : TA} (h : WA A) : A.J = 0 → A.go = 0 := h.2.2.2.2.2.2.2.2
theorem WA.surj {A : TA} (h : WA A) {m : Nat} (hm : m < A.N) : ∃ p, p < A.N ∧ A.rw p = m := inj_surj A.N A.rw h.2.1 h.2.2.1 m hm
theorem plcR_eq {rw : Nat → Nat} {m N q : Nat} (hq : q < N) (he : rw q = m) (hi : ∀ p, p < N → rw p = m → p = q) : ∀ d p, p + d = N → p ≤ q → plcR rw m d p = q := by
  intro d
  induction d with
  | zero => intro p h1 h2; omega
  | succ d ih =>
    intro p h1 h2
    unfold plcR
    by_cases e : rw p = m
    · rw [if_pos e]
      exact hi p (by omega) e
    · rw [if_neg e]
      have hne : p ≠ q := fun z => e (by rw [z]; exact he)
      exact ih (p + 1) (by omega) (by omega)
theorem plc_rw {A : TA} (h : WA A) {q : Nat} (hq : q < A.N) : plc A (A.rw q) = q := plcR_eq hq rfl (fun p hp e => h.inj hp hq e) A.N 0 (by omega) (by omega)
theorem plc_lt {A : TA} (h : WA A) {m : Nat} (hm : m < A.N) : plc A m < A.N ∧ A.rw (plc A m) = m := by
  obtain ⟨p, hp, rfl⟩ := h.surj hm
  rw [plc_rw h hp]
  exact ⟨hp, rfl⟩
/-- the class's world at w keeps the train A -/
def RW (w : Nat) (A : TA) (g : G) : Prop := g (w + 1) 7 = nI A.N ∧ g (w + 1) 8 = A.W ∧ g (w + 1) 9 = A.lim ∧ g (w + 1) 10 = cov A ∧ isRow g (w + 1 + 4) A.N A.rw ∧ (∀ m, m < A.N → g (w + 1 + 1) m = A.cl m ∧ g (w + 1 + 2) m = A.be m ∧ g (w + 1 + 3) m = A.of m) ∧ litOK (w + 1) g A.rw A.N ∧ g (w + 9) 2 = nI A.J ∧ g (w + 9) 3 = A.go ∧ g (w + 9) 4 = A.dn ∧ (∀ k, k < A.J → g (w + 9 + 1) k = A.jk k ∧ g (w + 9 + 2) k = nI (A.jm k)) ∧ g w 5 = A.mi
theorem RW.N {w : Nat} {A : TA} {g : G} (h : RW w A g) : g (w + 1) 7 = nI A.N := h.1
theorem RW.W {w : Nat} {A : TA} {g : G} (h : RW w A g) : g (w + 1) 8 = A.W := h.2.1
theorem RW.lim {w : Nat} {A : TA} {g : G} (h : RW w A g) : g (w + 1) 9 = A.lim := h.2.2.1
theorem RW.cv {w : Nat} {A : TA} {g : G} (h : RW w A g) : g (w + 1) 10 = cov A := h.2.2.2.1
theorem RW.row {w : Nat} {A : TA} {g : G} (h : RW w A g) : isRow g (w + 1 + 4) A.N A.rw := h.2.2.2.2.1
theorem RW.m {w : Nat} {A : TA} {g : G} (h : RW w A g) {m : Nat} (hm : m < A.N) : g (w + 1 + 1) m = A.cl m ∧ g (w + 1 + 2) m = A.be m ∧ g (w + 1 + 3) m = A.of m := h.2.2.2.2.2.1 m hm
theorem RW.lok {w : Nat} {A : TA} {g : G} (h : RW w A g) : litOK (w + 1) g A.rw A.N := h.2.2.2.2.2.2.1
theorem RW.J {w : Nat} {A : TA} {g : G} (h : RW w A g) : g (w + 9) 2 = nI A.J := h.2.2.2.2.2.2.2.1
theorem RW.go {w : Nat} {A : TA} {g : G} (h : RW w A g) : g (w + 9) 3 = A.go := h.2.2.2.2.2.2.2.2.1
theorem RW.dn {w : Nat} {A : TA} {g : G} (h : RW w A g) : g (w + 9) 4 = A.dn := h.2.2.2.2.2.2.2.2.2.1
theorem RW.j {w : Nat} {A : TA} {g : G} (h : RW w A g) {k : Nat} (hk : k < A.J) : g (w + 9 + 1) k = A.jk k ∧ g (w + 9 + 2) k = nI (A.jm k) := h.2.2.2.2.2.2.2.2.2.2.1 k hk
theorem RW.mi {w : Nat} {A : TA} {g : G} (h : RW w A g) : g w 5 = A.mi := h.2.2.2.2.2.2.2.2.2.2.2
theorem RW.N9 {w : Nat} {A : TA} {g : G} (h : RW w A g) : A.N ≤ 10 := h.row.1
theorem RW.fr {w : Nat} {A : TA} {g g' : G} (h : RW w A g) (c : ∀ i, 1 ≤ i → i ≤ 4 → g' (w + 1 + i) = g (w + 1 + i)) (cq : ∀ i, i ≤ 2 → g' (w + 9 + i) = g (w + 9 + i)) (k : ∀ i, 7 ≤ i → i ≤ 10 → g' (w + 1) i = g (w + 1) i) (k5 : g' w 5 = g w 5) (hl : litOK (w + 1) g' A.rw A.N) : RW w A g' := by
  have c0 : g' (w + 9) = g (w + 9) := cq 0 (by omega)
  refine ⟨by rw [k 7 (by omega) (by omega)]; exact h.N, by rw [k 8 (by omega) (by omega)]; exact h.W, by rw [k 9 (by omega) (by omega)]; exact h.lim, by rw [k 10 (by omega) (by omega)]; exact h.cv, isRow_same (c 4 (by omega) (by omega)) h.row, fun m hm => ?_, hl, by rw [c0]; exact h.J, by rw [c0]; exact h.go, by rw [c0]; exact h.dn, fun i hi => ?_, by rw [k5]; exact h.mi⟩
  · rw [c 1 (by omega) (by omega), c 2 (by omega) (by omega), c 3 (by omega) (by omega)]
    exact h.m hm
  · rw [cq 1 (by omega), cq 2 (by omega)]
    exact h.j hi
theorem litOK_same {o N : Nat} {rw : Nat → Nat} {g g' : G} (hf : ∀ i, i ≤ 7 → g' (o + i) = g (o + i)) (h : litOK o g rw N) : litOK o g' rw N := by
  have h0 : g' o = g o := hf 0 (by omega)
  unfold litOK at h ⊢
  rw [h0, hf 1 (by omega), hf 3 (by omega)]
  rcases h with h | ⟨h, ha, hb, hc⟩
  · exact Or.inl h
  · exact Or.inr ⟨h, litTo_same (hf 5 (by omega)) (hf 6 (by omega)) (hf 7 (by omega)) ha, hb, hc⟩
theorem RW.far {w : Nat} {A : TA} {g g' : G} (h : RW w A g) (hf : ∀ a, w + 1 ≤ a → a ≤ w + 11 → g' a = g a) (h5 : g' w 5 = g w 5) : RW w A g' :=
  h.fr (fun i _ _ => hf _ (by omega) (by omega)) (fun i _ => hf _ (by omega) (by omega)) (fun i _ _ => by rw [hf _ (by omega) (by omega)]) h5 (litOK_same (fun i _ => hf _ (by omega) (by omega)) h.lok)
theorem RW.lit {w : Nat} {A : TA} {g g' : G} (h : RW w A g) (hl : litOf (w + 1) A.rw A.N g g') : RW w A g' := by
  obtain ⟨a1, a2, -⟩ := id hl
  exact h.fr (fun i i1 i2 => a1 _ (by omega) (by omega) (by omega) (by omega)) (fun i hi => a1 _ (by omega) (by omega) (by omega) (by omega)) (fun i i1 i2 => a2 i (by omega) (by omega) (by omega)) (by rw [a1 w (by omega) (by omega) (by omega) (by omega)]) hl.ok
theorem RW.eqL {w : Nat} {A : TA} {g : G} (h : RW w A g) {n : Nat} (hn : n ≤ A.N) : shL (g (w + 1 + 1)) (g (w + 1 + 3)) A.rw (g (w + 1) 8) (g (w + 1) 10) n = lgt A n := by
  rw [h.W, h.cv]
  exact shL_congr (fun p hp => (h.m (h.row.2.1 p hp).2).1) (fun p hp => (h.m (h.row.2.1 p hp).2).2.2) n hn
theorem RW.eqA {w : Nat} {A : TA} {g : G} (h : RW w A g) {n : Nat} (hn : n ≤ A.N) : shA (g (w + 1 + 3)) A.rw n = tlt A n := shA_congr (fun p hp => (h.m (h.row.2.1 p hp).2).2.2) n hn
theorem rw_shine {w : Nat} {A : TA} {g : G} (h : RW w A g) : ∃ g', k4_shine (w + 1) g = some g' ∧ litOf (w + 1) A.rw A.N g g' ∧ RW w A g' ∧ g' (w + 1) 11 = lgt A A.N ∧ g' (w + 1) 12 = tlt A A.N ∧ ∀ q, q < A.N → g' (w + 1 + 5) (A.rw q) = lgt A (q + 1) ∧ g' (w + 1 + 6) (A.rw q) = lgt A q - lgt A (q + 1) ∧ g' (w + 1 + 7) (A.rw q) = tlt A (q + 1) := by
  obtain ⟨g', e1, l1⟩ := k4_shine_ok h.N h.row h.lok
  obtain ⟨m1, m2, m3, m4, m5, m6⟩ := id l1
  refine ⟨g', e1, l1, h.lit l1, by rw [m5, h.eqL (Nat.le_refl _)], by rw [m6, h.eqA (Nat.le_refl _)], fun q hq => ?_⟩
  obtain ⟨a1, a2, a3⟩ := m4 q hq
  refine ⟨by rw [a1, h.eqL (by omega)], by rw [a2, h.eqL (by omega), h.eqL (by omega)], by rw [a3, h.eqA (by omega)]⟩
/-- what the light's reckoning leaves alone -/
def fQ (w : Nat) (g g' : G) : Prop := (∀ a, a ≠ w + 1 → a ≠ w + 1 + 5 → a ≠ w + 1 + 6 → a ≠ w + 1 + 7 → g' a = g a) ∧ ∀ k, k ≠ 11 → k ≠ 12 → k ≠ 13 → g' (w + 1) k = g (w + 1) k
theorem fQ.refl {w : Nat} {g : G} : fQ w g g := ⟨fun _ _ _ _ _ => rfl, fun _ _ _ _ => rfl⟩
theorem fQ.trans {w : Nat} {a b c : G} (h : fQ w a b) (h' : fQ w b c) : fQ w a c := ⟨fun x h1 h2 h3 h4 => (h'.1 x h1 h2 h3 h4).trans (h.1 x h1 h2 h3 h4), fun k h1 h2 h3 => (h'.2 k h1 h2 h3).trans (h.2 k h1 h2 h3)⟩
theorem litOf.q {w N : Nat} {rw : Nat → Nat} {g g' : G} (h : litOf (w + 1) rw N g g') : fQ w g g' := ⟨h.1, h.2.1⟩
theorem rw_pre {w m : Nat} {A : TA} {g : G} (h : RW w A g) (hm : m < A.N) : k4_has (w + 1) (nI m) g = some 1 := k4_has_n h.N h.N9 hm
theorem rw_cl {w m : Nat} {A : TA} {g : G} (h : RW w A g) (hm : m < A.N) : ∃ g', k4_valueOf (w + 1) 129 (nI m) g = some (A.cl m, g') ∧ fQ w g g' ∧ RW w A g' := by
  obtain ⟨g', e1, l1, r1, -, -, -⟩ := rw_shine h
  have := h.N9
  refine ⟨g', ?_, l1.q, r1⟩
  unfold k4_valueOf
  rw [rw_pre h hm, some_bind, if_neg (by decide), e1, some_bind, if_pos rfl, ld_n (by omega) (by omega), (r1.m hm).1]
theorem rw_of {w m : Nat} {A : TA} {g : G} (h : RW w A g) (hm : m < A.N) : ∃ g', k4_valueOf (w + 1) 130 (nI m) g = some (A.of m, g') ∧ fQ w g g' ∧ RW w A g' := by
  obtain ⟨g', e1, l1, r1, -, -, -⟩ := rw_shine h
  have := h.N9
  refine ⟨g', ?_, l1.q, r1⟩
  unfold k4_valueOf
  rw [rw_pre h hm, some_bind, if_neg (by decide), e1, some_bind, if_neg (by decide), if_pos rfl, ld_n (by omega) (by omega), (r1.m hm).2.2]
theorem rw_be {w m : Nat} {A : TA} {g : G} (h : RW w A g) (hm : m < A.N) : ∃ g', k4_valueOf (w + 1) 145 (nI m) g = some (A.be m, g') ∧ fQ w g g' ∧ RW w A g' := by
  obtain ⟨g', e1, l1, r1, -, -, -⟩ := rw_shine h
  have := h.N9
  refine ⟨g', ?_, l1.q, r1⟩
  unfold k4_valueOf
  rw [rw_pre h hm, some_bind, if_neg (by decide), e1, some_bind]
  iterate 16 rw [if_neg (by decide)]
  rw [if_pos rfl, ld_n (by omega) (by omega), (r1.m hm).2.1]
theorem rw_lb {w m : Nat} {A : TA} {g : G} (hA : WA A) (h : RW w A g) (hm : m < A.N) : ∃ g', k4_valueOf (w + 1) 141 (nI m) g = some (lgt A (plc A m + 1), g') ∧ fQ w g g' ∧ RW w A g' := by
  obtain ⟨g', e1, l1, r1, -, -, e2⟩ := rw_shine h
  have := h.N9
  obtain ⟨p1, p2⟩ := plc_lt hA hm
  obtain ⟨b1, b2, b3⟩ := e2 _ p1
  rw [p2] at b1
  refine ⟨g', ?_, l1.q, r1⟩
  unfold k4_valueOf
  rw [rw_pre h hm, some_bind, if_neg (by decide), e1, some_bind]
  iterate 12 rw [if_neg (by decide)]
  rw [if_pos rfl, ld_n (by omega) (by omega), b1]
theorem rw_lo {w m : Nat} {A : TA} {g : G} (hA : WA A) (h : RW w A g) (hm : m < A.N) : ∃ g', k4_valueOf (w + 1) 143 (nI m) g = some (lgt A (plc A m) - lgt A (plc A m + 1), g') ∧ fQ w g g' ∧ RW w A g' := by
  obtain ⟨g', e1, l1, r1, -, -, e2⟩ := rw_shine h
  have := h.N9
  obtain ⟨p1, p2⟩ := plc_lt hA hm
  obtain ⟨b1, b2, b3⟩ := e2 _ p1
  rw [p2] at b2
  refine ⟨g', ?_, l1.q, r1⟩
  unfold k4_valueOf
  rw [rw_pre h hm, some_bind, if_neg (by decide), e1, some_bind]
  iterate 14 rw [if_neg (by decide)]
  rw [if_pos rfl, ld_n (by omega) (by omega), b2]
theorem rw_ti {w m : Nat} {A : TA} {g : G} (hA : WA A) (h : RW w A g) (hm : m < A.N) : ∃ g', k4_valueOf (w + 1) 144 (nI m) g = some (tlt A (plc A m + 1), g') ∧ fQ w g g' ∧ RW w A g' := by
  obtain ⟨g', e1, l1, r1, -, -, e2⟩ := rw_shine h
  have := h.N9
  obtain ⟨p1, p2⟩ := plc_lt hA hm
  obtain ⟨b1, b2, b3⟩ := e2 _ p1
  rw [p2] at b3
  refine ⟨g', ?_, l1.q, r1⟩
  unfold k4_valueOf
  rw [rw_pre h hm, some_bind, if_neg (by decide), e1, some_bind]
  iterate 15 rw [if_neg (by decide)]
  rw [if_pos rfl, ld_n (by omega) (by omega), b3]
theorem rw_end {w : Nat} {A : TA} {g : G} (h : RW w A g) : ∃ g', k4_lastLight (w + 1) g = some (lgt A A.N, g') ∧ fQ w g g' ∧ RW w A g' := by
  obtain ⟨g', e1, l1, r1, e2, -, -⟩ := rw_shine h
  refine ⟨g', ?_, l1.q, r1⟩
  unfold k4_lastLight
  rw [e1, some_bind, e2]
theorem rw_tilt {w : Nat} {A : TA} {g : G} (h : RW w A g) : ∃ g', k4_lastTilt (w + 1) g = some (tlt A A.N, g') ∧ fQ w g g' ∧ RW w A g' := by
  obtain ⟨g', e1, l1, r1, -, e2, -⟩ := rw_shine h
  refine ⟨g', ?_, l1.q, r1⟩
  unfold k4_lastTilt
  rw [e1, some_bind, e2]
theorem rw_seen {w : Nat} {A : TA} {g : G} (h : RW w A g) : ∃ g', k4_showsLight (w + 1) g = some (snA A, g') ∧ fQ w g g' ∧ RW w A g' := by
  obtain ⟨g', e1, l1, r1, e2, e3, -⟩ := rw_shine h
  refine ⟨g', ?_, l1.q, r1⟩
  unfold k4_showsLight snA seenV
  rw [e1, some_bind, e2, e3, r1.lim]
  split
  · rfl
  · rw [k4_within, some_bind, r1.W]
    split <;> rfl
theorem rw_place {w q : Nat} {A : TA} {g : G} (h : RW w A g) (hq : q < A.N) : k4_findPlace (w + 1) (nI (A.rw q)) g = some (nI q) := k4_find_ok h.N h.row hq
