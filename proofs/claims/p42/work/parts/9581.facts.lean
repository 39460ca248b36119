/-! what the law's checks say of a train -/
def ofS (A : TA) : Nat → Int32
  | 0 => 0
  | p + 1 => ofS A p + A.of (A.rw p)
theorem tlt_ofS {A : TA} : ∀ p, tlt A p = 2 * ofS A p := by
  intro p
  induction p with
  | zero => rfl
  | succ p ih =>
    show tlt A p + 2 * A.of (A.rw p) = 2 * (ofS A p + A.of (A.rw p))
    rw [ih, Int32.mul_add]
theorem lgt_0 {A : TA} : lgt A 0 = 10000 := rfl
theorem lost_step {A : TA} {p : Nat} : (10000 - lgt A p) + lsA A p = 10000 - lgt A (p + 1) := by
  unfold lsA
  rw [Int32.sub_eq_add_neg, Int32.sub_eq_add_neg, Int32.sub_eq_add_neg, Int32.add_assoc, ← Int32.add_assoc (-lgt A p), Int32.add_left_neg, Int32.zero_add]
theorem lost_end {x : Int32} : (10000 - x) + x = 10000 := Int32.sub_add_cancel _ _
/-- the light that comes, less what goes on -/
theorem ls_eq {A : TA} {p : Nat} : lsA A p = lgt A p - lgt A (p + 1) := rfl
theorem wst_max {A : TA} : ∀ d p z, p + d = A.N → z < A.N → (∀ q, q < p → lsA A q ≤ lsA A z) → ∀ q, q < A.N → lsA A q ≤ lsA A (wstA A d p z) := by
  intro d
  induction d with
  | zero =>
    intro p z h1 h2 h3 q hq
    exact h3 q (by omega)
  | succ d ih =>
    intro p z h1 h2 h3 q hq
    unfold wstA
    by_cases e : lsA A p ≤ lsA A z
    · rw [if_pos e]
      refine ih (p + 1) z (by omega) h2 (fun q' hq' => ?_) q hq
      by_cases y : q' = p
      · rw [y]; exact e
      · exact h3 q' (by omega)
    · rw [if_neg e]
      refine ih (p + 1) p (by omega) (by omega) (fun q' hq' => ?_) q hq
      by_cases y : q' = p
      · rw [y]; exact Int32.le_refl _
      · exact Int32.le_trans (h3 q' (by omega)) (Int32.le_of_lt (Int32.not_le.mp e))
theorem wst_top {A : TA} (h0 : 0 < A.N) {q : Nat} (hq : q < A.N) : lsA A q ≤ lsA A (wstA A (A.N - 1) 1 0) :=
  wst_max (A.N - 1) 1 0 (by omega) h0 (fun q' hq' => by rw [show q' = 0 by omega]; exact Int32.le_refl _) q hq
theorem cv_dark {A : TA} {p : Nat} (h : cvA A (A.rw p) ≠ 0) : lgt A (p + 1) = 0 := by
  unfold cvA at h
  by_cases e : cov A = nI (A.rw p)
  · show (if nI (A.rw p) = cov A then (0 : Int32) else _) = 0
    rw [if_pos e.symm]
  · rw [if_neg e] at h
    exact absurd rfl h
theorem cv_none {A : TA} {m : Nat} (hm : m < 100) (h : A.go ≤ 0) : cvA A m = 0 := by
  unfold cvA cov
  rw [if_pos h, if_neg (fun e => nI_nm1 (by omega) e.symm)]
theorem cv_job {A : TA} {m : Nat} (h : ¬ A.go ≤ 0) : cvA A m = if nI (A.jm 0) = nI m then 1 else 0 := by
  unfold cvA cov
  rw [if_neg h]
theorem go_J {A : TA} (h : WA A) (hg : ¬ A.go ≤ 0) : 0 < A.J := by
  rcases Nat.eq_zero_or_pos A.J with z | z
  · rw [h.J0 z] at hg
    exact absurd (by decide) hg
  · exact z
/-! the first minute with light that is seen, the first with a job done -/
theorem mus_spec {P : List OR4} : ∀ d i A, (musA P d i A = -1 ∧ ∀ j, j < d → snA (minN P j A) = 0) ∨ ∃ j, j < d ∧ musA P d i A = nI (i + j) ∧ snA (minN P j A) ≠ 0 ∧ ∀ k, k < j → snA (minN P k A) = 0 := by
  intro d
  induction d with
  | zero => intro i A; exact Or.inl ⟨rfl, fun j hj => by omega⟩
  | succ d ih =>
    intro i A
    unfold musA
    by_cases e : snA A = 0
    · rw [if_pos e]
      rcases ih (i + 1) (minA P A) with ⟨h1, h2⟩ | ⟨j, h1, h2, h3, h4⟩
      · refine Or.inl ⟨h1, fun j hj => ?_⟩
        cases j with
        | zero => exact e
        | succ j => exact h2 j (by omega)
      · refine Or.inr ⟨j + 1, by omega, by rw [h2]; congr 1; omega, h3, fun k hk => ?_⟩
        cases k with
        | zero => exact e
        | succ k => exact h4 k (by omega)
    · rw [if_neg e]
      exact Or.inr ⟨0, by omega, rfl, e, fun k hk => by omega⟩
theorem mud_spec {P : List OR4} {v : Int32} : ∀ d i A, (mudA P v d i A = -1 ∧ ∀ j, j < d → (minN P (j + 1) A).dn < v) ∨ ∃ j, j < d ∧ mudA P v d i A = nI (i + j) ∧ ¬ (minN P (j + 1) A).dn < v ∧ ∀ k, k < j → (minN P (k + 1) A).dn < v := by
  intro d
  induction d with
  | zero => intro i A; exact Or.inl ⟨rfl, fun j hj => by omega⟩
  | succ d ih =>
    intro i A
    unfold mudA
    by_cases e : (minA P A).dn < v
    · rw [if_pos e]
      rcases ih (i + 1) (minA P A) with ⟨h1, h2⟩ | ⟨j, h1, h2, h3, h4⟩
      · refine Or.inl ⟨h1, fun j hj => ?_⟩
        cases j with
        | zero => exact e
        | succ j => exact h2 j (by omega)
      · refine Or.inr ⟨j + 1, by omega, by rw [h2]; congr 1; omega, h3, fun k hk => ?_⟩
        cases k with
        | zero => exact e
        | succ k => exact h4 k (by omega)
    · rw [if_neg e]
      exact Or.inr ⟨0, by omega, rfl, e, fun k hk => by omega⟩
/-- the jobs done by the k-th minute, as numbers -/
def dnC (P : List OR4) (A : TA) : Nat → Nat
  | 0 => 0
  | k + 1 => if (minN P (k + 1) A).dn = (minN P k A).dn then dnC P A k else dnC P A k + 1
/-! a mirror had best be cleaned, or turned -/
theorem btc_spec {A : TA} {mo0 : Int32} : ∀ d p f mo, p + d = A.N → mo0 ≤ mo → (f = -1 ∨ ∃ m, m < A.N ∧ f = nI m ∧ mo0 < lcA A m) → (btcA A d p f mo = -1 ∨ ∃ m, m < A.N ∧ btcA A d p f mo = nI m ∧ mo0 < lcA A m) := by
  intro d
  induction d with
  | zero => intro p f mo h1 h2 h3; exact h3
  | succ d ih =>
    intro p f mo h1 h2 h3
    unfold btcA
    by_cases e : lcA A p ≤ mo
    · rw [if_pos e]
      exact ih (p + 1) f mo (by omega) h2 h3
    · rw [if_neg e]
      have h4 := Int32.not_le.mp e
      exact ih (p + 1) (nI p) (lcA A p) (by omega) (Int32.le_of_lt (Int32.lt_of_le_of_lt h2 h4)) (Or.inr ⟨p, by omega, rfl, Int32.lt_of_le_of_lt h2 h4⟩)
theorem btc_ok {A : TA} : btcA A A.N 0 (-1) (lgt A A.N) = -1 ∨ ∃ m, m < A.N ∧ btcA A A.N 0 (-1) (lgt A A.N) = nI m ∧ lgt A A.N < lcA A m :=
  btc_spec A.N 0 (-1) (lgt A A.N) (by omega) (Int32.le_refl _) (Or.inl rfl)
theorem updI_same {f : Nat → Int32} {m : Nat} : updI f m (f m) = f := by
  funext i
  unfold updI
  by_cases y : i = m
  · rw [if_pos y, y]
  · rw [if_neg y]
/-- only a mirror that isn't as clear as can be brings more light when cleaned -/
theorem btc_clean {A : TA} {m : Nat} (h : lgt A A.N < lcA A m) : A.cl m < A.be m := by
  rcases Classical.em (A.cl m < A.be m) with z | z
  · exact z
  · exfalso
    have e : lcA A m = lgt A A.N := by
      unfold lcA finA
      rw [if_pos rfl, if_neg z, updI_same]
      rfl
    rw [e] at h
    exact Int32.lt_irrefl h
theorem turn_own {A : TA} {m : Nat} : turnA A m (A.of m) = A := by
  unfold turnA
  rw [updI_same]
  rfl
theorem turn_back {A : TA} {m : Nat} {v : Int32} : turnA (turnA A m v) m (A.of m) = A := by
  rw [turnA_turnA, turn_own]
def boQ (A : TA) (m : Nat) (i : Nat) (q : Int32 × Int32) : Prop := -90 ≤ q.1 ∧ q.1 ≤ 90 ∧ q.2 = loA A m q.1 ∧ loA A m 0 ≤ q.2 ∧ ∀ j, j < i → loA A m (nI j) ≤ q.2 ∧ loA A m (-nI j) ≤ q.2
theorem bo1_q {A : TA} {m : Nat} {x : Int32} {q : Int32 × Int32} (hx : -90 ≤ x ∧ x ≤ 90) (h : -90 ≤ q.1 ∧ q.1 ≤ 90 ∧ q.2 = loA A m q.1) : (-90 ≤ (bo1 A m x q).1 ∧ (bo1 A m x q).1 ≤ 90 ∧ (bo1 A m x q).2 = loA A m (bo1 A m x q).1) ∧ q.2 ≤ (bo1 A m x q).2 ∧ loA A m x ≤ (bo1 A m x q).2 := by
  unfold bo1
  by_cases e : loA A m x ≤ q.2
  · rw [if_pos e]
    exact ⟨h, Int32.le_refl _, e⟩
  · rw [if_neg e]
    exact ⟨⟨hx.1, hx.2, rfl⟩, Int32.le_of_lt (Int32.not_le.mp e), Int32.le_refl _⟩
theorem ofs_pm : ((List.range 91).all fun i => decide ((-90 ≤ nI i ∧ nI i ≤ 90) ∧ (-90 ≤ -nI i ∧ -nI i ≤ 90))) = true := by decide +kernel
theorem bo_spec {A : TA} {m : Nat} : ∀ d i q, i + d = 91 → boQ A m i q → ∃ q', boA A m d i q = q'.1 ∧ boQ A m 91 q' := by
  intro d
  induction d with
  | zero =>
    intro i q h1 h2
    obtain rfl : i = 91 := by omega
    exact ⟨q, rfl, h2⟩
  | succ d ih =>
    intro i q h1 h2
    obtain ⟨a1, a2, a3, a4, a5⟩ := h2
    obtain ⟨r1, r2⟩ := of_decide_eq_true (List.all_eq_true.mp ofs_pm i (List.mem_range.mpr (by omega)))
    obtain ⟨b1, b2, b3⟩ := bo1_q (A := A) (m := m) r1 ⟨a1, a2, a3⟩
    obtain ⟨c1, c2, c3⟩ := bo1_q (A := A) (m := m) r2 b1
    refine ih (i + 1) _ (by omega) ⟨c1.1, c1.2.1, c1.2.2, Int32.le_trans a4 (Int32.le_trans b2 c2), fun j hj => ?_⟩
    by_cases e : j = i
    · rw [e]
      exact ⟨Int32.le_trans b3 c2, c3⟩
    · obtain ⟨d1, d2⟩ := a5 j (by omega)
      exact ⟨Int32.le_trans d1 (Int32.le_trans b2 c2), Int32.le_trans d2 (Int32.le_trans b2 c2)⟩
theorem ofs_cases {x : Int32} (h : -90 ≤ x ∧ x ≤ 90) : ∃ j, j < 91 ∧ (x = nI j ∨ x = -nI j) := by
  have all : ((List.range 181).all fun i => (List.range 91).any fun j => decide (nI i - 90 = nI j ∨ nI i - 90 = -nI j)) = true := by decide +kernel
  obtain ⟨i, hi, e⟩ := ofs_of h
  obtain ⟨j, hj, e2⟩ := List.any_eq_true.mp (List.all_eq_true.mp all i (List.mem_range.mpr hi))
  rw [e]
  exact ⟨j, List.mem_range.mp hj, of_decide_eq_true e2⟩
theorem bst_rng {A : TA} {m : Nat} : (-90 ≤ bstA A m ∧ bstA A m ≤ 90) ∧ ∀ x, -90 ≤ x ∧ x ≤ 90 → loA A m x ≤ loA A m (bstA A m) := by
  obtain ⟨q', e, h1, h2, h3, h4, h5⟩ := bo_spec (A := A) (m := m) 90 1 (0, loA A m 0) rfl ⟨show (-90 : Int32) ≤ 0 by decide, show (0 : Int32) ≤ 90 by decide, rfl, Int32.le_refl _, fun j hj => by
    rw [show j = 0 by omega]
    exact ⟨Int32.le_refl _, Int32.le_refl _⟩⟩
  have e : bstA A m = q'.1 := e
  rw [e]
  refine ⟨⟨h1, h2⟩, fun x hx => ?_⟩
  rw [← h3]
  obtain ⟨j, hj, z | z⟩ := ofs_cases hx
  · rw [z]; exact (h5 j hj).1
  · rw [z]; exact (h5 j hj).2
theorem bo_congr {A B : TA} {m : Nat} (h : ∀ x, loA A m x = loA B m x) : ∀ d i q, boA A m d i q = boA B m d i q := by
  have h1 : ∀ x q, bo1 A m x q = bo1 B m x q := by
    intro x q
    unfold bo1
    rw [h]
  intro d
  induction d with
  | zero => intro i q; rfl
  | succ d ih =>
    intro i q
    unfold boA
    rw [h1, h1, ih]
/-- the best offset is the best one still, once the mirror is turned so -/
theorem bst_turn {A : TA} {m : Nat} {v : Int32} : bstA (turnA A m v) m = bstA A m := by
  have h : ∀ x, loA (turnA A m v) m x = loA A m x := by
    intro x
    unfold loA
    rw [turnA_turnA]
    rfl
  unfold bstA
  rw [h]
  exact bo_congr h _ _ _
theorem lo_own {A : TA} {m : Nat} : loA A m (A.of m) = lgt A A.N := by
  unfold loA
  rw [turn_own]
