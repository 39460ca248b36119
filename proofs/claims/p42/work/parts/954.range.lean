/-! light stays in its range and never grows -/
theorem mul100 {x c : Int32} (hx : 0 ≤ x.toInt ∧ x.toInt ≤ 10000) (hc : 0 ≤ c.toInt ∧ c.toInt ≤ 100) : 0 ≤ (x * c / 100).toInt ∧ (x * c / 100).toInt ≤ x.toInt := by
  have h1 : 0 ≤ x.toInt * c.toInt := Int.mul_nonneg hx.1 hc.1
  have h2 : x.toInt * c.toInt ≤ x.toInt * 100 := Int.mul_le_mul_of_nonneg_left hc.2 hx.1
  have e1 : (x * c).toInt = x.toInt * c.toInt := by
    rw [Int32.toInt_mul]
    generalize x.toInt * c.toInt = y at h1 h2
    exact Int.bmod_eq_of_le (by omega) (by omega)
  have e2 : (x * c / 100).toInt = x.toInt * c.toInt / 100 := by
    rw [Int32.toInt_div, e1, show (100 : Int32).toInt = 100 from rfl]
    generalize x.toInt * c.toInt = y at h1 h2
    rw [Int.tdiv_eq_ediv_of_nonneg h1]
    exact Int.bmod_eq_of_le (by omega) (by omega)
  rw [e2]
  generalize x.toInt * c.toInt = y at h1 h2
  omega
theorem lgt_step {A : TA} (h : WA A) {p : Nat} (hp : p < A.N) (hx : 0 ≤ (lgt A p).toInt ∧ (lgt A p).toInt ≤ 10000) : 0 ≤ (lgt A (p + 1)).toInt ∧ (lgt A (p + 1)).toInt ≤ (lgt A p).toInt := by
  have e : lgt A (p + 1) = if nI (A.rw p) = cov A then 0 else if wi A.W (tlt A p) = 0 then 0 else lgt A p * A.cl (A.rw p) / 100 := rfl
  obtain ⟨⟨c1, c2⟩, -⟩ := h.rng (h.lt hp)
  have c1 : (0 : Int) ≤ (A.cl (A.rw p)).toInt := Int32.le_iff_toInt_le.mp c1
  have c2 : (A.cl (A.rw p)).toInt ≤ 100 := Int32.le_iff_toInt_le.mp c2
  have z : (0 : Int32).toInt = 0 := rfl
  rw [e]
  split
  · rw [z]; omega
  · split
    · rw [z]; omega
    · exact mul100 hx ⟨c1, c2⟩
theorem lgt_rng {A : TA} (h : WA A) : ∀ p, p ≤ A.N → 0 ≤ (lgt A p).toInt ∧ (lgt A p).toInt ≤ 10000 := by
  intro p
  induction p with
  | zero =>
    intro _
    have e : (lgt A 0).toInt = 10000 := rfl
    omega
  | succ p ih =>
    intro hp
    obtain ⟨i1, i2⟩ := ih (by omega)
    obtain ⟨j1, j2⟩ := lgt_step h (show p < A.N by omega) ⟨i1, i2⟩
    omega
theorem lsA_rng {A : TA} (h : WA A) {p : Nat} (hp : p < A.N) : (lsA A p).toInt = (lgt A p).toInt - (lgt A (p + 1)).toInt ∧ 0 ≤ (lsA A p).toInt ∧ (lsA A p).toInt ≤ 10000 := by
  have h1 := lgt_rng h p (by omega)
  have h2 := lgt_step h hp h1
  have e : (lsA A p).toInt = (lgt A p).toInt - (lgt A (p + 1)).toInt := by
    show (lgt A p - lgt A (p + 1)).toInt = _
    rw [Int32.toInt_sub, Int.bmod_eq_of_le (by omega) (by omega)]
  omega
/-! a sum along the row is a sum over the mirrors -/
def csR (cl : Nat → Int32) (rw : Nat → Nat) : Nat → Int32
  | 0 => 0
  | p + 1 => csR cl rw p + cl (rw p)
theorem csR_congr {cl : Nat → Int32} {rw rw' : Nat → Nat} : ∀ m, (∀ p, p < m → rw' p = rw p) → csR cl rw' m = csR cl rw m := by
  intro m
  induction m with
  | zero => intro _; rfl
  | succ m ih =>
    intro h
    show csR cl rw' m + cl (rw' m) = csR cl rw m + cl (rw m)
    rw [ih (fun p hp => h p (by omega)), h m (by omega)]
theorem csR_swap {cl : Nat → Int32} {rw rw' : Nat → Nat} {p0 x y : Nat} (h0 : rw p0 = y) (h1 : rw' p0 = x) (h : ∀ p, p ≠ p0 → rw' p = rw p) : ∀ m, p0 < m → csR cl rw' m + cl y = csR cl rw m + cl x := by
  intro m
  induction m with
  | zero => intro hm; omega
  | succ m ih =>
    intro hm
    show csR cl rw' m + cl (rw' m) + cl y = csR cl rw m + cl (rw m) + cl x
    by_cases e : p0 = m
    · subst e
      rw [h0, h1, csR_congr p0 (fun p hp => h p (by omega)), Int32.add_assoc, Int32.add_assoc, Int32.add_comm (cl x)]
    · rw [h m (fun z => e z.symm), Int32.add_assoc, Int32.add_comm (cl (rw m)), ← Int32.add_assoc, ih (by omega), Int32.add_assoc, Int32.add_comm (cl x), ← Int32.add_assoc]
theorem csR_perm {cl : Nat → Int32} : ∀ (N : Nat) (rw : Nat → Nat), (∀ p, p < N → rw p < N) → (∀ p q, p < N → q < N → rw p = rw q → p = q) → csR cl rw N = cs cl N := by
  intro N
  induction N with
  | zero => intro rw _ _; rfl
  | succ N ih =>
    intro rw h1 h2
    show csR cl rw N + cl (rw N) = cs cl N + cl N
    by_cases e : rw N = N
    · rw [e, ih rw (fun p hp => by
        have a := h1 p (by omega)
        have b : rw p ≠ N := fun z => by
          have := h2 p N (by omega) (by omega) (z.trans e.symm)
          omega
        omega) (fun p q hp hq z => h2 p q (by omega) (by omega) z)]
    · obtain ⟨p0, hp0, e0⟩ := inj_surj (N + 1) rw h1 h2 N (by omega)
      have hne : p0 ≠ N := fun z => e (by rw [z] at e0; exact e0)
      have hs := csR_swap (cl := cl) (rw := rw) (rw' := fun p => if p = p0 then rw N else rw p) e0 (if_pos rfl) (fun p hp => if_neg hp) N (by omega)
      rw [← hs, ih (fun p => if p = p0 then rw N else rw p) (fun p hp => by
        show (if p = p0 then rw N else rw p) < N
        have a := h1 p (by omega)
        have b := h1 N (by omega)
        by_cases z : p = p0
        · rw [if_pos z]; omega
        · rw [if_neg z]
          have : rw p ≠ N := fun y => z (h2 p p0 (by omega) (by omega) (y.trans e0.symm))
          omega) (fun p q hp hq z => by
        have z : (if p = p0 then rw N else rw p) = (if q = p0 then rw N else rw q) := z
        by_cases y : p = p0 <;> by_cases y' : q = p0
        · omega
        · rw [if_pos y, if_neg y'] at z
          have := h2 N q (by omega) (by omega) z
          omega
        · rw [if_neg y, if_pos y'] at z
          have := h2 p N (by omega) (by omega) z
          omega
        · rw [if_neg y, if_neg y'] at z
          exact h2 p q (by omega) (by omega) z)]
theorem mean_same_all : ((List.range 1001).all fun s => (List.range 10).all fun c => decide (Op.cmpValue (FP.dcmp (FP.ddiv (FP.i2d (nI s)) (FP.i2d (nI (c + 1)))) (FP.ddiv (FP.i2d (nI s)) (FP.i2d (nI (c + 1))))) .l = 0)) = true := by decide +kernel
theorem mean_same {A : TA} (h : WA A) (h0 : 0 < A.N) : Op.cmpValue (FP.dcmp (mnA A) (mnA A)) .l = 0 := by
  obtain ⟨s, s1, s2⟩ := h.cs
  have hN := h.N9
  have h1 := List.all_eq_true.mp (List.all_eq_true.mp mean_same_all s (List.mem_range.mpr (by omega))) (A.N - 1) (List.mem_range.mpr (by omega))
  have h1 := of_decide_eq_true h1
  rw [show A.N - 1 + 1 = A.N by omega] at h1
  unfold mnA
  rw [s2]
  exact h1
