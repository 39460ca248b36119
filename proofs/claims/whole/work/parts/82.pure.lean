/-! the row of the class and the state of the reference: the same train -/
theorem shA_congr {of of' : Nat → Int32} {rw : Nat → Nat} {N : Nat} (h : ∀ p, p < N → of (rw p) = of' (rw p)) : ∀ n, n ≤ N → shA of rw n = shA of' rw n := by
  intro n
  induction n with
  | zero => intro _; rfl
  | succ n ih =>
    intro hn
    show shA of rw n + 2 * of (rw n) = shA of' rw n + 2 * of' (rw n)
    rw [ih (by omega), h n (by omega)]
theorem shL_congr {cl cl' of of' : Nat → Int32} {rw : Nat → Nat} {W cov : Int32} {N : Nat} (hc : ∀ p, p < N → cl (rw p) = cl' (rw p)) (h : ∀ p, p < N → of (rw p) = of' (rw p)) : ∀ n, n ≤ N → shL cl of rw W cov n = shL cl' of' rw W cov n := by
  intro n
  induction n with
  | zero => intro _; rfl
  | succ n ih =>
    intro hn
    show (if nI (rw n) = cov then (0 : Int32) else if wi W (shA of rw n) = 0 then 0 else shL cl of rw W cov n * cl (rw n) / 100) = (if nI (rw n) = cov then (0 : Int32) else if wi W (shA of' rw n) = 0 then 0 else shL cl' of' rw W cov n * cl' (rw n) / 100)
    rw [ih (by omega), hc n (by omega), shA_congr h n (by omega)]
/-- the row at o is the state's at t; N mirrors -/
def RelR (o t N : Nat) (rw : Nat → Nat) (g : G) : Prop :=
  g o 7 = nI N ∧ g 54 0 = nI N ∧ g o 8 = g 54 1 ∧ g o 9 = g 54 2 ∧ isRow g (o + 4) N rw ∧ isRow g (t + 4) N rw ∧ (∀ m, m < N → g (o + 1) m = g (t + 1) m ∧ g (o + 2) m = g (t + 2) m ∧ g (o + 3) m = g (t + 3) m) ∧ litOK o g rw N ∧ g o 10 = covOf t g
theorem isRow_same {g g' : G} {c N : Nat} {rw : Nat → Nat} (h : g' c = g c) (hR : isRow g c N rw) : isRow g' c N rw := ⟨hR.1, fun p hp => by rw [h]; exact hR.2.1 p hp, hR.2.2⟩
theorem litTo_same {o p : Nat} {cl of : Nat → Int32} {rw : Nat → Nat} {W cov : Int32} {g g' : G} (h5 : g' (o + 5) = g (o + 5)) (h6 : g' (o + 6) = g (o + 6)) (h7 : g' (o + 7) = g (o + 7)) (h : litTo o cl of rw W cov p g) : litTo o cl of rw W cov p g' := by
  intro q hq
  rw [h5, h6, h7]
  exact h q hq
/-- cells of a row and of a state -/
def cR (o t a : Nat) : Prop := (o ≤ a ∧ a ≤ o + 7) ∨ (t ≤ a ∧ a ≤ t + 6) ∨ a = 54
theorem RelR.frame {o t N : Nat} {rw : Nat → Nat} {g g' : G} (h : RelR o t N rw g) (hf : ∀ a, cR o t a → g' a = g a) : RelR o t N rw g' := by
  obtain ⟨h1, h2, h3, h4, h5, h6, h7, h8, h9⟩ := h
  have ho := hf o (Or.inl ⟨by omega, by omega⟩)
  have hq := hf 54 (Or.inr (Or.inr rfl))
  have hoi : ∀ i, i ≤ 7 → g' (o + i) = g (o + i) := fun i hi => hf _ (Or.inl ⟨by omega, by omega⟩)
  have hti : ∀ i, i ≤ 6 → g' (t + i) = g (t + i) := fun i hi => hf _ (Or.inr (Or.inl ⟨by omega, by omega⟩))
  have ht := hf t (Or.inr (Or.inl ⟨by omega, by omega⟩))
  refine ⟨by rw [ho]; exact h1, by rw [hq]; exact h2, by rw [ho, hq]; exact h3, by rw [ho, hq]; exact h4, isRow_same (hoi 4 (by omega)) h5, isRow_same (hti 4 (by omega)) h6, fun m hm => ?_, ?_, ?_⟩
  · rw [hoi 1 (by omega), hoi 2 (by omega), hoi 3 (by omega), hti 1 (by omega), hti 2 (by omega), hti 3 (by omega)]
    exact h7 m hm
  · rcases h8 with h | ⟨h, ha, hb, hc⟩
    · exact Or.inl (by rw [ho]; exact h)
    · refine Or.inr ⟨by rw [ho]; exact h, ?_, ?_, ?_⟩
      · rw [hoi 1 (by omega), hoi 3 (by omega), ho]
        exact litTo_same (hoi 5 (by omega)) (hoi 6 (by omega)) (hoi 7 (by omega)) ha
      · rw [hoi 1 (by omega), hoi 3 (by omega), ho]
        exact hb
      · rw [hoi 3 (by omega), ho]
        exact hc
  · rw [ho, covOf_same ht (hti 6 (by omega))]
    exact h9
/-- the class's light reckoned: still the same train -/
theorem RelR.lit {o t N : Nat} {rw : Nat → Nat} {g g' : G} (ht : o + 7 < t) (ho : o ≠ 54 ∧ o + 5 ≠ 54 ∧ o + 6 ≠ 54 ∧ o + 7 ≠ 54) (h : RelR o t N rw g) (hl : litOf o rw N g g') : RelR o t N rw g' := by
  obtain ⟨h1, h2, h3, h4, h5, h6, h7, h8, h9⟩ := h
  obtain ⟨k1, k2, k3, k4, k5, k6⟩ := hl
  have hoi : ∀ i, 1 ≤ i → i ≤ 4 → g' (o + i) = g (o + i) := fun i hi hj => k1 _ (by omega) (by omega) (by omega) (by omega)
  have hti : ∀ i, i ≤ 6 → g' (t + i) = g (t + i) := fun i hi => k1 _ (by omega) (by omega) (by omega) (by omega)
  have hq := k1 54 (by omega) (by omega) (by omega) (by omega)
  refine ⟨by rw [k2 7 (by decide) (by decide) (by decide)]; exact h1, by rw [hq]; exact h2, by rw [k2 8 (by decide) (by decide) (by decide), hq]; exact h3, by rw [k2 9 (by decide) (by decide) (by decide), hq]; exact h4, isRow_same (hoi 4 (by omega) (by omega)) h5, isRow_same (hti 4 (by omega)) h6, fun m hm => ?_, Or.inr ⟨k3, ?_, ?_, ?_⟩, ?_⟩
  · rw [hoi 1 (by omega) (by omega), hoi 2 (by omega) (by omega), hoi 3 (by omega) (by omega), hti 1 (by omega), hti 2 (by omega), hti 3 (by omega)]
    exact h7 m hm
  · rw [hoi 1 (by omega) (by omega), hoi 3 (by omega) (by omega), k2 8 (by decide) (by decide) (by decide), k2 10 (by decide) (by decide) (by decide)]
    exact k4
  · rw [hoi 1 (by omega) (by omega), hoi 3 (by omega) (by omega), k2 8 (by decide) (by decide) (by decide), k2 10 (by decide) (by decide) (by decide)]
    exact k5
  · rw [hoi 3 (by omega) (by omega)]
    exact k6
  · rw [k2 10 (by decide) (by decide) (by decide), covOf_same (t := t) (hti 0 (by omega)) (hti 6 (by omega))]
    exact h9
theorem RelR.mlit {o t N t1 N1 : Nat} {rw rw1 : Nat → Nat} {g g' : G} (ho : o + 7 < 47) (ht : 54 < t ∧ t + 6 < 93) (h : RelR o t N rw g) (hl : mlitOf t1 rw1 N1 g g') : RelR o t N rw g' := h.frame (fun a ha => hl.1 a (by unfold cR at ha; omega) (by unfold cR at ha; omega) (by unfold cR at ha; omega) (by unfold cR at ha; omega))
