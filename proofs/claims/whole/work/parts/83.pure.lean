/-! the light of both, reckoned one behind the other -/
theorem RelR.row {o t N : Nat} {rw : Nat → Nat} {g : G} (h : RelR o t N rw g) : isRow g (o + 4) N rw := h.2.2.2.2.1
theorem RelR.mrow {o t N : Nat} {rw : Nat → Nat} {g : G} (h : RelR o t N rw g) : isRow g (t + 4) N rw := h.2.2.2.2.2.1
theorem RelR.eqL {o t N : Nat} {rw : Nat → Nat} {g : G} (h : RelR o t N rw g) {n : Nat} (hn : n ≤ N) : shL (g (t + 1)) (g (t + 3)) rw (g 54 1) (covOf t g) n = shL (g (o + 1)) (g (o + 3)) rw (g o 8) (g o 10) n := by
  obtain ⟨h1, h2, h3, h4, h5, h6, h7, h8, h9⟩ := h
  rw [h3, h9]
  exact shL_congr (fun p hp => (h7 _ (h5.2.1 p hp).2).1.symm) (fun p hp => (h7 _ (h5.2.1 p hp).2).2.2.symm) n hn
theorem RelR.eqA {o t N : Nat} {rw : Nat → Nat} {g : G} (h : RelR o t N rw g) {n : Nat} (hn : n ≤ N) : shA (g (t + 3)) rw n = shA (g (o + 3)) rw n := by
  obtain ⟨h1, h2, h3, h4, h5, h6, h7, h8, h9⟩ := h
  exact shA_congr (fun p hp => (h7 _ (h5.2.1 p hp).2).2.2.symm) n hn
/-- where the rows may lie -/
def okO (o t : Nat) : Prop := o + 7 < 47 ∧ 54 < t ∧ t + 6 < 93
theorem shine_c {o t N : Nat} {rw : Nat → Nat} {g : G} (hO : okO o t) (h : RelR o t N rw g) : ∃ g1, k4_shine o g = some g1 ∧ litOf o rw N g g1 ∧ RelR o t N rw g1 := by
  unfold okO at hO
  obtain ⟨g1, e1, l1⟩ := k4_shine_ok h.1 h.row h.2.2.2.2.2.2.2.1
  exact ⟨g1, e1, l1, h.lit (by omega) (by omega) l1⟩
theorem shine_m {o t N : Nat} {rw : Nat → Nat} {g : G} (hO : okO o t) (h : RelR o t N rw g) : ∃ g1, k11_shine t g = some g1 ∧ mlitOf t rw N g g1 ∧ RelR o t N rw g1 := by
  unfold okO at hO
  obtain ⟨g1, e1, l1⟩ := k11_shine_ok (by omega) (by omega) h.2.1 h.mrow
  exact ⟨g1, e1, l1, h.mlit (by omega) (by omega) l1⟩
/-- what the class keeps of the light is what the reference reckons -/
theorem lit_m {o t N : Nat} {rw : Nat → Nat} {g g1 : G} (hO : okO o t) (h : RelR o t N rw g) (hl : g o 13 = 1) (h1 : mlitOf t rw N g g1) : g1 47 22 = g o 11 ∧ g1 47 23 = g o 12 ∧ ∀ q, q < N → g1 94 (rw q) = g (o + 5) (rw q) ∧ g1 93 (rw q) - g1 94 (rw q) = g (o + 6) (rw q) ∧ g1 95 (rw q) = g (o + 7) (rw q) := by
  obtain ⟨m1, m2, m3, m4, m5⟩ := h1
  obtain ⟨ha, hb, hc⟩ : litTo o (g (o + 1)) (g (o + 3)) rw (g o 8) (g o 10) N g ∧ g o 11 = shL (g (o + 1)) (g (o + 3)) rw (g o 8) (g o 10) N ∧ g o 12 = shA (g (o + 3)) rw N := by
    rcases h.2.2.2.2.2.2.2.1 with h0 | ⟨-, ha⟩
    · rw [hl] at h0; exact absurd h0 (by decide)
    · exact ha
  refine ⟨by rw [m4, hb, h.eqL (Nat.le_refl _)], by rw [m5, hc, h.eqA (Nat.le_refl _)], fun q hq => ?_⟩
  obtain ⟨a1, a2, a3⟩ := ha q hq
  obtain ⟨b1, b2, b3⟩ := m3 q hq
  refine ⟨?_, ?_, ?_⟩
  · rw [a1, b2, h.eqL (by omega)]
  · rw [a2, b1, b2, h.eqL (by omega), h.eqL (by omega)]
  · rw [a3, b3, h.eqA (by omega)]
theorem zr_01 {v : Int32} {g : G} (h : v = 0 ∨ v = 1) : zr v g = some (v, g) := if_pos h
/-- seen, said by both -/
def seenV (L lim W a : Int32) : Int32 := if L < lim then 0 else if wi W a = 0 then 0 else 1
theorem seenV_01 {L lim W a : Int32} : seenV L lim W a = 0 ∨ seenV L lim W a = 1 := by
  unfold seenV
  split
  · exact Or.inl rfl
  · split
    · exact Or.inl rfl
    · exact Or.inr rfl
theorem k4_showsLight_ok {o t N : Nat} {rw : Nat → Nat} {g : G} (hO : okO o t) (h : RelR o t N rw g) : ∃ g1, k4_showsLight o g = some (seenV (g1 o 11) (g1 54 2) (g1 54 1) (g1 o 12), g1) ∧ litOf o rw N g g1 ∧ RelR o t N rw g1 := by
  obtain ⟨g1, e1, l1, r1⟩ := shine_c hO h
  refine ⟨g1, ?_, l1, r1⟩
  unfold k4_showsLight seenV
  rw [e1, some_bind, r1.2.2.2.1]
  split
  · rfl
  · rw [k4_within, some_bind, r1.2.2.1]
    split <;> rfl
theorem k11_seen_ok {o t N : Nat} {rw : Nat → Nat} {g : G} (hO : okO o t) (h : RelR o t N rw g) : ∃ g1, k11_seen t g = some (seenV (g1 47 22) (g1 54 2) (g1 54 1) (g1 47 23), g1) ∧ mlitOf t rw N g g1 ∧ RelR o t N rw g1 := by
  obtain ⟨g1, e1, l1, r1⟩ := shine_m hO h
  refine ⟨g1, ?_, l1, r1⟩
  unfold k11_seen k11_light seenV
  rw [e1, some_bind, some_bind]
  show (if g1 47 22 < g1 54 2 then _ else _) = _
  split
  · rfl
  · rw [k11_isWide_n, some_bind]
    show (if wi (g1 54 1) (g1 47 23) = 0 then _ else _) = _
    split <;> rfl
