/-! two states: the class's row in gc, the reference's state in gm -/
def RelL (o t N : Nat) (rw : Nat → Nat) (gc gm : G) : Prop := gc o 7 = nI N ∧ gm 54 0 = nI N ∧ gc o 8 = gm 54 1 ∧ isRow gc (o + 4) N rw ∧ isRow gm (t + 4) N rw ∧ (∀ m, m < N → gc (o + 1) m = gm (t + 1) m ∧ gc (o + 3) m = gm (t + 3) m) ∧ litOK o gc rw N ∧ gc o 10 = covOf t gm
theorem RelR.L {o t N : Nat} {rw : Nat → Nat} {g : G} (h : RelR o t N rw g) : RelL o t N rw g g := ⟨h.1, h.2.1, h.2.2.1, h.row, h.mrow, fun m hm => ⟨(h.2.2.2.2.2.2.1 m hm).1, (h.2.2.2.2.2.2.1 m hm).2.2⟩, h.2.2.2.2.2.2.2.1, h.2.2.2.2.2.2.2.2⟩
theorem RelL.fr {o t N : Nat} {rw : Nat → Nat} {gc gm gc' gm' : G} (h : RelL o t N rw gc gm) (c1 : gc' (o + 1) = gc (o + 1)) (c3 : gc' (o + 3) = gc (o + 3)) (c4 : gc' (o + 4) = gc (o + 4)) (k7 : gc' o 7 = gc o 7) (k8 : gc' o 8 = gc o 8) (k10 : gc' o 10 = gc o 10) (hl : litOK o gc' rw N) (m54 : gm' 54 = gm 54) (m1 : gm' (t + 1) = gm (t + 1)) (m3 : gm' (t + 3) = gm (t + 3)) (m4 : gm' (t + 4) = gm (t + 4)) (hc : covOf t gm' = covOf t gm) : RelL o t N rw gc' gm' := by
  obtain ⟨h1, h2, h3, h4, h5, h6, h7, h8⟩ := h
  exact ⟨by rw [k7]; exact h1, by rw [m54]; exact h2, by rw [k8, m54]; exact h3, isRow_same c4 h4, isRow_same m4 h5, fun m hm => by rw [c1, c3, m1, m3]; exact h6 m hm, hl, by rw [k10, hc]; exact h8⟩
theorem litOf.ok {o N : Nat} {rw : Nat → Nat} {g g' : G} (h : litOf o rw N g g') : litOK o g' rw N := by
  obtain ⟨h1, h2, h3, h4, h5, h6⟩ := h
  have e1 : g' (o + 1) = g (o + 1) := h1 _ (by omega) (by omega) (by omega) (by omega)
  have e3 : g' (o + 3) = g (o + 3) := h1 _ (by omega) (by omega) (by omega) (by omega)
  refine Or.inr ⟨h3, ?_, ?_, ?_⟩
  · rw [e1, e3, h2 8 (by decide) (by decide) (by decide), h2 10 (by decide) (by decide) (by decide)]; exact h4
  · rw [e1, e3, h2 8 (by decide) (by decide) (by decide), h2 10 (by decide) (by decide) (by decide)]; exact h5
  · rw [e3]; exact h6
theorem RelL.eqL {o t N : Nat} {rw : Nat → Nat} {gc gm : G} (h : RelL o t N rw gc gm) {n : Nat} (hn : n ≤ N) : shL (gm (t + 1)) (gm (t + 3)) rw (gm 54 1) (covOf t gm) n = shL (gc (o + 1)) (gc (o + 3)) rw (gc o 8) (gc o 10) n := by
  obtain ⟨h1, h2, h3, h4, h5, h6, h7, h8⟩ := h
  rw [h3, h8]
  exact shL_congr (fun p hp => (h6 _ (h4.2.1 p hp).2).1.symm) (fun p hp => (h6 _ (h4.2.1 p hp).2).2.symm) n hn
theorem RelL.eqA {o t N : Nat} {rw : Nat → Nat} {gc gm : G} (h : RelL o t N rw gc gm) {n : Nat} (hn : n ≤ N) : shA (gm (t + 3)) rw n = shA (gc (o + 3)) rw n := by
  obtain ⟨h1, h2, h3, h4, h5, h6, h7, h8⟩ := h
  exact shA_congr (fun p hp => (h6 _ (h4.2.1 p hp).2).2.symm) n hn
theorem RelL.c {o t N : Nat} {rw : Nat → Nat} {gc gm gc' : G} (h : RelL o t N rw gc gm) (hl : litOf o rw N gc gc') : RelL o t N rw gc' gm := by
  obtain ⟨h1, h2, -⟩ := id hl
  exact h.fr (h1 _ (by omega) (by omega) (by omega) (by omega)) (h1 _ (by omega) (by omega) (by omega) (by omega)) (h1 _ (by omega) (by omega) (by omega) (by omega)) (h2 7 (by decide) (by decide) (by decide)) (h2 8 (by decide) (by decide) (by decide)) (h2 10 (by decide) (by decide) (by decide)) hl.ok rfl rfl rfl rfl rfl
theorem RelL.m {o t N : Nat} {rw rw1 : Nat → Nat} {t1 N1 : Nat} {gc gm gm' : G} (hO : okO o t) (h : RelL o t N rw gc gm) (hl : mlitOf t1 rw1 N1 gm gm') : RelL o t N rw gc gm' := by
  unfold okO at hO
  have h1 := hl.1
  exact h.fr rfl rfl rfl rfl rfl rfl h.2.2.2.2.2.2.1 (h1 54 (by omega) (by omega) (by omega) (by omega)) (h1 _ (by omega) (by omega) (by omega) (by omega)) (h1 _ (by omega) (by omega) (by omega) (by omega)) (h1 _ (by omega) (by omega) (by omega) (by omega)) (covOf_same (h1 _ (by omega) (by omega) (by omega) (by omega)) (h1 _ (by omega) (by omega) (by omega) (by omega)))
/-- both reckon the light -/
theorem light2 {o t N : Nat} {rw : Nat → Nat} {gc gm : G} (hO : okO o t) (h : RelL o t N rw gc gm) : ∃ gc' gm', k4_shine o gc = some gc' ∧ k11_shine t gm = some gm' ∧ litOf o rw N gc gc' ∧ mlitOf t rw N gm gm' ∧ RelL o t N rw gc' gm' ∧ gm' 47 22 = gc' o 11 ∧ gm' 47 23 = gc' o 12 ∧ ∀ q, q < N → gm' 94 (rw q) = gc' (o + 5) (rw q) ∧ gm' 93 (rw q) - gm' 94 (rw q) = gc' (o + 6) (rw q) ∧ gm' 95 (rw q) = gc' (o + 7) (rw q) := by
  have hO' := hO
  unfold okO at hO'
  obtain ⟨gc', c1, c2⟩ := k4_shine_ok h.1 h.2.2.2.1 h.2.2.2.2.2.2.1
  obtain ⟨gm', m1, m2⟩ := k11_shine_ok (by omega) (by omega) h.2.1 h.2.2.2.2.1
  obtain ⟨n1, n2, n3, n4, n5⟩ := id m2
  obtain ⟨d1, d2, d3, d4, d5, d6⟩ := id c2
  refine ⟨gc', gm', c1, m1, c2, m2, (h.c c2).m hO m2, by rw [n4, d5, h.eqL (Nat.le_refl _)], by rw [n5, d6, h.eqA (Nat.le_refl _)], fun q hq => ?_⟩
  obtain ⟨a1, a2, a3⟩ := d4 q hq
  obtain ⟨b1, b2, b3⟩ := n3 q hq
  refine ⟨?_, ?_, ?_⟩
  · rw [a1, b2, h.eqL (by omega)]
  · rw [a2, b1, b2, h.eqL (by omega), h.eqL (by omega)]
  · rw [a3, b3, h.eqA (by omega)]
/-! copies -/
theorem cpy_ne {g : G} {a b n o : Nat} (h : o ≠ b) : cpy g a b n o = g o := by
  funext j
  exact if_neg (fun q => h q.1)
theorem cpy_at {g : G} {a b n j : Nat} (h : j < n) : cpy g a b n b j = g a j := if_pos ⟨rfl, h⟩
/-- the cells of the reference that a look ahead may change -/
def frM (gm gm' : G) : Prop := (∀ a, a ≠ 47 → a ≠ 78 → a < 86 → gm' a = gm a) ∧ ∀ k, k ≠ 22 → k ≠ 23 → gm' 47 k = gm 47 k
def frC (gc gc' : G) : Prop := ∀ a, a < 34 ∨ 46 < a → gc' a = gc a
theorem frM.refl {g : G} : frM g g := ⟨fun _ _ _ _ => rfl, fun _ _ _ => rfl⟩
theorem frM.trans {g1 g2 g3 : G} (h : frM g1 g2) (h' : frM g2 g3) : frM g1 g3 := ⟨fun a a1 a2 a3 => (h'.1 a a1 a2 a3).trans (h.1 a a1 a2 a3), fun k k1 k2 => (h'.2 k k1 k2).trans (h.2 k k1 k2)⟩
theorem frC.refl {g : G} : frC g g := fun _ _ => rfl
theorem frC.trans {g1 g2 g3 : G} (h : frC g1 g2) (h' : frC g2 g3) : frC g1 g3 := fun a ha => (h' a ha).trans (h a ha)
theorem mlitOf.fr {t N : Nat} {rw : Nat → Nat} {g g' : G} (h : mlitOf t rw N g g') : frM g g' := ⟨fun a a1 _ a2 => h.1 a a1 (by omega) (by omega) (by omega), h.2.1⟩
theorem litOf.fr {o N : Nat} {rw : Nat → Nat} {g g' : G} (ho : 34 ≤ o ∧ o ≤ 39) (h : litOf o rw N g g') : frC g g' := fun a ha => h.1 a (by omega) (by omega) (by omega) (by omega)
theorem copyR (gc : G) : ∃ gc', k4_copy 35 22 gc = some gc' ∧ (∀ a, a < 35 ∨ 39 < a → gc' a = gc a) ∧ gc' 35 13 = 0 ∧ (∀ k, 7 ≤ k → k ≤ 10 → gc' 35 k = gc 22 k) ∧ ∀ i j, 1 ≤ i → i ≤ 4 → j < 10 → gc' (35 + i) j = gc (22 + i) j := by
  refine ⟨up (up (up (up (up (cpy (cpy (cpy (cpy gc 23 36 10) 24 37 10) 25 38 10) 26 39 10) 35 7 (gc 22 7)) 35 8 (gc 22 8)) 35 9 (gc 22 9)) 35 10 (gc 22 10)) 35 13 0, ?_, fun a ha => ?_, up_self, fun k k1 k2 => ?_, fun i j i1 i2 hj => ?_⟩
  · unfold k4_copy
    simp only [bd_eq]
    rw [up_other (by decide), up_other (by decide), up_other (by decide), up_other (by decide), up_other (by decide), up_other (by decide), cpy_ne (by decide), cpy_ne (by decide), cpy_ne (by decide), cpy_ne (by decide)]
  · rw [up_ne (by omega), up_ne (by omega), up_ne (by omega), up_ne (by omega), up_ne (by omega), cpy_ne (by omega), cpy_ne (by omega), cpy_ne (by omega), cpy_ne (by omega)]
  · rcases (show k = 7 ∨ k = 8 ∨ k = 9 ∨ k = 10 by omega) with rfl | rfl | rfl | rfl
    · rw [up_slot (by decide), up_slot (by decide), up_slot (by decide), up_slot (by decide), up_self]
    · rw [up_slot (by decide), up_slot (by decide), up_slot (by decide), up_self]
    · rw [up_slot (by decide), up_slot (by decide), up_self]
    · rw [up_slot (by decide), up_self]
  · rw [up_ne (by omega), up_ne (by omega), up_ne (by omega), up_ne (by omega), up_ne (by omega)]
    rcases (show i = 1 ∨ i = 2 ∨ i = 3 ∨ i = 4 by omega) with rfl | rfl | rfl | rfl
    · rw [cpy_ne (by decide), cpy_ne (by decide), cpy_ne (by decide)]
      exact cpy_at hj
    · rw [cpy_ne (by decide), cpy_ne (by decide)]
      exact (cpy_at hj).trans (by rw [cpy_ne (by decide)])
    · rw [cpy_ne (by decide)]
      exact (cpy_at hj).trans (by rw [cpy_ne (by decide), cpy_ne (by decide)])
    · exact (cpy_at hj).trans (by rw [cpy_ne (by decide), cpy_ne (by decide), cpy_ne (by decide)])
theorem becomeS (gm : G) : ∃ gm', k9_become 86 79 gm = some gm' ∧ (∀ a, a < 86 ∨ 92 < a → gm' a = gm a) ∧ (∀ k, 6 ≤ k → k ≤ 9 → gm' 86 k = gm 79 k) ∧ (∀ i j, 1 ≤ i → i ≤ 4 → j < 10 → gm' (86 + i) j = gm (79 + i) j) ∧ ∀ i j, 5 ≤ i → i ≤ 6 → j < 12 → gm' (86 + i) j = gm (79 + i) j := by
  refine ⟨up (up (up (up (cpy (cpy (cpy (cpy (cpy (cpy gm 80 87 10) 81 88 10) 82 89 10) 83 90 10) 84 91 12) 85 92 12) 86 6 (gm 79 6)) 86 7 (gm 79 7)) 86 8 (gm 79 8)) 86 9 (gm 79 9), ?_, fun a ha => ?_, fun k k1 k2 => ?_, fun i j i1 i2 hj => ?_, fun i j i1 i2 hj => ?_⟩
  · unfold k9_become k10_copy
    simp only [bd_eq, some_bind]
    rw [up_other (by decide), up_other (by decide), up_other (by decide), up_other (by decide), up_other (by decide), up_other (by decide), cpy_ne (by decide), cpy_ne (by decide), cpy_ne (by decide), cpy_ne (by decide), cpy_ne (by decide), cpy_ne (by decide)]
  · rw [up_ne (by omega), up_ne (by omega), up_ne (by omega), up_ne (by omega), cpy_ne (by omega), cpy_ne (by omega), cpy_ne (by omega), cpy_ne (by omega), cpy_ne (by omega), cpy_ne (by omega)]
  · rcases (show k = 6 ∨ k = 7 ∨ k = 8 ∨ k = 9 by omega) with rfl | rfl | rfl | rfl
    · rw [up_slot (by decide), up_slot (by decide), up_slot (by decide), up_self]
    · rw [up_slot (by decide), up_slot (by decide), up_self]
    · rw [up_slot (by decide), up_self]
    · rw [up_self]
  · rw [up_ne (by omega), up_ne (by omega), up_ne (by omega), up_ne (by omega), cpy_ne (by omega), cpy_ne (by omega)]
    rcases (show i = 1 ∨ i = 2 ∨ i = 3 ∨ i = 4 by omega) with rfl | rfl | rfl | rfl
    · rw [cpy_ne (by decide), cpy_ne (by decide), cpy_ne (by decide)]
      exact cpy_at hj
    · rw [cpy_ne (by decide), cpy_ne (by decide)]
      exact (cpy_at hj).trans (by rw [cpy_ne (by decide)])
    · rw [cpy_ne (by decide)]
      exact (cpy_at hj).trans (by rw [cpy_ne (by decide), cpy_ne (by decide)])
    · exact (cpy_at hj).trans (by rw [cpy_ne (by decide), cpy_ne (by decide), cpy_ne (by decide)])
  · rw [up_ne (by omega), up_ne (by omega), up_ne (by omega), up_ne (by omega)]
    rcases (show i = 5 ∨ i = 6 by omega) with rfl | rfl
    · rw [cpy_ne (by decide)]
      exact (cpy_at hj).trans (by rw [cpy_ne (by decide), cpy_ne (by decide), cpy_ne (by decide), cpy_ne (by decide)])
    · exact (cpy_at hj).trans (by rw [cpy_ne (by decide), cpy_ne (by decide), cpy_ne (by decide), cpy_ne (by decide), cpy_ne (by decide)])
theorem isRow_copy {g g' : G} {c c' N : Nat} {rw : Nat → Nat} (h : isRow g c N rw) (hc : ∀ j, j < 10 → g' c' j = g c j) : isRow g' c' N rw := ⟨h.1, fun p hp => by rw [hc p (by have := h.1; omega)]; exact h.2.1 p hp, h.2.2⟩
/-- both look ahead from a copy: J in the queue -/
theorem copyL {N J : Nat} {rw : Nat → Nat} {gc gm : G} (h : RelL 22 79 N rw gc gm) (hJ0 : J ≤ 12) (hJ : gm 79 6 = nI J) (hq : J = 0 → gm 79 7 = 0) : ∃ gc' gm', k4_copy 35 22 gc = some gc' ∧ k9_become 86 79 gm = some gm' ∧ RelL 35 86 N rw gc' gm' ∧ frC gc gc' ∧ frM gm gm' ∧ ∀ m, m < 10 → gc' 37 m = gc 24 m ∧ gm' 88 m = gm 81 m := by
  obtain ⟨gc', c1, c2, c3, c4, c5⟩ := copyR gc
  obtain ⟨gm', m1, m2, m3, m4, m5⟩ := becomeS gm
  obtain ⟨h1, h2, h3, h4, h5, h6, h7, h8⟩ := h
  have hN := h4.1
  have m54 : gm' 54 = gm 54 := m2 54 (by decide)
  refine ⟨gc', gm', c1, m1, ⟨by rw [c4 7 (by decide) (by decide)]; exact h1, by rw [m54]; exact h2, by rw [c4 8 (by decide) (by decide), m54]; exact h3, isRow_copy h4 (fun j hj => c5 4 j (by decide) (by decide) hj), isRow_copy h5 (fun j hj => m4 4 j (by decide) (by decide) hj), fun m hm => ?_, Or.inl c3, ?_⟩, fun a ha => c2 a (by omega), ⟨fun a _ _ a2 => m2 a (by omega), fun k _ _ => by rw [m2 47 (by decide)]⟩, fun m hm => ⟨c5 2 m (by decide) (by decide) hm, m4 2 m (by decide) (by decide) hm⟩⟩
  · rw [c5 1 m (by decide) (by decide) (by omega), c5 3 m (by decide) (by decide) (by omega), m4 1 m (by decide) (by decide) (by omega), m4 3 m (by decide) (by decide) (by omega)]
    exact h6 m hm
  · rw [c4 10 (by decide) (by decide), h8]
    unfold covOf
    rw [m3 7 (by decide) (by decide), show gm' (86 + 6) 0 = gm (79 + 6) 0 from m5 6 0 (by decide) (by decide) (by decide)]
