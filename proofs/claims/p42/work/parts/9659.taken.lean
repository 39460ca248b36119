/-! what was read is taken over -/
def Dg (J : List It) (D : List DS) (g : G) : Prop := ∀ (j : Nat) (q : DS), D[j]? = some q → g 11 j = nI q.1 ∧ g 12 j = nI q.2 ∧ q.2 ≤ J.length
theorem val_at {J : List It} {g : G} {q : Nat} (hv : V0 J (J.length + 1) g) (h3 : g 3 5 = nI (J.length + 1)) (hJ : J.length ≤ 400) (hq : q ≤ J.length) : k6_valueAt (nI q) g = some (valJ J q) := by
  unfold k6_valueAt
  rw [if_neg (nI_pos (by omega)), h3, if_neg (by rw [nI_leI (by omega) (by omega)]; omega), ld_n (by omega) (by omega)]
  congr 1
  by_cases e : q < J.length
  · exact (hv.1 q _ (List.getElem?_eq_getElem e)).1 (by omega)
  · have : q = J.length := by omega
    rw [this, hv.2]
    unfold valJ
    rw [List.getElem?_eq_none (Nat.le_refl _)]
theorem take72 {J : List It} {D : List DS} (hJ : J.length ≤ 400) (hD : D.length ≤ 400) : ∀ d j f g, D.length = j + d → d < f → V0 J (J.length + 1) g → g 3 5 = nI (J.length + 1) → Dg J D g → g 16 8 = nI D.length → (∀ i q, i < j → D[i]? = some q → g 19 i = nI q.1 ∧ g 20 i = valJ J q.2) → ∃ g', k2_takeOver_72 16 8 f (nI j) g = some g' ∧ (∀ i q, D[i]? = some q → g' 19 i = nI q.1 ∧ g' 20 i = valJ J q.2) ∧ ∀ a, a ≠ 19 → a ≠ 20 → g' a = g a := by
  intro d
  induction d with
  | zero =>
    intro j f g hd hf hv h3 hg h8 hdone
    obtain ⟨f, rfl⟩ : ∃ z, f = z + 1 := ⟨f - 1, by omega⟩
    refine ⟨g, ?_, fun i q hi => hdone i q (by have := (List.getElem?_eq_some_iff.mp hi).1; omega) hi, fun _ _ _ => rfl⟩
    unfold k2_takeOver_72
    rw [h8, if_pos ((nI_leI (by omega) (by omega)).mpr (by omega))]
  | succ d ih =>
    intro j f g hd hf hv h3 hg h8 hdone
    obtain ⟨f, rfl⟩ : ∃ z, f = z + 1 := ⟨f - 1, by omega⟩
    have hj : j < D.length := by omega
    obtain ⟨e1, e2, e3⟩ := hg j D[j] (List.getElem?_eq_getElem hj)
    obtain ⟨q, hq⟩ : ∃ q, q = D[j] := ⟨_, rfl⟩
    rw [← hq] at e1 e2 e3
    have hq' : D[j]? = some q := by rw [List.getElem?_eq_getElem hj, hq]
    have hv1 : V0 J (J.length + 1) (up g 19 j (nI q.1)) := hv.oth (by decide)
    obtain ⟨g', r1, r2, r3⟩ := ih (j + 1) f (up (up g 19 j (nI q.1)) 20 j (valJ J q.2)) (by omega) (by omega) (hv1.oth (by decide)) (by rw [up_other (by decide), up_other (by decide)]; exact h3) (fun i x hi => by rw [up_other (by decide), up_other (by decide), up_other (by decide), up_other (by decide)]; exact hg i x hi) (by rw [up_other (by decide), up_other (by decide)]; exact h8) (fun i x hi hx => by
      by_cases z : i = j
      · rw [z] at hx ⊢
        have : x = q := by rw [hq'] at hx; exact (Option.some.inj hx).symm
        rw [this, up_other (by decide), up_self, up_self]
        exact ⟨rfl, rfl⟩
      · rw [up_other (by decide), up_slot' z, up_slot' z, up_other (by decide)]
        exact hdone i x (by omega) hx)
    refine ⟨g', ?_, r2, fun a h19 h20 => by rw [r3 a h19 h20, up_ne h20, up_ne h19]⟩
    unfold k2_takeOver_72
    rw [h8, if_neg (by rw [nI_leI (by omega) (by omega)]; omega), if_neg (by rw [show (400 : Int32) = nI 400 from rfl, nI_leI (by omega) (by omega)]; omega)]
    show ld g 11 400 _ _ = _
    rw [ld_n (by omega) (by omega), e1]
    show sto g 19 400 _ _ _ = _
    rw [sto_n (by omega) (by omega)]
    show ld _ 12 400 _ _ = _
    rw [ld_n (by omega) (by omega), up_other (by decide), e2, val_at hv1 (by rw [up_other (by decide)]; exact h3) hJ e3, some_bind]
    show sto _ 20 400 _ _ _ = _
    rw [sto_n (by omega) (by omega), bd_eq, nI_1]
    exact r1
theorem take_over {J : List It} {D : List DS} {g : G} (hJ : J.length ≤ 400) (hD : D.length ≤ 400) (hv : V0 J (J.length + 1) g) (h3 : g 3 5 = nI (J.length + 1)) (hg : Dg J D g) (h8 : g 8 8 = nI D.length) : ∃ g', k2_takeOver 16 8 g = some g' ∧ (∀ i q, D[i]? = some q → g' 19 i = nI q.1 ∧ g' 20 i = valJ J q.2) ∧ (∀ a, a < 16 ∨ 20 < a → g' a = g a) ∧ (∀ i, i < 10 → g' 17 i = g 9 i) ∧ (∀ i, i < 10 → g' 18 i = g 10 i) ∧ (∀ k, 4 ≤ k → k ≤ 8 → g' 16 k = g 8 k) := by
  obtain ⟨g2, h2⟩ : ∃ z, z = cpy (cpy g 9 17 10) 10 18 10 := ⟨_, rfl⟩
  have c2 : ∀ a, a ≠ 17 → a ≠ 18 → g2 a = g a := fun a h17 h18 => by rw [h2, cpy_ne h18, cpy_ne h17]
  obtain ⟨g7, h7⟩ : ∃ z, z = up (up (up (up (up g2 16 4 (g 8 4)) 16 5 (g 8 5)) 16 6 (g 8 6)) 16 7 (g 8 7)) 16 8 (g 8 8) := ⟨_, rfl⟩
  have c7 : ∀ a, a ≠ 16 → a ≠ 17 → a ≠ 18 → g7 a = g a := fun a h16 h17 h18 => by rw [h7, up_ne h16, up_ne h16, up_ne h16, up_ne h16, up_ne h16, c2 a h17 h18]
  obtain ⟨g', r1, r2, r3⟩ := take72 (J := J) hJ hD D.length 0 FU g7 (by omega) (by show _ < 100000; omega) ⟨fun i x hi => by rw [c7 7 (by decide) (by decide) (by decide)]; exact hv.1 i x hi, by rw [c7 7 (by decide) (by decide) (by decide)]; exact hv.2⟩ (by rw [c7 3 (by decide) (by decide) (by decide)]; exact h3) (fun i x hi => by rw [c7 11 (by decide) (by decide) (by decide), c7 12 (by decide) (by decide) (by decide)]; exact hg i x hi) (by rw [h7, up_self]; exact h8) (fun i x hi => absurd hi (Nat.not_lt_zero _))
  have c17 : g' 17 = g2 17 := by rw [r3 17 (by decide) (by decide), h7, up_ne (by decide), up_ne (by decide), up_ne (by decide), up_ne (by decide), up_ne (by decide)]
  have c18 : g' 18 = g2 18 := by rw [r3 18 (by decide) (by decide), h7, up_ne (by decide), up_ne (by decide), up_ne (by decide), up_ne (by decide), up_ne (by decide)]
  refine ⟨g', ?_, r2, fun a ha => (r3 a (by omega) (by omega)).trans (c7 a (by omega) (by omega) (by omega)), fun i hi => ?_, fun i hi => ?_, fun k h1 h2' => ?_⟩
  · unfold k2_takeOver
    rw [bd_eq, bd_eq]
    show bd (up (cpy (cpy g 9 17 10) 10 18 10) 16 4 _) _ = _
    rw [← h2]
    have e4 : g2 8 4 = g 8 4 := by rw [c2 8 (by decide) (by decide)]
    have e5 : g2 8 5 = g 8 5 := by rw [c2 8 (by decide) (by decide)]
    have e6 : g2 8 6 = g 8 6 := by rw [c2 8 (by decide) (by decide)]
    have e7 : g2 8 7 = g 8 7 := by rw [c2 8 (by decide) (by decide)]
    have e8 : g2 8 8 = g 8 8 := by rw [c2 8 (by decide) (by decide)]
    rw [bd_eq, bd_eq, bd_eq, bd_eq, bd_eq]
    simp only [up_other (show (8 : Nat) ≠ 16 by decide), e4, e5, e6, e7, e8]
    rw [← h7]
    exact r1
  · rw [c17, h2, cpy_ne (by decide), cpy_at hi]
  · rw [c18, h2, cpy_at hi, cpy_ne (by decide)]
  · rw [r3 16 (by decide) (by decide), h7]
    rcases (show k = 4 ∨ k = 5 ∨ k = 6 ∨ k = 7 ∨ k = 8 by omega) with rfl | rfl | rfl | rfl | rfl
    · rw [up_slot' (by decide), up_slot' (by decide), up_slot' (by decide), up_slot' (by decide), up_self]
    · rw [up_slot' (by decide), up_slot' (by decide), up_slot' (by decide), up_self]
    · rw [up_slot' (by decide), up_slot' (by decide), up_self]
    · rw [up_slot' (by decide), up_self]
    · rw [up_self]
/-- the row at its start -/
theorem begin41 {n : Nat} (hn : n ≤ 10) : ∀ d j f g, n = j + d → d < f → g 22 7 = nI n → (∀ i, i < j → g 23 i = g 17 i ∧ g 24 i = 100 ∧ g 25 i = g 18 i ∧ g 26 i = nI i) → ∃ g', k4_begin_41 22 16 f (nI j) g = some g' ∧ (∀ i, i < n → g' 23 i = g 17 i ∧ g' 24 i = 100 ∧ g' 25 i = g 18 i ∧ g' 26 i = nI i) ∧ ∀ a, a ≠ 23 → a ≠ 24 → a ≠ 25 → a ≠ 26 → g' a = g a := by
  intro d
  induction d with
  | zero =>
    intro j f g hd hf h7 hdone
    obtain ⟨f, rfl⟩ : ∃ z, f = z + 1 := ⟨f - 1, by omega⟩
    refine ⟨g, ?_, fun i hi => hdone i (by omega), fun _ _ _ _ _ => rfl⟩
    unfold k4_begin_41
    rw [h7, if_pos ((nI_leI (by omega) (by omega)).mpr (by omega))]
  | succ d ih =>
    intro j f g hd hf h7 hdone
    obtain ⟨f, rfl⟩ : ∃ z, f = z + 1 := ⟨f - 1, by omega⟩
    obtain ⟨g4, h4⟩ : ∃ z, z = up (up (up (up g 23 j (g 17 j)) 24 j 100) 25 j (g 18 j)) 26 j (nI j) := ⟨_, rfl⟩
    have hf4 : ∀ a, a ≠ 23 → a ≠ 24 → a ≠ 25 → a ≠ 26 → g4 a = g a := fun a h1 h2 h3 h5 => by rw [h4, up_ne h5, up_ne h3, up_ne h2, up_ne h1]
    obtain ⟨g', r1, r2, r3⟩ := ih (j + 1) f g4 (by omega) (by omega) (by rw [hf4 22 (by decide) (by decide) (by decide) (by decide)]; exact h7) (fun i hi => by
      rw [hf4 17 (by decide) (by decide) (by decide) (by decide), hf4 18 (by decide) (by decide) (by decide) (by decide), h4]
      by_cases z : i = j
      · rw [z]
        exact ⟨by rw [up_other (by decide), up_other (by decide), up_other (by decide), up_self], by rw [up_other (by decide), up_other (by decide), up_self], by rw [up_other (by decide), up_self], up_self⟩
      · obtain ⟨k1, k2, k3, k4⟩ := hdone i (by omega)
        exact ⟨by rw [up_other (by decide), up_other (by decide), up_other (by decide), up_slot' z]; exact k1, by rw [up_other (by decide), up_other (by decide), up_slot' z, up_other (by decide)]; exact k2, by rw [up_other (by decide), up_slot' z, up_other (by decide), up_other (by decide)]; exact k3, by rw [up_slot' z, up_other (by decide), up_other (by decide), up_other (by decide)]; exact k4⟩)
    refine ⟨g', ?_, fun i hi => ?_, fun a h1 h2 h3 h5 => (r3 a h1 h2 h3 h5).trans (hf4 a h1 h2 h3 h5)⟩
    · unfold k4_begin_41
      rw [h7, if_neg (by rw [nI_leI (by omega) (by omega)]; omega)]
      show ld g 17 10 _ _ = _
      rw [ld_n (by omega) (by omega)]
      show sto g 23 10 _ _ _ = _
      rw [sto_n (by omega) (by omega)]
      show sto _ 24 10 _ _ _ = _
      rw [sto_n (by omega) (by omega)]
      show ld _ 18 10 _ _ = _
      rw [ld_n (by omega) (by omega), up_other (by decide), up_other (by decide)]
      show sto _ 25 10 _ _ _ = _
      rw [sto_n (by omega) (by omega)]
      show sto _ 26 10 _ _ _ = _
      rw [sto_n (by omega) (by omega), bd_eq, nI_1, ← h4]
      exact r1
    · have := r2 i hi
      rwa [hf4 17 (by decide) (by decide) (by decide) (by decide), hf4 18 (by decide) (by decide) (by decide) (by decide)] at this
theorem begin_ok {n : Nat} {g : G} (hn : n ≤ 10) (h4 : g 16 4 = nI n) : ∃ g', k7_begin 21 g = some g' ∧ (∀ i, i < n → g' 23 i = g 17 i ∧ g' 24 i = 100 ∧ g' 25 i = g 18 i ∧ g' 26 i = nI i) ∧ g' 22 7 = nI n ∧ g' 22 8 = g 16 6 ∧ g' 22 9 = g 16 7 ∧ g' 22 10 = -1 ∧ g' 22 13 = 0 ∧ g' 30 2 = 0 ∧ g' 30 3 = 0 ∧ g' 30 4 = 0 ∧ g' 21 5 = 0 ∧ ∀ a, a < 21 → g' a = g a := by
  obtain ⟨g5, h5⟩ : ∃ z, z = up (up (up (up (up g 22 7 (nI n)) 22 8 (g 16 6)) 22 9 (g 16 7)) 22 10 (-1)) 22 13 0 := ⟨_, rfl⟩
  have f5 : ∀ a, a ≠ 22 → g5 a = g a := fun a h => by rw [h5, up_ne h, up_ne h, up_ne h, up_ne h, up_ne h]
  have e7 : g5 22 7 = nI n := by rw [h5, up_slot' (by decide), up_slot' (by decide), up_slot' (by decide), up_slot' (by decide), up_self]
  obtain ⟨g', r1, r2, r3⟩ := begin41 hn n 0 FU g5 (by omega) (by show _ < 100000; omega) e7 (fun i hi => absurd hi (Nat.not_lt_zero _))
  have e22 : g' 22 = g5 22 := r3 22 (by decide) (by decide) (by decide) (by decide)
  obtain ⟨g8, h8⟩ : ∃ z, z = up (up (up (up g' 30 2 0) 30 3 0) 30 4 0) 21 5 0 := ⟨_, rfl⟩
  have f8 : ∀ a, a ≠ 30 → a ≠ 21 → g8 a = g' a := fun a h h' => by rw [h8, up_ne h', up_ne h, up_ne h, up_ne h]
  refine ⟨g8, ?_, fun i hi => ?_, ?_, ?_, ?_, ?_, ?_, ?_, ?_, ?_, ?_, fun a ha => ?_⟩
  · have k4 : k4_begin 22 16 g = some g' := by
      unfold k4_begin
      rw [h4, if_neg (by rw [show (10 : Int32) = nI 10 from rfl, nI_ltI (by omega) (by omega)]; omega), bd_eq, bd_eq, bd_eq, bd_eq, bd_eq, bd_eq]
      simp only [up_other (show (16 : Nat) ≠ 22 by decide)]
      rw [← h5]
      exact r1
    unfold k7_begin
    show (k4_begin 22 16 g).bind _ = _
    rw [k4, some_bind]
    show (k3_begin 30 g').bind _ = _
    unfold k3_begin
    rw [bd_eq, bd_eq, bd_eq, some_bind, bd_eq, ← h8]
  · have := r2 i hi
    rw [f5 17 (by decide), f5 18 (by decide)] at this
    rw [f8 23 (by decide) (by decide), f8 24 (by decide) (by decide), f8 25 (by decide) (by decide), f8 26 (by decide) (by decide)]
    exact this
  · rw [f8 22 (by decide) (by decide), e22, e7]
  · rw [f8 22 (by decide) (by decide), e22, h5, up_slot' (by decide), up_slot' (by decide), up_slot' (by decide), up_self]
  · rw [f8 22 (by decide) (by decide), e22, h5, up_slot' (by decide), up_slot' (by decide), up_self]
  · rw [f8 22 (by decide) (by decide), e22, h5, up_slot' (by decide), up_self]
  · rw [f8 22 (by decide) (by decide), e22, h5, up_self]
  · rw [h8, up_other (by decide), up_slot' (by decide), up_slot' (by decide), up_self]
  · rw [h8, up_other (by decide), up_slot' (by decide), up_self]
  · rw [h8, up_other (by decide), up_self]
  · rw [h8, up_self]
  · rw [f8 a (by omega) (by omega), r3 a (by omega) (by omega) (by omega) (by omega), f5 a (by omega)]
