/-! teach: what was told becomes the plan and the row -/
theorem ms_le {kd nm : Nat → Nat} : ∀ (d i : Nat), (ms kd nm i).1 ≤ (ms kd nm (i + d)).1 := by
  intro d
  induction d with
  | zero => intro i; exact Nat.le_refl _
  | succ d ih =>
    intro i
    refine Nat.le_trans (ih i) ?_
    show (ms kd nm (i + d)).1 ≤ (mstep kd nm (ms kd nm (i + d)) (i + d)).1
    unfold mstep
    repeat' split
    all_goals first
      | exact Nat.le_refl _
      | exact Nat.le_succ _
theorem tko_loop {L K : Nat} (hL : L ≤ 400) (hK : K ≤ 400) : ∀ (d p f : Nat) (g : G), L = p + d → d < f → g 16 8 = nI L → g 3 5 = nI (K + 1) → ∃ g', k2_takeOver_72 16 8 f (nI p) g = some g' ∧ (∀ a, a ≠ 19 → a ≠ 20 → g' a = g a) ∧ (∀ i, i < p → g' 19 i = g 19 i ∧ g' 20 i = g 20 i) ∧ ∀ i, p ≤ i → i < L → g' 19 i = g 11 i ∧ ∀ tok, tok < K → g 12 i = nI tok → g' 20 i = g 7 tok := by
  intro d
  induction d with
  | zero =>
    intro p f g hd hf h1 h2
    obtain ⟨f, rfl⟩ : ∃ z, f = z + 1 := ⟨f - 1, by omega⟩
    obtain rfl : L = p := by omega
    refine ⟨g, ?_, fun _ _ _ => rfl, fun _ _ => ⟨rfl, rfl⟩, fun i i1 i2 => by omega⟩
    unfold k2_takeOver_72
    rw [h1, if_pos (by rw [nI_leI (by omega) (by omega)]; omega)]
  | succ d ih =>
    intro p f g hd hf h1 h2
    obtain ⟨f, rfl⟩ : ∃ z, f = z + 1 := ⟨f - 1, by omega⟩
    have hp : p < L := by omega
    have hv : ∃ u, k6_valueAt (g (8 + 4) p) (up g (16 + 3) p (g (8 + 3) p)) = some u ∧ ∀ tok, tok < K → g 12 p = nI tok → u = g 7 tok := by
      unfold k6_valueAt
      rw [up_other (by decide), h2]
      show ∃ u, (if g 12 p < 0 then some (0 : Int32) else if nI (K + 1) ≤ g 12 p then some 0 else ld (up g 19 p (g 11 p)) 7 401 (g 12 p) fun x3 => some x3) = some u ∧ ∀ tok, tok < K → g 12 p = nI tok → u = g 7 tok
      by_cases a : g 12 p < 0
      · rw [if_pos a]
        exact ⟨0, rfl, fun tok t1 t2 => absurd a (by rw [t2]; exact nI_pos (by omega))⟩
      · rw [if_neg a]
        by_cases b : nI (K + 1) ≤ g 12 p
        · rw [if_pos b]
          exact ⟨0, rfl, fun tok t1 t2 => absurd b (by rw [t2, nI_leI (by omega) (by omega)]; omega)⟩
        · rw [if_neg b]
          obtain ⟨t, t1, t2⟩ := nI_of a
          rw [t2, nI_leI (by omega) (by omega)] at b
          rw [t2, ld_n (by omega) (by omega), up_other (by decide)]
          exact ⟨_, rfl, fun tok z1 z2 => by rw [(nI_eq (by omega) (by omega)).mp z2]⟩
    obtain ⟨u, u1, u2⟩ := hv
    obtain ⟨g', c1, c2, c3, c4⟩ := ih (p + 1) f (up (up g 19 p (g 11 p)) 20 p u) (by omega) (by omega) (by rw [up_other (by decide), up_other (by decide)]; exact h1) (by rw [up_other (by decide), up_other (by decide)]; exact h2)
    refine ⟨g', ?_, fun a a1 a2 => (c2 a a1 a2).trans (by rw [up_ne a2, up_ne a1]), fun i hi => ?_, fun i i1 i2 => ?_⟩
    · unfold k2_takeOver_72
      rw [h1, if_neg (by rw [nI_leI (by omega) (by omega)]; omega), if_neg (fun z => absurd ((lit_le (M := 400) (k := 400) rfl (by omega) (by omega)).mp z) (by omega)), ld_n (by omega) (by omega), sto_n (by omega) (by omega), ld_n (by omega) (by omega), up_other (show 8 + 4 ≠ 16 + 3 by decide), u1, some_bind, sto_n (by omega) (by omega), bd_eq, nI_1]
      exact c1
    · have := c3 i (by omega)
      exact ⟨this.1.trans (by rw [up_other (by decide), up_slot (by omega)]), this.2.trans (by rw [up_slot (by omega), up_other (by decide)])⟩
    · by_cases e : i = p
      · subst e
        have := c3 i (by omega)
        exact ⟨this.1.trans (by rw [up_other (by decide), up_self]), fun tok t1 t2 => this.2.trans (by rw [up_self]; exact u2 tok t1 t2)⟩
      · have := c4 i (by omega) i2
        exact ⟨this.1.trans (by rw [up_other (by decide), up_other (by decide)]), fun tok t1 t2 => (this.2 tok t1 (by rw [up_other (by decide), up_other (by decide)]; exact t2)).trans (by rw [up_other (by decide), up_other (by decide)])⟩
theorem k4b_loop {N : Nat} (hN : N ≤ 10) : ∀ (d p f : Nat) (g : G), N = p + d → d < f → g 22 7 = nI N → ∃ g', k4_begin_41 22 16 f (nI p) g = some g' ∧ (∀ a, a < 23 ∨ 26 < a → g' a = g a) ∧ (∀ a i, 23 ≤ a → a ≤ 26 → i < p → g' a i = g a i) ∧ ∀ i, p ≤ i → i < N → g' 23 i = g 17 i ∧ g' 24 i = 100 ∧ g' 25 i = g 18 i ∧ g' 26 i = nI i := by
  intro d
  induction d with
  | zero =>
    intro p f g hd hf h1
    obtain ⟨f, rfl⟩ : ∃ z, f = z + 1 := ⟨f - 1, by omega⟩
    obtain rfl : N = p := by omega
    refine ⟨g, ?_, fun _ _ => rfl, fun _ _ _ _ _ => rfl, fun i i1 i2 => by omega⟩
    unfold k4_begin_41
    rw [h1, if_pos (by rw [nI_leI (by omega) (by omega)]; omega)]
  | succ d ih =>
    intro p f g hd hf h1
    obtain ⟨f, rfl⟩ : ∃ z, f = z + 1 := ⟨f - 1, by omega⟩
    have hp : p < N := by omega
    obtain ⟨g', c1, c2, c3, c4⟩ := ih (p + 1) f (up (up (up (up g 23 p (g 17 p)) 24 p 100) 25 p (g 18 p)) 26 p (nI p)) (by omega) (by omega) (by rw [up_other (by decide), up_other (by decide), up_other (by decide), up_other (by decide)]; exact h1)
    refine ⟨g', ?_, fun a a1 => (c2 a a1).trans (by rw [up_ne (by omega), up_ne (by omega), up_ne (by omega), up_ne (by omega)]), fun a i a1 a2 hi => (c3 a i a1 a2 (by omega)).trans ?_, fun i i1 i2 => ?_⟩
    · unfold k4_begin_41
      rw [h1, if_neg (by rw [nI_leI (by omega) (by omega)]; omega), ld_n (by omega) (by omega), sto_n (by omega) (by omega), sto_n (by omega) (by omega), ld_n (by omega) (by omega), up_other (show 16 + 2 ≠ 22 + 2 by decide), up_other (show 16 + 2 ≠ 22 + 1 by decide), sto_n (by omega) (by omega), sto_n (by omega) (by omega), bd_eq, nI_1]
      exact c1
    · have ne : i ≠ p := by omega
      simp only [up_app, ne, and_false, if_false]
    · by_cases e : i = p
      · subst e
        have z := fun a a1 a2 => c3 a i a1 a2 (Nat.lt_succ_self i)
        refine ⟨(z 23 (by decide) (by decide)).trans ?_, (z 24 (by decide) (by decide)).trans ?_, (z 25 (by decide) (by decide)).trans ?_, (z 26 (by decide) (by decide)).trans ?_⟩
        · rw [up_other (by decide), up_other (by decide), up_other (by decide), up_self]
        · rw [up_other (by decide), up_other (by decide), up_self]
        · rw [up_other (by decide), up_self]
        · rw [up_self]
      · obtain ⟨z1, z2, z3, z4⟩ := c4 i (by omega) i2
        exact ⟨z1.trans (by rw [up_other (by decide), up_other (by decide), up_other (by decide), up_other (by decide)]), z2, z3.trans (by rw [up_other (by decide), up_other (by decide), up_other (by decide), up_other (by decide)]), z4⟩
theorem k9b_loop {N : Nat} (hN : N ≤ 10) : ∀ (d p f : Nat) (g : G), N = p + d → d < f → g 54 0 = nI N → ∃ g', k9_begin_2 79 54 f (nI p) g = some g' ∧ (∀ a, a < 79 ∨ 83 < a → g' a = g a) ∧ (∀ a i, 80 ≤ a → a ≤ 83 → i < p → g' a i = g a i) ∧ (∀ i, p ≤ i → i < N → g' 80 i = g 55 i ∧ g' 81 i = 100 ∧ g' 82 i = g 56 i ∧ g' 83 i = nI i) ∧ g' 79 6 = 0 ∧ g' 79 7 = 0 ∧ g' 79 8 = 0 ∧ g' 79 9 = 0 := by
  intro d
  induction d with
  | zero =>
    intro p f g hd hf h1
    obtain ⟨f, rfl⟩ : ∃ z, f = z + 1 := ⟨f - 1, by omega⟩
    obtain rfl : N = p := by omega
    refine ⟨up (up (up (up g 79 6 0) 79 7 0) 79 8 0) 79 9 0, ?_, fun a a1 => by rw [up_ne (by omega), up_ne (by omega), up_ne (by omega), up_ne (by omega)], fun a i a1 a2 hi => by rw [up_other (by omega), up_other (by omega), up_other (by omega), up_other (by omega)], fun i i1 i2 => by omega, ?_, ?_, ?_, ?_⟩
    · unfold k9_begin_2
      rw [h1, if_pos (by rw [nI_leI (by omega) (by omega)]; omega)]
      rfl
    · rw [up_slot (by decide), up_slot (by decide), up_slot (by decide), up_self]
    · rw [up_slot (by decide), up_slot (by decide), up_self]
    · rw [up_slot (by decide), up_self]
    · rw [up_self]
  | succ d ih =>
    intro p f g hd hf h1
    obtain ⟨f, rfl⟩ : ∃ z, f = z + 1 := ⟨f - 1, by omega⟩
    have hp : p < N := by omega
    obtain ⟨g', c1, c2, c3, c4, c5⟩ := ih (p + 1) f (up (up (up (up g 80 p (g 55 p)) 81 p 100) 82 p (g 56 p)) 83 p (nI p)) (by omega) (by omega) (by rw [up_other (by decide), up_other (by decide), up_other (by decide), up_other (by decide)]; exact h1)
    refine ⟨g', ?_, fun a a1 => (c2 a a1).trans (by rw [up_ne (by omega), up_ne (by omega), up_ne (by omega), up_ne (by omega)]), fun a i a1 a2 hi => (c3 a i a1 a2 (by omega)).trans ?_, fun i i1 i2 => ?_, c5⟩
    · unfold k9_begin_2
      rw [h1, if_neg (by rw [nI_leI (by omega) (by omega)]; omega), ld_n (by omega) (by omega), sto_n (by omega) (by omega), sto_n (by omega) (by omega), ld_n (by omega) (by omega), up_other (show 54 + 2 ≠ 79 + 2 by decide), up_other (show 54 + 2 ≠ 79 + 1 by decide), sto_n (by omega) (by omega), sto_n (by omega) (by omega), bd_eq, nI_1]
      exact c1
    · have ne : i ≠ p := by omega
      simp only [up_app, ne, and_false, if_false]
    · by_cases e : i = p
      · subst e
        have z := fun a a1 a2 => c3 a i a1 a2 (Nat.lt_succ_self i)
        refine ⟨(z 80 (by decide) (by decide)).trans ?_, (z 81 (by decide) (by decide)).trans ?_, (z 82 (by decide) (by decide)).trans ?_, (z 83 (by decide) (by decide)).trans ?_⟩
        · rw [up_other (by decide), up_other (by decide), up_other (by decide), up_self]
        · rw [up_other (by decide), up_other (by decide), up_self]
        · rw [up_other (by decide), up_self]
        · rw [up_self]
      · obtain ⟨z1, z2, z3, z4⟩ := c4 i (by omega) i2
        exact ⟨z1.trans (by rw [up_other (by decide), up_other (by decide), up_other (by decide), up_other (by decide)]), z2, z3.trans (by rw [up_other (by decide), up_other (by decide), up_other (by decide), up_other (by decide)]), z4⟩
theorem class_end {g : G} {v : Int32} {N L K : Nat} (h4 : g 8 4 = nI N) (hN : N ≤ 10) (h8 : g 8 8 = nI L) (hL : L ≤ 400) (h3 : g 3 5 = nI (K + 1)) (hK : K ≤ 400) : ∃ g', k8_teach_37 v (-1) g = some (0, g') ∧ (∀ a, 34 < a → g' a = g a) ∧ g' 1 1 = 0 ∧ g' 0 8 = -1 ∧ g' 16 5 = g 8 5 ∧ g' 16 8 = nI L ∧ (∀ i, i < L → g' 19 i = g 11 i ∧ ∀ tok, tok < K → g 12 i = nI tok → g' 20 i = g 7 tok) ∧ (g' 22 7 = nI N ∧ g' 22 8 = g 8 6 ∧ g' 22 9 = g 8 7 ∧ g' 22 10 = -1 ∧ g' 22 13 = 0) ∧ (∀ m, m < N → g' 23 m = g 9 m ∧ g' 24 m = 100 ∧ g' 25 m = g 10 m ∧ g' 26 m = nI m) ∧ g' 30 2 = 0 ∧ g' 30 3 = 0 ∧ g' 30 4 = 0 ∧ g' 21 5 = 0 := by
  obtain ⟨gA, hA⟩ : ∃ x, x = up (up (up (up (up (cpy (cpy (up (up g 0 8 (-1)) 1 1 0) 9 17 10) 10 18 10) 16 4 (g 8 4)) 16 5 (g 8 5)) 16 6 (g 8 6)) 16 7 (g 8 7)) 16 8 (g 8 8) := ⟨_, rfl⟩
  have fA : ∀ a k, a ≠ 0 → a ≠ 1 → a ≠ 16 → a ≠ 17 → a ≠ 18 → gA a k = g a k := by
    intro a k a0 a1 a2 a3 a4
    rw [hA]
    simp only [up_app, cpy, a0, a1, a2, a3, a4, false_and, if_false]
  obtain ⟨gB, b1, b2, b3, b4⟩ := tko_loop hL hK L 0 FU gA (by omega) (by unfold FU; omega) (by rw [hA, up_self]; exact h8) (by rw [fA 3 5 (by decide) (by decide) (by decide) (by decide) (by decide)]; exact h3)
  have B : ∀ a k, a ≠ 19 → a ≠ 20 → gB a k = gA a k := fun a k a1 a2 => by rw [b2 a a1 a2]
  obtain ⟨gC, hC⟩ : ∃ x, x = up (up (up (up (up gB 22 7 (nI N)) 22 8 (g 8 6)) 22 9 (g 8 7)) 22 10 (-1)) 22 13 0 := ⟨_, rfl⟩
  obtain ⟨gD, d1, d2, d3, d4⟩ := k4b_loop hN N 0 FU gC (by omega) (by unfold FU; omega) (by rw [hC]; rfl)
  have fC : ∀ a k, a ≠ 22 → gC a k = gB a k := by
    intro a k a0
    rw [hC]
    simp only [up_app, a0, false_and, if_false]
  have dC : ∀ a k, a < 23 ∨ 26 < a → gD a k = gC a k := fun a k h => by rw [d2 a h]
  have e64 : gB 16 4 = nI N := by rw [B 16 4 (by decide) (by decide), hA]; exact h4
  have e66 : gB 16 6 = g 8 6 := by rw [B 16 6 (by decide) (by decide), hA]; rfl
  have e67 : gB 16 7 = g 8 7 := by rw [B 16 7 (by decide) (by decide), hA]; rfl
  refine ⟨up (up (up (up gD 30 2 0) 30 3 0) 30 4 0) 21 5 0, ?_, fun a ha => ?_, ?_, ?_, ?_, ?_, fun i hi => ?_, ⟨?_, ?_, ?_, ?_, ?_⟩, fun m hm => ?_, ?_, ?_, ?_, ?_⟩
  · unfold k8_teach_37 k8_teach_54
    rw [if_neg (show ¬ (0 : Int32) ≤ -1 by decide), bd_eq, bd_eq, if_pos (show (-1 : Int32) < 0 by decide)]
    have z1 : k2_takeOver 16 8 (up (up g 0 8 (-1)) 1 1 0) = some gB := by
      unfold k2_takeOver
      rw [← b1, hA]
      rfl
    have z2 : k7_begin 21 gB = some (up (up (up (up gD 30 2 0) 30 3 0) 30 4 0) 21 5 0) := by
      unfold k7_begin k4_begin
      rw [bd_eq, e64, if_neg (show ¬ (10 : Int32) < nI N from fun z => absurd ((nI_ltI (a := 10) (b := N) (by omega) (by omega)).mp z) (by omega)), bd_eq, bd_eq, bd_eq, bd_eq, bd_eq]
      have q : up (up (up (up (up gB (21 + 1) 7 (nI N)) (21 + 1) 8 (up gB (21 + 1) 7 (nI N) 16 6)) (21 + 1) 9 (up (up gB (21 + 1) 7 (nI N)) (21 + 1) 8 (up gB (21 + 1) 7 (nI N) 16 6) 16 7)) (21 + 1) 10 (-1)) (21 + 1) 13 0 = gC := by
        rw [up_other (show 16 ≠ 21 + 1 by decide), e66, up_other (show 16 ≠ 21 + 1 by decide), up_other (show 16 ≠ 21 + 1 by decide), e67, hC]
      rw [q, show k4_begin_41 (21 + 1) 16 FU 0 gC = some gD from d1, some_bind]
      rfl
    rw [z1, some_bind, z2, some_bind]
  · funext k
    rw [up_other (by omega), up_other (by omega), up_other (by omega), up_other (by omega), dC a k (by omega), fC a k (by omega), B a k (by omega) (by omega), fA a k (by omega) (by omega) (by omega) (by omega) (by omega)]
  · rw [up_other (by decide), up_other (by decide), up_other (by decide), up_other (by decide), dC 1 1 (by omega), fC 1 1 (by decide), B 1 1 (by decide) (by decide), hA]
    rfl
  · rw [up_other (by decide), up_other (by decide), up_other (by decide), up_other (by decide), dC 0 8 (by omega), fC 0 8 (by decide), B 0 8 (by decide) (by decide), hA]
    rfl
  · rw [up_other (by decide), up_other (by decide), up_other (by decide), up_other (by decide), dC 16 5 (by omega), fC 16 5 (by decide), B 16 5 (by decide) (by decide), hA]
    rfl
  · rw [up_other (by decide), up_other (by decide), up_other (by decide), up_other (by decide), dC 16 8 (by omega), fC 16 8 (by decide), B 16 8 (by decide) (by decide), hA, up_self]
    exact h8
  · obtain ⟨i1, i2⟩ := b4 i (by omega) hi
    refine ⟨?_, fun tok t1 t2 => ?_⟩
    · rw [up_other (by decide), up_other (by decide), up_other (by decide), up_other (by decide), dC 19 i (by omega), fC 19 i (by decide), i1, fA 11 i (by decide) (by decide) (by decide) (by decide) (by decide)]
    · rw [up_other (by decide), up_other (by decide), up_other (by decide), up_other (by decide), dC 20 i (by omega), fC 20 i (by decide), i2 tok t1 (by rw [fA 12 i (by decide) (by decide) (by decide) (by decide) (by decide)]; exact t2), fA 7 tok (by decide) (by decide) (by decide) (by decide) (by decide)]
  · rw [up_other (by decide), up_other (by decide), up_other (by decide), up_other (by decide), dC 22 7 (by omega), hC]
    rfl
  · rw [up_other (by decide), up_other (by decide), up_other (by decide), up_other (by decide), dC 22 8 (by omega), hC]
    rfl
  · rw [up_other (by decide), up_other (by decide), up_other (by decide), up_other (by decide), dC 22 9 (by omega), hC]
    rfl
  · rw [up_other (by decide), up_other (by decide), up_other (by decide), up_other (by decide), dC 22 10 (by omega), hC]
    rfl
  · rw [up_other (by decide), up_other (by decide), up_other (by decide), up_other (by decide), dC 22 13 (by omega), hC]
    rfl
  · obtain ⟨m1, m2, m3, m4⟩ := d4 m (by omega) hm
    have q : ∀ a, a ≠ 30 → a ≠ 21 → up (up (up (up gD 30 2 0) 30 3 0) 30 4 0) 21 5 0 a m = gD a m := fun a a1 a2 => by rw [up_other a2, up_other a1, up_other a1, up_other a1]
    rw [q 23 (by decide) (by decide), q 24 (by decide) (by decide), q 25 (by decide) (by decide), q 26 (by decide) (by decide)]
    refine ⟨m1.trans ?_, m2, m3.trans ?_, m4⟩
    · rw [fC 17 m (by decide), B 17 m (by decide) (by decide), hA, up_other (by decide), up_other (by decide), up_other (by decide), up_other (by decide), up_other (by decide)]
      show (if 17 = 18 ∧ m < 10 then _ else if 17 = 17 ∧ m < 10 then _ else _) = _
      rw [if_neg (fun z => absurd z.1 (by decide)), if_pos ⟨rfl, by omega⟩, up_other (by decide), up_other (by decide)]
    · rw [fC 18 m (by decide), B 18 m (by decide) (by decide), hA, up_other (by decide), up_other (by decide), up_other (by decide), up_other (by decide), up_other (by decide)]
      show (if 18 = 18 ∧ m < 10 then (if 10 = 17 ∧ m < 10 then _ else up (up g 0 8 (-1)) 1 1 0 10 m) else _) = _
      rw [if_pos ⟨rfl, by omega⟩, if_neg (fun z => absurd z.1 (by decide)), up_other (by decide), up_other (by decide)]
  · rw [up_other (by decide), up_slot (by decide), up_slot (by decide), up_self]
  · rw [up_other (by decide), up_slot (by decide), up_self]
  · rw [up_other (by decide), up_self]
  · rw [up_self]
