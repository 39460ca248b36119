/-! teach: the reference's end; the plan -/
theorem become54 (g : G) : ∃ g', k10_become 54 66 g = some g' ∧ (∀ a, a < 54 ∨ 65 < a → g' a = g a) ∧ (g' 54 0 = g 66 0 ∧ g' 54 1 = g 66 1 ∧ g' 54 2 = g 66 2 ∧ g' 54 5 = g 66 5) ∧ (∀ i, i < 11 → g' 55 i = g 67 i ∧ g' 56 i = g 68 i) ∧ (∀ a i, 57 ≤ a → a ≤ 62 → i < 17 → g' a i = g (a + 12) i) ∧ ∀ a i, 63 ≤ a → a ≤ 65 → i < 800 → g' a i = g (a + 12) i := by
  obtain ⟨gA, hA⟩ : ∃ x, x = up (up (up (up (up g 54 0 (g 66 0)) 54 1 (g 66 1)) 54 2 (g 66 2)) 54 5 (g 66 5)) 54 12 (g 66 12) := ⟨_, rfl⟩
  obtain ⟨gB, hB⟩ : ∃ x, x = cpy (cpy (cpy (cpy (cpy (cpy (cpy (cpy (cpy (cpy (cpy gA 67 55 11) 68 56 11) 69 57 17) 70 58 17) 71 59 17) 72 60 17) 73 61 17) 74 62 17) 75 63 800) 76 64 800) 77 65 800 := ⟨_, rfl⟩
  have fA : ∀ a k, a ≠ 54 → gA a k = g a k := by
    intro a k a0
    rw [hA]
    simp only [up_app, a0, false_and, if_false]
  refine ⟨gB, ?_, fun a ha => ?_, ⟨?_, ?_, ?_, ?_⟩, fun i hi => ⟨?_, ?_⟩, fun a i a1 a2 hi => ?_, fun a i a1 a2 hi => ?_⟩
  · rw [hB, hA]
    rfl
  · funext k
    have e : ∀ z, 54 ≤ z → z ≤ 65 → a ≠ z := fun z z1 z2 q => by omega
    rw [hB]
    simp only [cpy, e 55 (by decide) (by decide), e 56 (by decide) (by decide), e 57 (by decide) (by decide), e 58 (by decide) (by decide), e 59 (by decide) (by decide), e 60 (by decide) (by decide), e 61 (by decide) (by decide), e 62 (by decide) (by decide), e 63 (by decide) (by decide), e 64 (by decide) (by decide), e 65 (by decide) (by decide), false_and, if_false]
    exact fA a k (e 54 (by decide) (by decide))
  · rw [hB, hA]; rfl
  · rw [hB, hA]; rfl
  · rw [hB, hA]; rfl
  · rw [hB, hA]; rfl
  · rw [hB]
    simp [cpy, hi]
    exact fA 67 i (by decide)
  · rw [hB]
    simp [cpy, hi]
    exact fA 68 i (by decide)
  · rw [hB]
    rcases (show a = 57 ∨ a = 58 ∨ a = 59 ∨ a = 60 ∨ a = 61 ∨ a = 62 by omega) with rfl | rfl | rfl | rfl | rfl | rfl <;> simp [cpy, hi] <;> exact fA _ i (by decide)
  · rw [hB]
    rcases (show a = 63 ∨ a = 64 ∨ a = 65 by omega) with rfl | rfl | rfl <;> simp [cpy, hi] <;> exact fA _ i (by decide)
theorem ref_end {g : G} {N : Nat} (h10 : g 47 10 = 0) (h0 : g 66 0 = nI N) (hN : N ≤ 10) : ∃ g', k11_teach_66 (-1) g = some (0, g') ∧ (∀ a, a < 47 → g' a = g a) ∧ g' 47 3 = -1 ∧ g' 47 2 = g 47 2 ∧ (g' 54 0 = nI N ∧ g' 54 1 = g 66 1 ∧ g' 54 2 = g 66 2 ∧ g' 54 5 = g 66 5) ∧ (∀ a i, 57 ≤ a → a ≤ 62 → i < 17 → g' a i = g (a + 12) i) ∧ (∀ a i, 63 ≤ a → a ≤ 65 → i < 800 → g' a i = g (a + 12) i) ∧ (∀ m, m < N → g' 80 m = g 67 m ∧ g' 81 m = 100 ∧ g' 82 m = g 68 m ∧ g' 83 m = nI m) ∧ g' 79 6 = 0 ∧ g' 79 7 = 0 ∧ g' 79 8 = 0 ∧ g' 79 9 = 0 := by
  obtain ⟨gB, b1, b2, ⟨b3, b4, b5, b6⟩, b7, b8, b9⟩ := become54 (up g 47 3 (-1))
  have f : ∀ a k, a ≠ 47 → up g 47 3 (-1) a k = g a k := fun a k h => up_other h
  rw [f 66 0 (by decide)] at b3
  rw [f 66 1 (by decide)] at b4
  rw [f 66 2 (by decide)] at b5
  rw [f 66 5 (by decide)] at b6
  obtain ⟨gD, d1, d2, d3, d4, d5⟩ := k9b_loop hN N 0 FU gB (by omega) (by unfold FU; omega) (b3.trans h0)
  refine ⟨gD, ?_, fun a ha => by rw [d2 a (by omega), b2 a (by omega), up_ne (by omega)], by rw [d2 47 (by omega), b2 47 (by omega), up_self], by rw [d2 47 (by omega), b2 47 (by omega), up_slot (by decide)], ?_, fun a i a1 a2 hi => by rw [d2 a (by omega), b8 a i a1 a2 hi, f _ i (by omega)], fun a i a1 a2 hi => by rw [d2 a (by omega), b9 a i a1 a2 hi, f _ i (by omega)], fun m hm => ?_, d5⟩
  · unfold k11_teach_66
    rw [bd_eq, if_pos (by rw [up_slot (by decide)]; exact h10), b1, some_bind]
    unfold k9_begin
    rw [show k9_begin_2 79 54 FU 0 gB = some gD from d1, some_bind]
  · rw [d2 54 (by omega)]
    exact ⟨b3.trans h0, b4, b5, b6⟩
  · obtain ⟨m1, m2, m3, m4⟩ := d4 m (by omega) hm
    obtain ⟨n1, n2⟩ := b7 m (by omega)
    exact ⟨m1.trans (n1.trans (f 67 m (by decide))), m2, m3.trans (n2.trans (f 68 m (by decide))), m4⟩
section TK
variable {T K : Nat} {B : Nat → Int32} {kd ps sz nm : Nat → Nat}
theorem plan_rel {X gG gm g7 : G} {L n : Nat} (hT : Toks T 0 K kd ps sz nm) (hno : noErr kd nm (sameN B ps sz) (K + 1)) (hMR : MR T K B kd ps sz nm (K + 1) g7) (hq : ms kd nm (K + 1) = ms kd nm K) (hLin : Lin K kd nm (sameN B ps sz) K L n gG gm) (hL : L ≤ K) (hn : n ≤ K) (x1 : ∀ i, i < L → X 19 i = gG 11 i) (x2 : ∀ i, i < L → ∀ tok, tok < K → gG 12 i = nI tok → X 20 i = g7 7 tok) (x3 : ∀ a i, 57 ≤ a → a ≤ 62 → i < 17 → X a i = gm (a + 12) i) (x4 : ∀ a i, 63 ≤ a → a ≤ 65 → i < 800 → X a i = gm (a + 12) i) (x5 : X 54 5 = gm 66 5) (x6 : X 16 5 = g7 8 5) (x7 : X 16 8 = nI L) : RelP (ms kd nm K).1 X := by
  have hK := hT.2.1
  obtain ⟨l1, l2, l3, l4, l5, F, C, f0, c0, fO, cO, ho⟩ := hLin
  obtain ⟨-, -, -, -, r5, r6, -, -, -, -, r11, r12⟩ := hMR
  have hmono := Lin.ordMono ho
  have mv : ∀ tok m, tok < K → mvO (sameN B ps sz) (ms kd nm tok) tok = some m → m < (ms kd nm K).1 := by
    intro tok m h1 h2
    have z := fnd_lt _ _ _ h2
    have y := ms_le (kd := kd) (nm := nm) (K - tok) tok
    rw [show tok + (K - tok) = K by omega] at y
    omega
  refine ⟨(ms kd nm K).2.2.1, F, C, l2, f0, c0, by rw [x5]; exact l1, by rw [x6, r5, hq], by rw [x7, cO], by rw [cO]; omega, by rw [fO]; omega, fun k hk => ?_⟩
  obtain ⟨o1, o2, o3, o4, d, m, te, su, d1, d2, d3, d4, d5, d6, d7, d8, d9, d10, tok, t1, t2, t3, t4, t5, t6⟩ := ho k hk
  have hF : F (k + 1) ≤ n := by rw [← fO]; exact hmono.1 (k + 1) hk
  have hC : C (k + 1) ≤ L := by rw [← cO]; exact hmono.2 (k + 1) hk
  have d8' : C k + (F (k + 1) - F k) + 1 ≤ C (k + 1) := by
    rw [d8]
    split <;> omega
  have hm := t6 (fun i hi => hno i (by omega))
  have hmN := mv tok m t2 hm
  refine ⟨o1, (x3 59 k (by decide) (by decide) (by omega)).trans o2, (x3 60 k (by decide) (by decide) (by omega)).trans o3, fun j j1 j2 => ?_, d, m, te, su, d1, hmN, (x3 57 k (by decide) (by decide) (by omega)).trans d2, (x3 58 k (by decide) (by decide) (by omega)).trans d3, (x3 62 k (by decide) (by decide) (by omega)).trans d4, (x3 61 k (by decide) (by decide) (by omega)).trans d5, d6, ?_, d8, fun z => ?_, by rw [x1 _ (by omega)]; exact d10, ?_⟩
  · obtain ⟨s, s1, s2, s3, s4, s5, s6⟩ := o4 j j1 j2
    refine ⟨s, s1, s2, (x4 63 j (by decide) (by decide) (by omega)).trans s3, (x1 _ (by omega)).trans s4, fun z => ?_, fun z => ?_⟩
    · obtain ⟨tk, a1, a2, a3, a4, a5, a6⟩ := s5 z
      obtain ⟨m', b1, b2⟩ := a6 (fun i hi => hno i (by omega))
      obtain ⟨m2, e1, e2⟩ := r12 tk (by omega) a2 a3 a4
      rw [b1] at e1
      obtain rfl := Option.some.inj e1
      exact ⟨m', mv tk m' a2 b1, (x4 64 j (by decide) (by decide) (by omega)).trans b2, (x2 _ (by omega) tk a2 a5).trans e2⟩
    · obtain ⟨tk, a1, a2, a3, a4, a5⟩ := s6 z
      rw [x2 _ (by omega) tk a2 a4, r11 tk a2 a3]
      exact (a5.symm.trans (x4 64 j (by decide) (by decide) (by omega)).symm)
  · rw [← d7]
    exact stk_congr _ _ _ (fun a i a1 a2 i1 i2 => x4 a i a1 a2 (by omega))
  · rw [x1 _ (by rw [z, if_pos rfl] at d8; omega)]
    exact d9 z
  · obtain ⟨m2, e1, e2⟩ := r12 tok (by omega) t2 t3 t4
    rw [hm] at e1
    obtain rfl := Option.some.inj e1
    exact (x2 _ (by omega) tok t2 t5).trans e2
end TK
