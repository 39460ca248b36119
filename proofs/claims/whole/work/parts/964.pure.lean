/-! mean clarity -/
theorem mean_all : ((List.range 1001).all fun s => (List.range 10).all fun c => decide (FP.ddiv (FP.i2d (nI s)) (FP.i2d (nI (c + 1))) &&& 0x7fffffffffffffff ≤ 0x7ff0000000000000)) = true := by decide +kernel
theorem mean_n {ρ : Type} {s c : Nat} (hs : s ≤ 1000) (hc : 0 < c ∧ c ≤ 10) {F : UInt64 → Option ρ} : ddv (FP.i2d (nI s)) (FP.i2d (nI c)) F = F (FP.ddiv (FP.i2d (nI s)) (FP.i2d (nI c))) := by
  have h := List.all_eq_true.mp (List.all_eq_true.mp mean_all s (List.mem_range.mpr (by omega))) (c - 1) (List.mem_range.mpr (by omega))
  have h := of_decide_eq_true h
  rw [show c - 1 + 1 = c by omega] at h
  exact if_pos h
def cs (cl : Nat → Int32) : Nat → Int32
  | 0 => 0
  | p + 1 => cs cl p + cl p
theorem cs_rng {cl : Nat → Int32} {N : Nat} (h : ∀ m, m < N → ∃ c, c ≤ 100 ∧ cl m = nI c) : ∀ p, p ≤ N → ∃ s, s ≤ 100 * p ∧ cs cl p = nI s := by
  intro p
  induction p with
  | zero => intro _; exact ⟨0, by omega, rfl⟩
  | succ p ih =>
    intro hp
    obtain ⟨s, s1, s2⟩ := ih (by omega)
    obtain ⟨c, c1, c2⟩ := h p (by omega)
    exact ⟨s + c, by omega, by unfold cs; rw [s2, c2, nI_add]⟩
theorem mean_c {n N J : Nat} {rw : Nat → Nat} {g0 : G} {y : UInt64} (hy : ∀ (F : UInt64 → Option (UInt64 × G)), ddv (FP.i2d (cs (g0 80) N)) (FP.i2d (nI N)) F = F y) : ∀ (d p f : Nat) (g : G), N = p + d → d < f → InvC n N J rw g → (∀ a, 47 ≤ a → g a = g0 a) → ∃ g', k8_meanClarity_21 f (nI N) (cs (g0 80) p) (nI p) g = some (y, g') ∧ InvC n N J rw g' ∧ ∀ a, 47 ≤ a → g' a = g0 a := by
  intro d
  induction d with
  | zero =>
    intro p f g hd hf h hg
    obtain ⟨f, rfl⟩ : ∃ z, f = z + 1 := ⟨f - 1, by omega⟩
    obtain rfl : N = p := by omega
    have hN9 := h.R.N9
    refine ⟨g, ?_, h, hg⟩
    unfold k8_meanClarity_21
    rw [if_pos (by rw [nI_leI (by omega) (by omega)]; omega), hy]
  | succ d ih =>
    intro p f g hd hf h hg
    obtain ⟨f, rfl⟩ : ∃ z, f = z + 1 := ⟨f - 1, by omega⟩
    have hN9 := h.R.N9
    obtain ⟨g1, e1, l1, r1⟩ := v129 hO0 h.R (show p < N by omega)
    have hg1 : ∀ a, 47 ≤ a → g1 a = g0 a := fun a ha => by rw [l1.1 a (by omega) (by omega) (by omega) (by omega)]; exact hg a ha
    obtain ⟨g', a1, a2, a3⟩ := ih (p + 1) f g1 (by omega) (by omega) (h.lit l1) hg1
    refine ⟨g', ?_, a2, a3⟩
    unfold k8_meanClarity_21
    rw [if_neg (by rw [nI_leI (by omega) (by omega)]; omega), e1, some_bind, bd_eq, bd_eq, nI_1]
    dsimp only
    rw [show g1 (79 + 1) p = g0 80 p by rw [hg1 _ (by omega)]]
    exact a1
theorem mean_m {N : Nat} {g : G} (hN9 : N ≤ 10) (hN : g 54 0 = nI N) : ∀ (d p f : Nat), N = p + d → d < f → k11_meanClarity_9 f (cs (g 80) p) (nI p) g = if nI N = 0 then k11_meanClarity_63 FP.dconst0 g else ddv (FP.i2d (cs (g 80) N)) (FP.i2d (nI N)) fun x3 => k11_meanClarity_63 x3 g := by
  intro d
  induction d with
  | zero =>
    intro p f hd hf
    obtain ⟨f, rfl⟩ : ∃ z, f = z + 1 := ⟨f - 1, by omega⟩
    obtain rfl : N = p := by omega
    unfold k11_meanClarity_9
    rw [hN, if_pos (by rw [nI_leI (by omega) (by omega)]; omega)]
  | succ d ih =>
    intro p f hd hf
    obtain ⟨f, rfl⟩ : ∃ z, f = z + 1 := ⟨f - 1, by omega⟩
    rw [← ih (p + 1) f (by omega) (by omega)]
    conv => lhs; unfold k11_meanClarity_9
    rw [hN, if_neg (by rw [nI_leI (by omega) (by omega)]; omega), ld_n (by omega) (by omega), bd_eq, bd_eq, nI_1]
    rfl
theorem p_meanClarity : S_meanClarity Inv := by
  intro n g h
  obtain ⟨N, J, rw, h⟩ := h
  have hN9 := h.R.N9
  by_cases hm : N = 0
  · subst hm
    refine ⟨(FP.dconst0, g), (FP.dconst0, up g 47 0 0), ?_, ?_, rfl, h.thrown.next⟩
    · unfold k8_meanClarity
      rw [h.R.1, bd_eq, if_pos (show nI 0 = 0 from rfl)]
    · unfold k11_meanClarity
      rw [bd_eq]
      have := mean_m (g := up g 47 0 0) hN9 h.thrown.R.2.1 0 0 FU (by omega) (by unfold FU; omega)
      rw [if_pos (show nI 0 = 0 from rfl)] at this
      exact this
  · obtain ⟨s, s1, s2⟩ := cs_rng (cl := g 80) (N := N) (fun m hm => rng_n (h.2.2.2.1 m hm).1) N (Nat.le_refl _)
    have hy : ∀ (F : UInt64 → Option (UInt64 × G)), ddv (FP.i2d (cs (g 80) N)) (FP.i2d (nI N)) F = F (FP.ddiv (FP.i2d (nI s)) (FP.i2d (nI N))) := fun F => by
      rw [s2]
      exact mean_n (by omega) (by omega)
    have hne : ¬ nI N = 0 := nI_ne0 (by omega) (by omega)
    obtain ⟨g', a1, a2, a3⟩ := mean_c (n := n) (J := J) (rw := rw) (g0 := g) hy N 0 FU g (by omega) (by unfold FU; omega) h (fun _ _ => rfl)
    refine ⟨(_, g'), (FP.ddiv (FP.i2d (nI s)) (FP.i2d (nI N)), up g' 47 0 0), ?_, ?_, rfl, a2.thrown.next⟩
    · unfold k8_meanClarity
      rw [h.R.1, bd_eq, if_neg hne]
      exact a1
    · unfold k11_meanClarity
      rw [bd_eq]
      have := mean_m (g := up g' 47 0 0) hN9 a2.thrown.R.2.1 N 0 FU (by omega) (by unfold FU; omega)
      rw [if_neg hne, show (up g' 47 0 0) 80 = g 80 by rw [up_ne (by decide), a3 80 (by omega)], hy] at this
      exact this
