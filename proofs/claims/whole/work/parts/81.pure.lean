/-! the light: the class's and the reference's -/
def litOK (o : Nat) (g : G) (rw : Nat → Nat) (N : Nat) : Prop := g o 13 = 0 ∨ (g o 13 = 1 ∧ litTo o (g (o + 1)) (g (o + 3)) rw (g o 8) (g o 10) N g ∧ g o 11 = shL (g (o + 1)) (g (o + 3)) rw (g o 8) (g o 10) N ∧ g o 12 = shA (g (o + 3)) rw N)
/-- g' is g, with the light of the row at o reckoned -/
def litOf (o : Nat) (rw : Nat → Nat) (N : Nat) (g g' : G) : Prop := (∀ a, a ≠ o → a ≠ o + 5 → a ≠ o + 6 → a ≠ o + 7 → g' a = g a) ∧ (∀ k, k ≠ 11 → k ≠ 12 → k ≠ 13 → g' o k = g o k) ∧ g' o 13 = 1 ∧ litTo o (g (o + 1)) (g (o + 3)) rw (g o 8) (g o 10) N g' ∧ g' o 11 = shL (g (o + 1)) (g (o + 3)) rw (g o 8) (g o 10) N ∧ g' o 12 = shA (g (o + 3)) rw N
theorem k4_shine_ok {o N : Nat} {g : G} {rw : Nat → Nat} (hN : g o 7 = nI N) (hR : isRow g (o + 4) N rw) (hl : litOK o g rw N) : ∃ g', k4_shine o g = some g' ∧ litOf o rw N g g' := by
  unfold k4_shine
  rcases hl with h | ⟨h, h1, h2, h3⟩
  · rw [if_pos h]
    obtain ⟨g', k1, l1, e1⟩ := k4_shine_loop hN hR N 0 FU g (by omega) (by have := hR.1; unfold FU; omega) (fun a _ _ _ => rfl) (fun q hq => absurd hq (by omega))
    refine ⟨_, e1, fun a a0 a1 a2 a3 => ?_, fun k b1 b2 b3 => ?_, up_self, fun q hq => ?_, ?_, ?_⟩
    · rw [up_ne a0, up_ne a0, up_ne a0]
      exact k1 a a1 a2 a3
    · rw [up_slot b3, up_slot b2, up_slot b1, k1 o (by omega) (by omega) (by omega)]
    · obtain ⟨q1, q2, q3⟩ := l1 q hq
      refine ⟨?_, ?_, ?_⟩
      · rw [up_other (by omega), up_other (by omega), up_other (by omega), q1]
      · rw [up_other (by omega), up_other (by omega), up_other (by omega), q2]
      · rw [up_other (by omega), up_other (by omega), up_other (by omega), q3]
    · rw [up_slot (by decide), up_slot (by decide), up_self]
    · rw [up_slot (by decide), up_self]
  · rw [if_neg (by rw [h]; decide)]
    exact ⟨g, rfl, fun a _ _ _ _ => rfl, fun k _ _ _ => rfl, h, h1, h2, h3⟩
theorem k11_isIn_n {a lo hi : Int32} {g : G} : k11_isIn a lo hi g = some (if a < lo then 0 else if hi < a then 0 else 1) := by
  unfold k11_isIn
  split
  · rfl
  · split <;> rfl
theorem zrP_01 {v : Int32} (h : v = 0 ∨ v = 1) : zrP v = some v := if_pos h
theorem k11_isWide_n {a : Int32} {g : G} : k11_isWide a g = some (wi (g 54 1) a) := by
  unfold k11_isWide
  rw [k11_isIn_n, some_bind]
  have e : (if a < -g 54 1 then (0 : Int32) else if g 54 1 < a then 0 else 1) = wi (g 54 1) a := by
    unfold wi
    by_cases h1 : a < -g 54 1 <;> by_cases h2 : g 54 1 < a <;> simp [h1, h2]
  rw [e]
  exact zrP_01 wi_01
/-- the mirror that is covered, as the class keeps it -/
def covOf (t : Nat) (g : G) : Int32 := if g t 7 ≤ 0 then -1 else g (t + 6) 0
theorem covOf_same {t : Nat} {g g' : G} (h1 : g' t = g t) (h2 : g' (t + 6) = g (t + 6)) : covOf t g' = covOf t g := by
  unfold covOf
  rw [h1, h2]
theorem nI_nm1 {j : Nat} (h : j < 2 ^ 31) : nI j ≠ -1 := fun e => nI_pos h (by rw [e]; decide)
theorem ld_0 {ρ : Type} {g : G} {a n : Nat} {f : Int32 → Option ρ} (h : 0 < n) (hn : n ≤ 3000) : ld g a n 0 f = f (g a 0) := ld_n (j := 0) h hn
theorem k9_cov {t j : Nat} {g : G} (hj : j < 2 ^ 31) : k9_isCovered t (nI j) g = some (if nI j = covOf t g then 1 else 0) := by
  unfold k9_isCovered covOf
  by_cases h : g t 7 ≤ 0
  · rw [if_pos h, if_pos h, if_neg (nI_nm1 hj)]
  · rw [if_neg h, if_neg h, ld_0 (by omega) (by omega)]
    by_cases h2 : g (t + 6) 0 = nI j
    · rw [if_pos h2, if_pos h2.symm]
    · rw [if_neg h2, if_neg (fun e => h2 e.symm)]
def mlit (cl of : Nat → Int32) (rw : Nat → Nat) (W cov : Int32) (p : Nat) (g : G) : Prop := ∀ q, q < p → g 93 (rw q) = shL cl of rw W cov q ∧ g 94 (rw q) = shL cl of rw W cov (q + 1) ∧ g 95 (rw q) = shA of rw (q + 1)
theorem k11_shine_71_n {t N p : Nat} {g0 g : G} {rw : Nat → Nat} {W cov : Int32} {K : Int32 → Int32 → Int32 → G → Option G} (ht : t + 6 < 93) (hR : isRow g0 (t + 4) N rw) (hp : p < N) (hk : ∀ a, a ≠ 93 → a ≠ 94 → a ≠ 95 → g a = g0 a) (hl : mlit (g0 (t + 1)) (g0 (t + 3)) rw W cov p g) :
    ∃ g', (∀ a, a ≠ 93 → a ≠ 94 → a ≠ 95 → g' a = g0 a) ∧ mlit (g0 (t + 1)) (g0 (t + 3)) rw W cov (p + 1) g' ∧
      k11_shine_71 t K (shA (g0 (t + 3)) rw p) (nI p) (nI (rw p)) (shL (g0 (t + 1)) (g0 (t + 3)) rw W cov (p + 1)) (up g 93 (rw p) (shL (g0 (t + 1)) (g0 (t + 3)) rw W cov p)) = K (shL (g0 (t + 1)) (g0 (t + 3)) rw W cov (p + 1)) (shA (g0 (t + 3)) rw (p + 1)) (nI (p + 1)) g' := by
  obtain ⟨hN, hr, hinj⟩ := hR
  obtain ⟨h1, h2⟩ := hr p hp
  refine ⟨up (up (up g 93 (rw p) (shL (g0 (t + 1)) (g0 (t + 3)) rw W cov p)) 94 (rw p) (shL (g0 (t + 1)) (g0 (t + 3)) rw W cov (p + 1))) 95 (rw p) (shA (g0 (t + 3)) rw (p + 1)), fun a a1 a2 a3 => ?_, fun q hq => ?_, ?_⟩
  · rw [up_ne a3, up_ne a2, up_ne a1, hk a a1 a2 a3]
  · by_cases e : q = p
    · subst e
      refine ⟨?_, ?_, ?_⟩
      · rw [up_other (by omega), up_other (by omega), up_self]
      · rw [up_other (by omega), up_self]
      · rw [up_self]
    · have hne : rw q ≠ rw p := fun h => e (hinj q p (by omega) hp h)
      obtain ⟨q1, q2, q3⟩ := hl q (by omega)
      refine ⟨?_, ?_, ?_⟩
      · rw [up_other (by omega), up_other (by omega), up_slot hne, q1]
      · rw [up_other (by omega), up_slot hne, up_other (by omega), q2]
      · rw [up_slot hne, up_other (by omega), up_other (by omega), q3]
  · unfold k11_shine_71
    rw [sto_n (by omega) (by omega), ld_n (by omega) (by omega), up_other (by omega), up_other (by omega), hk (t + 3) (by omega) (by omega) (by omega), bd_eq, sto_n (by omega) (by omega), bd_eq, nI_1]
    rfl
theorem k11_shine_loop {t N : Nat} {g0 : G} {rw : Nat → Nat} (ht : t + 6 < 93) (ht0 : 54 < t) (hN : g0 54 0 = nI N) (hR : isRow g0 (t + 4) N rw) : ∀ (d p f : Nat) (g : G), N = p + d → d < f → (∀ a, a ≠ 93 → a ≠ 94 → a ≠ 95 → g a = g0 a) → mlit (g0 (t + 1)) (g0 (t + 3)) rw (g0 54 1) (covOf t g0) p g →
    ∃ g', (∀ a, a ≠ 93 → a ≠ 94 → a ≠ 95 → g' a = g0 a) ∧ mlit (g0 (t + 1)) (g0 (t + 3)) rw (g0 54 1) (covOf t g0) N g' ∧
      k11_shine_9 t f (shL (g0 (t + 1)) (g0 (t + 3)) rw (g0 54 1) (covOf t g0) p) (shA (g0 (t + 3)) rw p) (nI p) g = some (up (up g' 47 22 (shL (g0 (t + 1)) (g0 (t + 3)) rw (g0 54 1) (covOf t g0) N)) 47 23 (shA (g0 (t + 3)) rw N)) := by
  have hN9 := hR.1
  intro d
  induction d with
  | zero =>
    intro p f g hd hf hk hl
    obtain ⟨f, rfl⟩ : ∃ q, f = q + 1 := ⟨f - 1, by omega⟩
    obtain rfl : N = p := by omega
    refine ⟨g, hk, hl, ?_⟩
    unfold k11_shine_9
    rw [hk 54 (by omega) (by omega) (by omega), hN, if_pos (by rw [nI_leI (by omega) (by omega)]; omega)]
    rfl
  | succ d ih =>
    intro p f g hd hf hk hl
    obtain ⟨f, rfl⟩ : ∃ q, f = q + 1 := ⟨f - 1, by omega⟩
    have hp : p < N := by omega
    obtain ⟨r1, r2⟩ := hR.2.1 p hp
    obtain ⟨g1, k1, l1, e1⟩ := k11_shine_71_n (K := k11_shine_9 t f) ht hR hp hk hl
    obtain ⟨g2, k2, l2, e2⟩ := ih (p + 1) f g1 (by omega) (by omega) k1 l1
    refine ⟨g2, k2, l2, ?_⟩
    rw [← e2, ← e1]
    conv => lhs; unfold k11_shine_9
    have hu : ∀ a, a ≠ 93 → a ≠ 94 → a ≠ 95 → up g 93 (rw p) (shL (g0 (t + 1)) (g0 (t + 3)) rw (g0 54 1) (covOf t g0) p) a = g0 a := fun a a1 a2 a3 => by rw [up_ne a1, hk a a1 a2 a3]
    have hcov : covOf t (up g 93 (rw p) (shL (g0 (t + 1)) (g0 (t + 3)) rw (g0 54 1) (covOf t g0) p)) = covOf t g0 := covOf_same (hu t (by omega) (by omega) (by omega)) (hu (t + 6) (by omega) (by omega) (by omega))
    rw [hk 54 (by omega) (by omega) (by omega), hN, if_neg (by rw [nI_leI (by omega) (by omega)]; omega), ld_n (by omega) (by omega), hk (t + 4) (by omega) (by omega) (by omega), r1, sto_n (by omega) (by omega), k11_isWide_n, some_bind, hu 54 (by omega) (by omega) (by omega)]
    by_cases h2 : wi (g0 54 1) (shA (g0 (t + 3)) rw p) = 0
    · rw [if_pos h2]
      congr 1
      show (0 : Int32) = if nI (rw p) = covOf t g0 then 0 else if wi (g0 54 1) (shA (g0 (t + 3)) rw p) = 0 then 0 else _
      rw [if_pos h2]
      split <;> rfl
    · rw [if_neg h2, k9_cov (by omega), some_bind, hcov]
      by_cases h1 : nI (rw p) = covOf t g0
      · rw [if_pos h1, if_neg (by decide)]
        congr 1
        show (0 : Int32) = if nI (rw p) = covOf t g0 then 0 else _
        rw [if_pos h1]
      · rw [if_neg h1, if_pos rfl, ld_n (by omega) (by omega), hu (t + 1) (by omega) (by omega) (by omega), dv_100]
        congr 1
        show _ = if nI (rw p) = covOf t g0 then 0 else if wi (g0 54 1) (shA (g0 (t + 3)) rw p) = 0 then 0 else _
        rw [if_neg h1, if_neg h2]
/-- g' is g, with the light of the reference's state at t reckoned -/
def mlitOf (t : Nat) (rw : Nat → Nat) (N : Nat) (g g' : G) : Prop := (∀ a, a ≠ 47 → a ≠ 93 → a ≠ 94 → a ≠ 95 → g' a = g a) ∧ (∀ k, k ≠ 22 → k ≠ 23 → g' 47 k = g 47 k) ∧ mlit (g (t + 1)) (g (t + 3)) rw (g 54 1) (covOf t g) N g' ∧ g' 47 22 = shL (g (t + 1)) (g (t + 3)) rw (g 54 1) (covOf t g) N ∧ g' 47 23 = shA (g (t + 3)) rw N
theorem k11_shine_ok {t N : Nat} {g : G} {rw : Nat → Nat} (ht : t + 6 < 93) (ht0 : 54 < t) (hN : g 54 0 = nI N) (hR : isRow g (t + 4) N rw) : ∃ g', k11_shine t g = some g' ∧ mlitOf t rw N g g' := by
  obtain ⟨g', k1, l1, e1⟩ := k11_shine_loop ht ht0 hN hR N 0 FU g (by omega) (by have := hR.1; unfold FU; omega) (fun a _ _ _ => rfl) (fun q hq => absurd hq (by omega))
  refine ⟨_, e1, fun a a0 a1 a2 a3 => ?_, fun k b1 b2 => ?_, fun q hq => ?_, ?_, ?_⟩
  · rw [up_ne a0, up_ne a0]
    exact k1 a a1 a2 a3
  · rw [up_slot b2, up_slot b1, k1 47 (by omega) (by omega) (by omega)]
  · obtain ⟨q1, q2, q3⟩ := l1 q hq
    refine ⟨?_, ?_, ?_⟩
    · rw [up_other (by omega), up_other (by omega), q1]
    · rw [up_other (by omega), up_other (by omega), q2]
    · rw [up_other (by omega), up_other (by omega), q3]
  · rw [up_slot (by decide), up_self]
  · rw [up_self]
