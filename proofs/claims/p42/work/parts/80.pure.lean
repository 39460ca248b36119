/-! the pure stage: rows about the pure words -/
theorem up_app {g : G} {o k o' k' : Nat} {v : Int32} : up g o k v o' k' = if o' = o ∧ k' = k then v else g o' k' := rfl
theorem up_self {g : G} {o k : Nat} {v : Int32} : up g o k v o k = v := if_pos ⟨rfl, rfl⟩
theorem up_other {g : G} {o k o' k' : Nat} {v : Int32} (h : o' ≠ o) : up g o k v o' k' = g o' k' := if_neg (fun q => h q.1)
theorem up_slot {g : G} {o k k' : Nat} {v : Int32} (h : k' ≠ k) : up g o k v o k' = g o k' := if_neg (fun q => h q.2)
theorem ld_n {ρ : Type} {g : G} {a n j : Nat} {f : Int32 → Option ρ} (h : j < n) (hn : n ≤ 3000) : ld g a n (nI j) f = f (g a j) := by
  have h1 := nI_in (c := j) (N := n) h (by omega)
  unfold ld
  rw [if_neg h1, nI_clamp (by omega)]
theorem sto_n {ρ : Type} {g : G} {a n j : Nat} {v : Int32} {f : G → Option ρ} (h : j < n) (hn : n ≤ 3000) : sto g a n (nI j) v f = f (up g a j v) := by
  have h1 := nI_in (c := j) (N := n) h (by omega)
  unfold sto
  rw [if_neg h1, nI_clamp (by omega)]
theorem dv_100 {ρ : Type} {x : Int32} {f : Int32 → Option ρ} : dv x 100 f = f (x / 100) := if_neg (by decide)
theorem bd_eq {β ρ : Type} {x : β} {f : β → Option ρ} : bd x f = f x := rfl
theorem some_bind {α ρ : Type} {x : α} {f : α → Option ρ} : (some x).bind f = f x := rfl
theorem nI_le_iff {a b : Nat} (ha : a < 2 ^ 31) (hb : b < 2 ^ 31) : nI a ≤ nI b ↔ a ≤ b := nI_leI ha hb
/-! the light along a row -/
def wi (W a : Int32) : Int32 := if W < a then 0 else if a < -W then 0 else 1
theorem wi_01 {W a : Int32} : wi W a = 0 ∨ wi W a = 1 := by
  unfold wi
  split
  · exact Or.inl rfl
  · split
    · exact Or.inl rfl
    · exact Or.inr rfl
def shA (of : Nat → Int32) (rw : Nat → Nat) : Nat → Int32
  | 0 => 0
  | p + 1 => shA of rw p + 2 * of (rw p)
def shL (cl of : Nat → Int32) (rw : Nat → Nat) (W cov : Int32) : Nat → Int32
  | 0 => 10000
  | p + 1 => if nI (rw p) = cov then 0 else if wi W (shA of rw p) = 0 then 0 else shL cl of rw W cov p * cl (rw p) / 100
/-- a row: N places, the mirrors at them -/
def isRow (g : G) (c N : Nat) (rw : Nat → Nat) : Prop := N ≤ 10 ∧ (∀ p, p < N → g c p = nI (rw p) ∧ rw p < N) ∧ ∀ p q, p < N → q < N → rw p = rw q → p = q
theorem k4_has_n {o N j : Nat} {g : G} (hN : g o 7 = nI N) (hN9 : N ≤ 10) (h : j < N) : k4_has o (nI j) g = some 1 := by
  unfold k4_has
  rw [if_neg (nI_pos (by omega)), hN, if_neg (by rw [nI_leI (by omega) (by omega)]; omega)]
theorem k4_mirrorIn_n {o N j : Nat} {g : G} {rw : Nat → Nat} (hN : g o 7 = nI N) (hR : isRow g (o + 4) N rw) (h : j < N) : k4_mirrorIn o (nI j) g = some (nI (rw j)) := by
  have hN9 := hR.1
  unfold k4_mirrorIn
  rw [if_neg (nI_pos (by omega)), hN, if_neg (by rw [nI_leI (by omega) (by omega)]; omega), ld_n (by omega) (by omega), (hR.2.1 j h).1]
theorem k4_within {o : Nat} {g : G} {a : Int32} : k4_isWithinWidth o a g = some (wi (g o 8) a) := by
  unfold k4_isWithinWidth wi
  split
  · rfl
  · split <;> rfl
/-- what the class keeps of the light: up to the place p -/
def litTo (o : Nat) (cl of : Nat → Int32) (rw : Nat → Nat) (W cov : Int32) (p : Nat) (g : G) : Prop := ∀ q, q < p → g (o + 5) (rw q) = shL cl of rw W cov (q + 1) ∧ g (o + 6) (rw q) = shL cl of rw W cov q - shL cl of rw W cov (q + 1) ∧ g (o + 7) (rw q) = shA of rw (q + 1)
theorem k4_shine_91_n {o N p : Nat} {g0 g : G} {rw : Nat → Nat} {W cov : Int32} {K : Int32 → Int32 → Int32 → G → Option G} (hR : isRow g0 (o + 4) N rw) (hp : p < N) (hk : ∀ a, a ≠ o + 5 → a ≠ o + 6 → a ≠ o + 7 → g a = g0 a) (hl : litTo o (g0 (o + 1)) (g0 (o + 3)) rw W cov p g) :
    ∃ g', (∀ a, a ≠ o + 5 → a ≠ o + 6 → a ≠ o + 7 → g' a = g0 a) ∧ litTo o (g0 (o + 1)) (g0 (o + 3)) rw W cov (p + 1) g' ∧
      k4_shine_91 o K (shL (g0 (o + 1)) (g0 (o + 3)) rw W cov p) (shA (g0 (o + 3)) rw p) (nI p) (nI (rw p)) (shL (g0 (o + 1)) (g0 (o + 3)) rw W cov (p + 1)) (nI (rw p)) g = K (shL (g0 (o + 1)) (g0 (o + 3)) rw W cov (p + 1)) (shA (g0 (o + 3)) rw (p + 1)) (nI (p + 1)) g' := by
  obtain ⟨hN, hr, hinj⟩ := hR
  obtain ⟨h1, h2⟩ := hr p hp
  refine ⟨up (up (up g (o + 5) (rw p) (shL (g0 (o + 1)) (g0 (o + 3)) rw W cov (p + 1))) (o + 6) (rw p) (shL (g0 (o + 1)) (g0 (o + 3)) rw W cov p - shL (g0 (o + 1)) (g0 (o + 3)) rw W cov (p + 1))) (o + 7) (rw p) (shA (g0 (o + 3)) rw (p + 1)), fun a a1 a2 a3 => ?_, fun q hq => ?_, ?_⟩
  · rw [up_ne a3, up_ne a2, up_ne a1, hk a a1 a2 a3]
  · by_cases e : q = p
    · subst e
      refine ⟨?_, ?_, ?_⟩
      · rw [up_other (by omega), up_other (by omega), up_self]
      · rw [up_other (by omega), up_self]
      · rw [up_self]
    · have hne : rw q ≠ rw p := fun h => e (hinj q p (by omega) hp h)
      obtain ⟨q1, q2, q3⟩ := hl q (by omega)
      refine ⟨?_, ?_, ?_⟩
      · rw [up_other (by omega), up_other (by omega), up_slot hne, q1]
      · rw [up_other (by omega), up_slot hne, up_other (by omega), q2]
      · rw [up_slot hne, up_other (by omega), up_other (by omega), q3]
  · unfold k4_shine_91
    rw [sto_n (by omega) (by omega), ld_n (by omega) (by omega), up_self, sto_n (by omega) (by omega), ld_n (by omega) (by omega), up_other (by omega), up_other (by omega), hk (o + 3) (by omega) (by omega) (by omega), sto_n (by omega) (by omega), ld_n (by omega) (by omega), ld_n (by omega) (by omega), up_self, up_other (by omega), up_other (by omega), up_self, bd_eq, nI_1]
    rfl
theorem k4_shine_62_d {o : Nat} {K : Int32 → Int32 → Int32 → G → Option G} {v1 v2 v3 v4 : Int32} {g : G} : k4_shine_62 o K v1 v2 v3 v4 1 g = k4_shine_91 o K v1 v2 v3 v4 0 v4 g := if_neg (by decide)
theorem k4_shine_62_l {o j : Nat} {K : Int32 → Int32 → Int32 → G → Option G} {v1 v2 v3 : Int32} {g : G} (h : j < 10) : k4_shine_62 o K v1 v2 v3 (nI j) 0 g = k4_shine_91 o K v1 v2 v3 (nI j) (v1 * g (o + 1) j / 100) (nI j) g := by
  unfold k4_shine_62
  rw [if_pos rfl, ld_n h (by omega), dv_100]
theorem k4_shine_loop {o N : Nat} {g0 : G} {rw : Nat → Nat} (hN : g0 o 7 = nI N) (hR : isRow g0 (o + 4) N rw) : ∀ (d p f : Nat) (g : G), N = p + d → d < f → (∀ a, a ≠ o + 5 → a ≠ o + 6 → a ≠ o + 7 → g a = g0 a) → litTo o (g0 (o + 1)) (g0 (o + 3)) rw (g0 o 8) (g0 o 10) p g →
    ∃ g', (∀ a, a ≠ o + 5 → a ≠ o + 6 → a ≠ o + 7 → g' a = g0 a) ∧ litTo o (g0 (o + 1)) (g0 (o + 3)) rw (g0 o 8) (g0 o 10) N g' ∧
      k4_shine_16 o f (shL (g0 (o + 1)) (g0 (o + 3)) rw (g0 o 8) (g0 o 10) p) (shA (g0 (o + 3)) rw p) (nI p) g = some (up (up (up g' o 11 (shL (g0 (o + 1)) (g0 (o + 3)) rw (g0 o 8) (g0 o 10) N)) o 12 (shA (g0 (o + 3)) rw N)) o 13 1) := by
  have hN9 := hR.1
  intro d
  induction d with
  | zero =>
    intro p f g hd hf hk hl
    obtain ⟨f, rfl⟩ : ∃ q, f = q + 1 := ⟨f - 1, by omega⟩
    obtain rfl : N = p := by omega
    refine ⟨g, hk, hl, ?_⟩
    unfold k4_shine_16
    rw [hk o (by omega) (by omega) (by omega), hN, if_pos (by rw [nI_leI (by omega) (by omega)]; omega)]
    rfl
  | succ d ih =>
    intro p f g hd hf hk hl
    obtain ⟨f, rfl⟩ : ∃ q, f = q + 1 := ⟨f - 1, by omega⟩
    have hp : p < N := by omega
    have hgo : g o = g0 o := hk o (by omega) (by omega) (by omega)
    have hR' : isRow g (o + 4) N rw := ⟨hN9, fun q hq => by rw [hk (o + 4) (by omega) (by omega) (by omega)]; exact hR.2.1 q hq, hR.2.2⟩
    obtain ⟨g1, k1, l1, e1⟩ := k4_shine_91_n (K := k4_shine_16 o f) hR hp hk hl
    obtain ⟨g2, k2, l2, e2⟩ := ih (p + 1) f g1 (by omega) (by omega) k1 l1
    refine ⟨g2, k2, l2, ?_⟩
    rw [← e2, ← e1]
    conv => lhs; unfold k4_shine_16
    rw [hgo, hN, if_neg (by rw [nI_leI (by omega) (by omega)]; omega), k4_mirrorIn_n (by rw [hgo]; exact hN) hR' hp, some_bind, k4_has_n (by rw [hgo]; exact hN) hN9 (hR.2.1 p hp).2, some_bind, if_neg (by decide), k4_within, hgo]
    have hb : rw p < 10 := Nat.lt_of_lt_of_le (hR.2.1 p hp).2 hN9
    by_cases h1 : nI (rw p) = g0 o 10
    · rw [if_pos h1, k4_shine_62_d]
      congr 1
      show (0 : Int32) = if nI (rw p) = g0 o 10 then 0 else _
      rw [if_pos h1]
    · rw [if_neg h1, some_bind]
      by_cases h2 : wi (g0 o 8) (shA (g0 (o + 3)) rw p) = 0
      · rw [if_pos h2, k4_shine_62_d]
        congr 1
        show (0 : Int32) = if nI (rw p) = g0 o 10 then 0 else if wi (g0 o 8) (shA (g0 (o + 3)) rw p) = 0 then 0 else _
        rw [if_neg h1, if_pos h2]
      · rw [if_neg h2, k4_shine_62_l hb, hk (o + 1) (by omega) (by omega) (by omega)]
        congr 1
        show _ = if nI (rw p) = g0 o 10 then 0 else if wi (g0 o 8) (shA (g0 (o + 3)) rw p) = 0 then 0 else _
        rw [if_neg h1, if_neg h2]
def litOK (o : Nat) (g : G) (rw : Nat → Nat) (N : Nat) : Prop := g o 13 = 0 ∨ (g o 13 = 1 ∧ litTo o (g (o + 1)) (g (o + 3)) rw (g o 8) (g o 10) N g ∧ g o 11 = shL (g (o + 1)) (g (o + 3)) rw (g o 8) (g o 10) N ∧ g o 12 = shA (g (o + 3)) rw N)
def litOf (o : Nat) (rw : Nat → Nat) (N : Nat) (g g' : G) : Prop := (∀ a, a ≠ o → a ≠ o + 5 → a ≠ o + 6 → a ≠ o + 7 → g' a = g a) ∧ (∀ k, k ≠ 11 → k ≠ 12 → k ≠ 13 → g' o k = g o k) ∧ g' o 13 = 1 ∧ litTo o (g (o + 1)) (g (o + 3)) rw (g o 8) (g o 10) N g' ∧ g' o 11 = shL (g (o + 1)) (g (o + 3)) rw (g o 8) (g o 10) N ∧ g' o 12 = shA (g (o + 3)) rw N
theorem k4_shine_ok {o N : Nat} {g : G} {rw : Nat → Nat} (hN : g o 7 = nI N) (hR : isRow g (o + 4) N rw) (hl : litOK o g rw N) : ∃ g', k4_shine o g = some g' ∧ litOf o rw N g g' := by
  unfold k4_shine
  rcases hl with h | ⟨h, h1, h2, h3⟩
  · rw [if_pos h]
    obtain ⟨g', k1, l1, e1⟩ := k4_shine_loop hN hR N 0 FU g (by omega) (by have := hR.1; unfold FU; omega) (fun a _ _ _ => rfl) (fun q hq => absurd hq (by omega))
    refine ⟨_, e1, fun a a0 a1 a2 a3 => ?_, fun k b1 b2 b3 => ?_, up_self, fun q hq => ?_, ?_, ?_⟩
    · rw [up_ne a0, up_ne a0, up_ne a0]
      exact k1 a a1 a2 a3
    · rw [up_slot b3, up_slot b2, up_slot b1, k1 o (by omega) (by omega) (by omega)]
    · obtain ⟨q1, q2, q3⟩ := l1 q hq
      refine ⟨?_, ?_, ?_⟩
      · rw [up_other (by omega), up_other (by omega), up_other (by omega), q1]
      · rw [up_other (by omega), up_other (by omega), up_other (by omega), q2]
      · rw [up_other (by omega), up_other (by omega), up_other (by omega), q3]
    · rw [up_slot (by decide), up_slot (by decide), up_self]
    · rw [up_slot (by decide), up_self]
  · rw [if_neg (by rw [h]; decide)]
    exact ⟨g, rfl, fun a _ _ _ _ => rfl, fun k _ _ _ => rfl, h, h1, h2, h3⟩
theorem zrP_01 {v : Int32} (h : v = 0 ∨ v = 1) : zrP v = some v := if_pos h
theorem nI_nm1 {j : Nat} (h : j < 2 ^ 31) : nI j ≠ -1 := fun e => nI_pos h (by rw [e]; decide)
theorem ld_0 {ρ : Type} {g : G} {a n : Nat} {f : Int32 → Option ρ} (h : 0 < n) (hn : n ≤ 3000) : ld g a n 0 f = f (g a 0) := ld_n (j := 0) h hn
theorem shA_congr {of of' : Nat → Int32} {rw : Nat → Nat} {N : Nat} (h : ∀ p, p < N → of (rw p) = of' (rw p)) : ∀ n, n ≤ N → shA of rw n = shA of' rw n := by
  intro n
  induction n with
  | zero => intro _; rfl
  | succ n ih =>
    intro hn
    show shA of rw n + 2 * of (rw n) = shA of' rw n + 2 * of' (rw n)
    rw [ih (by omega), h n (by omega)]
theorem shL_congr {cl cl' of of' : Nat → Int32} {rw : Nat → Nat} {W cov : Int32} {N : Nat} (hc : ∀ p, p < N → cl (rw p) = cl' (rw p)) (h : ∀ p, p < N → of (rw p) = of' (rw p)) : ∀ n, n ≤ N → shL cl of rw W cov n = shL cl' of' rw W cov n := by
  intro n
  induction n with
  | zero => intro _; rfl
  | succ n ih =>
    intro hn
    show (if nI (rw n) = cov then (0 : Int32) else if wi W (shA of rw n) = 0 then 0 else shL cl of rw W cov n * cl (rw n) / 100) = (if nI (rw n) = cov then (0 : Int32) else if wi W (shA of' rw n) = 0 then 0 else shL cl' of' rw W cov n * cl' (rw n) / 100)
    rw [ih (by omega), hc n (by omega), shA_congr h n (by omega)]
theorem isRow_same {g g' : G} {c N : Nat} {rw : Nat → Nat} (h : g' c = g c) (hR : isRow g c N rw) : isRow g' c N rw := ⟨hR.1, fun p hp => by rw [h]; exact hR.2.1 p hp, hR.2.2⟩
theorem litTo_same {o p : Nat} {cl of : Nat → Int32} {rw : Nat → Nat} {W cov : Int32} {g g' : G} (h5 : g' (o + 5) = g (o + 5)) (h6 : g' (o + 6) = g (o + 6)) (h7 : g' (o + 7) = g (o + 7)) (h : litTo o cl of rw W cov p g) : litTo o cl of rw W cov p g' := by
  intro q hq
  rw [h5, h6, h7]
  exact h q hq
theorem zr_01 {v : Int32} {g : G} (h : v = 0 ∨ v = 1) : zr v g = some (v, g) := if_pos h
def seenV (L lim W a : Int32) : Int32 := if L < lim then 0 else if wi W a = 0 then 0 else 1
theorem seenV_01 {L lim W a : Int32} : seenV L lim W a = 0 ∨ seenV L lim W a = 1 := by
  unfold seenV
  split
  · exact Or.inl rfl
  · split
    · exact Or.inl rfl
    · exact Or.inr rfl
theorem in_c {a : Int32} {N : Nat} (hN : N < 2 ^ 31) : (¬ a < 0 ∧ a < nI N) ↔ ∃ m, m < N ∧ a = nI m := by
  constructor
  · rintro ⟨h1, h2⟩
    obtain ⟨m, hm, rfl⟩ := nI_of h1
    exact ⟨m, (nI_ltI hm hN).mp h2, rfl⟩
  · rintro ⟨m, hm, rfl⟩
    exact ⟨nI_pos (by omega), (nI_ltI (by omega) hN).mpr hm⟩
theorem lt_pred {a : Int32} {N : Nat} (hN : N < 2 ^ 31) : nI N - 1 < a ↔ ¬ a < nI N := by
  rw [Int32.lt_iff_toInt_lt, Int32.lt_iff_toInt_lt, Int32.toInt_sub, nI_toInt hN, show (1 : Int32).toInt = 1 from rfl, Int.bmod_eq_of_le (by omega) (by omega)]
  omega
theorem chk_in {m N : Nat} {g : G} (hN : g 22 7 = nI N) (hN9 : N ≤ 10) (h : m < N) : k8_checkMirror (nI m) g = some (0, 0, g) := by
  unfold k8_checkMirror
  rw [if_neg (nI_pos (by omega)), hN, if_pos ((nI_ltI (by omega) (by omega)).mpr h)]
theorem xb_0 {v : Int32} {g : G} {f : G → Option XR} : xb (some (0, v, g)) f = f g := rfl
theorem xb_e {e : Nat} {v : Int32} {g : G} {f : G → Option XR} (h : e ≠ 0) : xb (some (e, v, g)) f = some (e, v, g) := if_neg h
