/-! the law's own train keeps the same numbers -/
def MN (S : ZS) (c : Nat) (x y z : Int32) : Prop := AR S c 100000 3 ∧ S.i (c / 2) 0 = x ∧ S.i (c / 2) 1 = y ∧ S.i (c / 2) 2 = z
def JB (S : ZS) (c : Nat) (x : Int32) (m : Nat) : Prop := AR S c 100000 2 ∧ S.i (c / 2) 0 = x ∧ S.i (c / 2) 1 = nI m
def TT (S : ZS) (t : Nat) (A : TA) : Prop := OB S t 14 ∧ S.i (t / 2) 0 = A.W ∧ S.i (t / 2) 1 = A.lim ∧ S.i (t / 2) 5 = A.go ∧ S.i (t / 2) 6 = A.mi ∧ S.i (t / 2) 7 = A.dn ∧ AR S (S.r (t / 2) 2) 400000 A.N ∧ AR S (S.r (t / 2) 3) 100000 A.N ∧ AR S (S.r (t / 2) 4) 400000 A.J ∧ (∀ m, m < A.N → MN S (S.r (S.r (t / 2) 2 / 2) m) (A.cl m) (A.be m) (A.of m) ∧ S.r (S.r (t / 2) 2 / 2) m ≠ S.r (t / 2) 3) ∧ (∀ m m', m < A.N → m' < A.N → m ≠ m' → S.r (S.r (t / 2) 2 / 2) m ≠ S.r (S.r (t / 2) 2 / 2) m') ∧ (∀ p, p < A.N → S.i (S.r (t / 2) 3 / 2) p = nI (A.rw p)) ∧ ∀ k, k < A.J → JB S (S.r (S.r (t / 2) 4 / 2) k) (A.jk k) (A.jm k)
theorem TT.o {S : ZS} {t : Nat} {A : TA} (h : TT S t A) : OB S t 14 := h.1
theorem TT.W {S : ZS} {t : Nat} {A : TA} (h : TT S t A) : S.i (t / 2) 0 = A.W := h.2.1
theorem TT.lim {S : ZS} {t : Nat} {A : TA} (h : TT S t A) : S.i (t / 2) 1 = A.lim := h.2.2.1
theorem TT.go {S : ZS} {t : Nat} {A : TA} (h : TT S t A) : S.i (t / 2) 5 = A.go := h.2.2.2.1
theorem TT.mi {S : ZS} {t : Nat} {A : TA} (h : TT S t A) : S.i (t / 2) 6 = A.mi := h.2.2.2.2.1
theorem TT.dn {S : ZS} {t : Nat} {A : TA} (h : TT S t A) : S.i (t / 2) 7 = A.dn := h.2.2.2.2.2.1
theorem TT.am {S : ZS} {t : Nat} {A : TA} (h : TT S t A) : AR S (S.r (t / 2) 2) 400000 A.N := h.2.2.2.2.2.2.1
theorem TT.ar {S : ZS} {t : Nat} {A : TA} (h : TT S t A) : AR S (S.r (t / 2) 3) 100000 A.N := h.2.2.2.2.2.2.2.1
theorem TT.aj {S : ZS} {t : Nat} {A : TA} (h : TT S t A) : AR S (S.r (t / 2) 4) 400000 A.J := h.2.2.2.2.2.2.2.2.1
theorem TT.m {S : ZS} {t : Nat} {A : TA} (h : TT S t A) {m : Nat} (hm : m < A.N) : MN S (S.r (S.r (t / 2) 2 / 2) m) (A.cl m) (A.be m) (A.of m) := (h.2.2.2.2.2.2.2.2.2.1 m hm).1
theorem TT.mr {S : ZS} {t : Nat} {A : TA} (h : TT S t A) {m : Nat} (hm : m < A.N) : S.r (S.r (t / 2) 2 / 2) m ≠ S.r (t / 2) 3 := (h.2.2.2.2.2.2.2.2.2.1 m hm).2
theorem TT.mm {S : ZS} {t : Nat} {A : TA} (h : TT S t A) {m m' : Nat} (hm : m < A.N) (hm' : m' < A.N) (e : m ≠ m') : S.r (S.r (t / 2) 2 / 2) m ≠ S.r (S.r (t / 2) 2 / 2) m' := h.2.2.2.2.2.2.2.2.2.2.1 m m' hm hm' e
theorem TT.p {S : ZS} {t : Nat} {A : TA} (h : TT S t A) {p : Nat} (hp : p < A.N) : S.i (S.r (t / 2) 3 / 2) p = nI (A.rw p) := h.2.2.2.2.2.2.2.2.2.2.2.1 p hp
theorem TT.j {S : ZS} {t : Nat} {A : TA} (h : TT S t A) {k : Nat} (hk : k < A.J) : JB S (S.r (S.r (t / 2) 4 / 2) k) (A.jk k) (A.jm k) := h.2.2.2.2.2.2.2.2.2.2.2.2 k hk
/-- objects that the train doesn't see may change -/
def noT (k : Nat) : Prop := k ≠ 14 ∧ ¬ (100000 ≤ k ∧ k < 200000) ∧ ¬ (400000 ≤ k ∧ k < 500000)
theorem TT.ste {Q : Nat → Prop} {x y : Nat} {S S' : ZS} {t : Nat} {A : TA} (h : TT S t A) (s : Ste Q x y S S') (hq : ∀ k, Q k → noT k) : TT S' t A := by
  have key : ∀ o, o < S.n → S.K o = 14 ∨ (100000 ≤ S.K o ∧ S.K o < 200000) ∨ (400000 ≤ S.K o ∧ S.K o < 500000) → S'.i o = S.i o ∧ S'.r o = S.r o := fun o ho hk => (s.2.2.1 o ho).2 (fun z => by
    obtain ⟨z1, z2, z3⟩ := hq _ z
    rcases hk with e | e | e
    · exact z1 e
    · exact z2 e
    · exact z3 e)
  have kt := key _ h.o.2.1 (Or.inl h.o.2.2)
  have km := key _ h.am.2.1 (Or.inr (Or.inr (by rw [h.am.2.2.1]; have := h.am.2.2.2; omega)))
  have kr := key _ h.ar.2.1 (Or.inr (Or.inl (by rw [h.ar.2.2.1]; have := h.ar.2.2.2; omega)))
  have kj := key _ h.aj.2.1 (Or.inr (Or.inr (by rw [h.aj.2.2.1]; have := h.aj.2.2.2; omega)))
  have ki : ∀ c n, AR S c 100000 n → S'.i (c / 2) = S.i (c / 2) := fun c n hc => (key _ hc.2.1 (Or.inr (Or.inl (by rw [hc.2.2.1]; have := hc.2.2.2; omega)))).1
  refine ⟨h.o.ste s, by rw [kt.1]; exact h.W, by rw [kt.1]; exact h.lim, by rw [kt.1]; exact h.go, by rw [kt.1]; exact h.mi, by rw [kt.1]; exact h.dn, by rw [kt.2]; exact h.am.ste s, by rw [kt.2]; exact h.ar.ste s, by rw [kt.2]; exact h.aj.ste s, fun m hm => ?_, fun m m' hm hm' e => ?_, fun p hp => ?_, fun k hk => ?_⟩
  · rw [kt.2, km.2]
    obtain ⟨a1, a2, a3, a4⟩ := h.m hm
    exact ⟨⟨a1.ste s, by rw [ki _ _ a1]; exact a2, by rw [ki _ _ a1]; exact a3, by rw [ki _ _ a1]; exact a4⟩, h.mr hm⟩
  · rw [kt.2, km.2]
    exact h.mm hm hm' e
  · rw [kt.2, kr.1]
    exact h.p hp
  · rw [kt.2, kj.2]
    obtain ⟨a1, a2, a3⟩ := h.j hk
    exact ⟨a1.ste s, by rw [ki _ _ a1]; exact a2, by rw [ki _ _ a1]; exact a3⟩
theorem TT.wg {S : ZS} {t : Nat} {A : TA} {g : G} (h : TT S t A) : TT (S.wg g) t A := h
theorem TT.use {S : ZS} {t : Nat} {A : TA} {a b : Nat} (h : TT S t A) : TT (S.use a b) t A := h
/-- width and offsets small enough for sums -/
def WW (A : TA) : Prop := 0 ≤ A.W ∧ A.W ≤ 180
theorem shA_rng {A : TA} (h : WA A) : ∀ p, p ≤ A.N → -(180 * p : Int) ≤ (tlt A p).toInt ∧ (tlt A p).toInt ≤ 180 * p := by
  have hN := h.N9
  intro p
  induction p with
  | zero =>
    intro _
    have e : (tlt A 0).toInt = 0 := rfl
    omega
  | succ p ih =>
    intro hp
    obtain ⟨i1, i2⟩ := ih (by omega)
    obtain ⟨-, -, b1, b2⟩ := h.rng (h.lt (show p < A.N by omega))
    have b1 := Int32.le_iff_toInt_le.mp b1
    have b2 := Int32.le_iff_toInt_le.mp b2
    have b1 : (-90 : Int) ≤ (A.of (A.rw p)).toInt := b1
    have b2 : (A.of (A.rw p)).toInt ≤ 90 := b2
    have e : tlt A (p + 1) = tlt A p + 2 * A.of (A.rw p) := rfl
    have e2 : (2 * A.of (A.rw p)).toInt = 2 * (A.of (A.rw p)).toInt := by
      rw [Int32.toInt_mul, show (2 : Int32).toInt = 2 from rfl, Int.bmod_eq_of_le (by omega) (by omega)]
    rw [e, Int32.toInt_add, e2, Int.bmod_eq_of_le (by omega) (by omega)]
    omega
theorem two_mul32 (x : Int32) : 2 * x = x + x := by
  rw [show (2 : Int32) = 1 + 1 from rfl, Int32.add_mul, Int32.one_mul]
theorem wi_neg {A : TA} (h : WA A) (hW : WW A) {p : Nat} (hp : p ≤ A.N) : (A.W < -tlt A p ↔ tlt A p < -A.W) := by
  obtain ⟨i1, i2⟩ := shA_rng h p hp
  have hN := h.N9
  have w1 := Int32.le_iff_toInt_le.mp hW.1
  have w2 := Int32.le_iff_toInt_le.mp hW.2
  have w1 : (0 : Int) ≤ A.W.toInt := w1
  have w2 : A.W.toInt ≤ 180 := w2
  rw [Int32.lt_iff_toInt_lt, Int32.lt_iff_toInt_lt, Int32.toInt_neg, Int32.toInt_neg, Int.bmod_eq_of_le (by omega) (by omega), Int.bmod_eq_of_le (by omega) (by omega)]
  omega
theorem wW_eq {A : TA} (h : WA A) (hW : WW A) {p : Nat} (hp : p ≤ A.N) : wi A.W (tlt A p) = (if A.W < tlt A p then 0 else if A.W < -tlt A p then 0 else 1) := by
  unfold wi
  split
  · rfl
  · by_cases e : tlt A p < -A.W
    · rw [if_pos e, if_pos ((wi_neg h hW hp).mpr e)]
    · rw [if_neg e, if_neg (fun z => e ((wi_neg h hW hp).mp z))]
/-! what the train tells -/
theorem k_isCovered {S : ZS} {t m : Nat} {A : TA} (h : TT S t A) (hA : WA A) (hm : m < A.N) : kX12_isCovered t (nI m) S = some (cvA A m, S) := by
  have hN := hA.N9
  unfold kX12_isCovered cvA cov
  refine chk_of ?_ (Nat.le_refl _) (Nat.le_refl _)
  rw [gI_o h.o, h.go]
  by_cases e : A.go ≤ 0
  · rw [if_pos e, if_pos e, if_neg (fun z => nI_nm1 (by omega) z.symm)]
  · have hJ : 0 < A.J := by
      rcases Nat.eq_zero_or_pos A.J with z | z
      · exact absurd (by rw [hA.J0 z]; decide) e
      · exact z
    obtain ⟨a1, a2, a3⟩ := h.j hJ
    have e4 : ∀ f : Nat → Option (Int32 × ZS), aN S (S.r (t / 2) 4) 400000 0 f = f (S.r (S.r (t / 2) 4 / 2) 0) := fun f => aN_n (j := 0) h.aj hJ a1.ne0
    have e5 : ∀ f : Int32 → Option (Int32 × ZS), aG S (S.r (S.r (t / 2) 4 / 2) 0) 100000 1 f = f (S.i (S.r (S.r (t / 2) 4 / 2) 0 / 2) 1) := fun f => aG_n (j := 1) a1 (by omega)
    rw [if_neg e, if_neg e, gN_o h.o h.aj.ne0, e4, e5, a3]
    split <;> rfl
theorem light_loop {S : ZS} {t n : Nat} {A : TA} (h : TT S t A) (hA : WA A) (hW : WW A) (hn : n ≤ A.N) : ∀ (d p f : Nat), n = p + d → d < f → kX12_light_9 f t (nI n) (lgt A p) (tlt A p) (nI p) S = some (lgt A n, S) := by
  have hN := hA.N9
  intro d
  induction d with
  | zero =>
    intro p f hd hf
    obtain ⟨f, rfl⟩ : ∃ z, f = z + 1 := ⟨f - 1, by omega⟩
    obtain rfl : n = p := by omega
    unfold kX12_light_9
    rw [if_pos (by rw [nI_leI (by omega) (by omega)]; omega)]
  | succ d ih =>
    intro p f hd hf
    obtain ⟨f, rfl⟩ : ∃ z, f = z + 1 := ⟨f - 1, by omega⟩
    have hp : p < A.N := by omega
    have hm := hA.lt hp
    obtain ⟨a1, a2, a3, a4⟩ := h.m hm
    have go : ∀ v : Int32, v = lgt A (p + 1) → kX12_light_73 (kX12_light_9 f) t (nI n) (tlt A p) (nI p) (S.r (S.r (t / 2) 2 / 2) (A.rw p)) v S = some (lgt A n, S) := by
      intro v hv
      unfold kX12_light_73
      have e2 : ∀ f : Int32 → Option (Int32 × ZS), aG S (S.r (S.r (t / 2) 2 / 2) (A.rw p)) 100000 2 f = f (S.i (S.r (S.r (t / 2) 2 / 2) (A.rw p) / 2) 2) := fun f => aG_n (j := 2) a1 (by omega)
      rw [bd_eq, e2, a4, bd_eq, bd_eq, nI_1, hv]
      have e3 : tlt A p + A.of (A.rw p) * 2 = tlt A (p + 1) := by
        show _ = tlt A p + 2 * A.of (A.rw p)
        rw [Int32.mul_comm]
      rw [e3]
      exact ih (p + 1) f (by omega) (by omega)
    have hl : lgt A (p + 1) = if nI (A.rw p) = cov A then 0 else if wi A.W (tlt A p) = 0 then 0 else lgt A p * A.cl (A.rw p) / 100 := rfl
    rw [wW_eq hA hW (by omega)] at hl
    unfold kX12_light_9
    rw [if_neg (by rw [nI_leI (by omega) (by omega)]; omega), gN_o h.o h.am.ne0, gN_o h.o h.ar.ne0, aG_n h.ar hp, h.p hp, aN_n h.am hm a1.ne0, gI_o h.o, h.W]
    by_cases e1 : A.W < tlt A p
    · rw [if_pos e1]
      refine go 0 ?_
      rw [hl, if_pos e1, if_pos rfl]
      split <;> rfl
    · rw [if_neg e1, gI_o h.o, h.W]
      by_cases e2 : A.W < -tlt A p
      · rw [if_pos e2]
        refine go 0 ?_
        rw [hl, if_neg e1, if_pos e2, if_pos rfl]
        split <;> rfl
      · rw [if_neg e2, gN_o h.o h.ar.ne0, aG_n h.ar hp, h.p hp, rcv_o h.o, k_isCovered h hA hm, b2_s]
        rw [if_neg e1, if_neg e2, if_neg (show ¬ (1 : Int32) = 0 by decide)] at hl
        refine chk_of ?_ (Nat.le_refl _) (Nat.le_refl _)
        unfold cvA
        by_cases e3 : cov A = nI (A.rw p)
        · rw [if_pos e3, if_neg (by decide)]
          exact go 0 (by rw [hl, if_pos e3.symm])
        · rw [if_neg e3, if_pos rfl]
          have e0 : ∀ f : Int32 → Option (Int32 × ZS), aG S (S.r (S.r (t / 2) 2 / 2) (A.rw p)) 100000 0 f = f (S.i (S.r (S.r (t / 2) 2 / 2) (A.rw p) / 2) 0) := fun f => aG_n (j := 0) a1 (by omega)
          rw [e0, a2, dv_100]
          exact go _ (by rw [hl, if_neg (fun z => e3 z.symm)])
theorem k_light {S : ZS} {t n : Nat} {A : TA} (h : TT S t A) (hA : WA A) (hW : WW A) (hn : n ≤ A.N) : kX12_light t (nI n) S = some (lgt A n, S) := by
  unfold kX12_light
  exact chk_of (light_loop h hA hW hn n 0 FU (by omega) (by have := hA.N9; unfold FU; omega)) (Nat.le_refl _) (Nat.le_refl _)
theorem k_end {S : ZS} {t : Nat} {A : TA} (h : TT S t A) (hA : WA A) (hW : WW A) : kX12_end t S = some (lgt A A.N, S) := by
  unfold kX12_end
  refine chk_of ?_ (Nat.le_refl _) (Nat.le_refl _)
  rw [gN_o h.o h.ar.ne0, aL_n h.ar, rcv_o h.o, k_light h hA hW (Nat.le_refl _), b2_s]
  exact chk_of rfl (Nat.le_refl _) (Nat.le_refl _)
theorem tilt_loop {S : ZS} {t n : Nat} {A : TA} (h : TT S t A) (hA : WA A) (hn : n ≤ A.N) : ∀ (d p f : Nat), n = p + d → d < f → kX12_tilt_4 f t (nI n) (tlt A p) (nI p) S = some (tlt A n, S) := by
  have hN := hA.N9
  intro d
  induction d with
  | zero =>
    intro p f hd hf
    obtain ⟨f, rfl⟩ : ∃ z, f = z + 1 := ⟨f - 1, by omega⟩
    obtain rfl : n = p := by omega
    unfold kX12_tilt_4
    rw [if_pos (by rw [nI_leI (by omega) (by omega)]; omega)]
  | succ d ih =>
    intro p f hd hf
    obtain ⟨f, rfl⟩ : ∃ z, f = z + 1 := ⟨f - 1, by omega⟩
    have hp : p < A.N := by omega
    have hm := hA.lt hp
    obtain ⟨a1, a2, a3, a4⟩ := h.m hm
    have e2 : ∀ f : Int32 → Option (Int32 × ZS), aG S (S.r (S.r (t / 2) 2 / 2) (A.rw p)) 100000 2 f = f (S.i (S.r (S.r (t / 2) 2 / 2) (A.rw p) / 2) 2) := fun f => aG_n (j := 2) a1 (by omega)
    unfold kX12_tilt_4
    rw [if_neg (by rw [nI_leI (by omega) (by omega)]; omega), gN_o h.o h.am.ne0, gN_o h.o h.ar.ne0, aG_n h.ar hp, h.p hp, aN_n h.am hm a1.ne0, e2, gN_o h.o h.am.ne0, gN_o h.o h.ar.ne0, aG_n h.ar hp, h.p hp, aN_n h.am hm a1.ne0, e2, a4, bd_eq, bd_eq, nI_1, ← two_mul32]
    exact ih (p + 1) f (by omega) (by omega)
theorem k_tilt {S : ZS} {t n : Nat} {A : TA} (h : TT S t A) (hA : WA A) (hn : n ≤ A.N) : kX12_tilt t (nI n) S = some (tlt A n, S) := by
  unfold kX12_tilt
  exact chk_of (tilt_loop h hA hn n 0 FU (by omega) (by have := hA.N9; unfold FU; omega)) (Nat.le_refl _) (Nat.le_refl _)
theorem abs_wi {A : TA} (hA : WA A) (hW : WW A) : (A.W < (if 0 ≤ tlt A A.N then tlt A A.N else 0 - tlt A A.N) ↔ wi A.W (tlt A A.N) = 0) := by
  obtain ⟨i1, i2⟩ := shA_rng hA A.N (Nat.le_refl _)
  have hN := hA.N9
  have w1 : (0 : Int) ≤ A.W.toInt := Int32.le_iff_toInt_le.mp hW.1
  have w2 : A.W.toInt ≤ 180 := Int32.le_iff_toInt_le.mp hW.2
  have en : (0 - tlt A A.N).toInt = -(tlt A A.N).toInt := by
    rw [Int32.toInt_sub, show (0 : Int32).toInt = 0 from rfl, Int.bmod_eq_of_le (by omega) (by omega)]
    omega
  rw [wW_eq hA hW (Nat.le_refl _)]
  have en2 : (-tlt A A.N).toInt = -(tlt A A.N).toInt := by
    rw [Int32.toInt_neg, Int.bmod_eq_of_le (by omega) (by omega)]
  by_cases e : 0 ≤ tlt A A.N
  · have e' : (0 : Int) ≤ (tlt A A.N).toInt := Int32.le_iff_toInt_le.mp e
    rw [if_pos e]
    by_cases e1 : A.W < tlt A A.N
    · rw [if_pos e1]
      exact ⟨fun _ => rfl, fun _ => e1⟩
    · rw [if_neg e1, if_neg (by rw [Int32.lt_iff_toInt_lt, en2]; omega)]
      exact ⟨fun z => absurd z e1, fun z => absurd z (by decide)⟩
  · have e' : ¬ (0 : Int) ≤ (tlt A A.N).toInt := fun z => e (Int32.le_iff_toInt_le.mpr z)
    rw [if_neg e, if_neg (by rw [Int32.lt_iff_toInt_lt]; omega)]
    have e3 : A.W < 0 - tlt A A.N ↔ A.W < -tlt A A.N := by rw [Int32.lt_iff_toInt_lt, Int32.lt_iff_toInt_lt, en, en2]
    rw [e3]
    by_cases e1 : A.W < -tlt A A.N
    · rw [if_pos e1]
      exact ⟨fun _ => rfl, fun _ => e1⟩
    · rw [if_neg e1]
      exact ⟨fun z => absurd z e1, fun z => absurd z (by decide)⟩
theorem k_isSeen {S : ZS} {t : Nat} {A : TA} (h : TT S t A) (hA : WA A) (hW : WW A) : kX12_isSeen t S = some (snA A, S) := by
  unfold kX12_isSeen snA seenV
  refine chk_of ?_ (Nat.le_refl _) (Nat.le_refl _)
  rw [rcv_o h.o, k_end h hA hW, b2_s]
  refine chk_of ?_ ?_ ?_
  · rw [gI_o h.o, h.lim]
    by_cases e : lgt A A.N < A.lim
    · rw [if_pos e, if_pos e]
    · rw [if_neg e, if_neg e, gN_o h.o h.ar.ne0, aL_n h.ar, rcv_o h.o, k_tilt h hA (Nat.le_refl _), b2_s]
      refine chk_of ?_ (Nat.le_refl _) (Nat.le_refl _)
      rw [bd_eq, gI_o h.o, h.W]
      by_cases e1 : A.W < (if 0 ≤ tlt A A.N then tlt A A.N else 0 - tlt A A.N)
      · rw [if_pos e1, if_pos ((abs_wi hA hW).mp e1)]
      · rw [if_neg e1, if_neg (fun z => e1 ((abs_wi hA hW).mpr z))]
  · exact Nat.le_refl _
  · exact Nat.le_refl _
theorem place_loop {S : ZS} {t q : Nat} {A : TA} (h : TT S t A) (hA : WA A) (hq : q < A.N) : ∀ (d p f : Nat), q = p + d → d < f → kX12_place_2 f t (nI (A.rw q)) (nI p) S = some (nI q, S) := by
  have hN := hA.N9
  intro d
  induction d with
  | zero =>
    intro p f hd hf
    obtain ⟨f, rfl⟩ : ∃ z, f = z + 1 := ⟨f - 1, by omega⟩
    obtain rfl : q = p := by omega
    unfold kX12_place_2
    rw [gN_o h.o h.ar.ne0, aG_n h.ar hq, h.p hq, if_pos rfl]
  | succ d ih =>
    intro p f hd hf
    obtain ⟨f, rfl⟩ : ∃ z, f = z + 1 := ⟨f - 1, by omega⟩
    have hp : p < A.N := by omega
    have hm := hA.lt hp
    have hm2 := hA.lt hq
    unfold kX12_place_2
    rw [gN_o h.o h.ar.ne0, aG_n h.ar hp, h.p hp, if_neg (fun e => by
      have := hA.inj hp hq (nI_inj (by omega) (by omega) e)
      omega), bd_eq, nI_1]
    exact ih (p + 1) f (by omega) (by omega)
theorem k_place {S : ZS} {t m : Nat} {A : TA} (h : TT S t A) (hA : WA A) (hm : m < A.N) : kX12_place t (nI m) S = some (nI (plc A m), S) := by
  obtain ⟨p1, p2⟩ := plc_lt hA hm
  have e := place_loop h hA p1 (plc A m) 0 FU (by omega) (by have := hA.N9; unfold FU; omega)
  rw [p2] at e
  unfold kX12_place
  exact chk_of e (Nat.le_refl _) (Nat.le_refl _)
theorem waits_loop {S : ZS} {t m : Nat} {A : TA} (h : TT S t A) (hA : WA A) (hm : m < A.N) : ∀ (d p f : Nat), A.J = p + d → d < f → kX12_waits_11 f (nI m) (S.r (t / 2) 4) (nI A.J) (nI p) S = some (wfd A m d p, S) := by
  have hN := hA.N9
  have hJ := hA.J12
  intro d
  induction d with
  | zero =>
    intro p f hd hf
    obtain ⟨f, rfl⟩ : ∃ z, f = z + 1 := ⟨f - 1, by omega⟩
    unfold kX12_waits_11 wfd
    rw [if_pos (by rw [nI_leI (by omega) (by omega)]; omega)]
  | succ d ih =>
    intro p f hd hf
    obtain ⟨f, rfl⟩ : ∃ z, f = z + 1 := ⟨f - 1, by omega⟩
    have hp : p < A.J := by omega
    obtain ⟨a1, a2, a3⟩ := h.j hp
    have hjm := (hA.jb hp).1
    have e1 : ∀ f : Int32 → Option (Int32 × ZS), aG S (S.r (S.r (t / 2) 4 / 2) p) 100000 1 f = f (S.i (S.r (S.r (t / 2) 4 / 2) p / 2) 1) := fun f => aG_n (j := 1) a1 (by omega)
    unfold kX12_waits_11 wfd
    rw [if_neg (by rw [nI_leI (by omega) (by omega)]; omega), aN_n h.aj hp a1.ne0, e1, a3]
    by_cases e : A.jm p = m
    · rw [if_pos (by rw [e]), if_pos e]
    · rw [if_neg (fun z => e (nI_inj (by omega) (by omega) z)), if_neg e, bd_eq, nI_1]
      exact ih (p + 1) f (by omega) (by omega)
theorem k_waits {S : ZS} {t m : Nat} {A : TA} (h : TT S t A) (hA : WA A) (hm : m < A.N) : kX12_waits t (nI m) S = some (wtA A m, S) := by
  unfold kX12_waits
  refine chk_of ?_ (Nat.le_refl _) (Nat.le_refl _)
  rw [gN_o h.o h.aj.ne0, aL_n h.aj]
  exact waits_loop h hA hm A.J 0 FU (by omega) (by have := hA.J12; unfold FU; omega)
