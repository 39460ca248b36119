/-! the orders of a minute, one after another -/
/-- the plan of g0 is that of both states -/
def planC (g0 g : G) : Prop := ∀ a, a ≤ 20 → g a = g0 a
def planM (g0 g : G) : Prop := ∀ a, 54 ≤ a → a ≤ 65 → g a = g0 a
theorem planC.f {w t : Nat} {g0 g g' : G} (hO : wOK w t) (h : planC g0 g) (hf : fC w g g') : planC g0 g' := fun a ha => (hf a (by rcases hO with ⟨rfl, -⟩ | ⟨rfl, -⟩ <;> omega)).trans (h a ha)
theorem planM.f {w t : Nat} {g0 g g' : G} (hO : wOK w t) (h : planM g0 g) (hf : fM t g g') : planM g0 g' := fun a a1 a2 => (hf.1 a (by omega) (by omega) (by omega) (by omega) (by omega) (by rcases hO with ⟨-, rfl⟩ | ⟨-, rfl⟩ <;> omega)).trans (h a a1 a2)
theorem nodes_loop {w t N J BK : Nat} {rw : Nat → Nat} {g0 : G} {z : List Nat} (hO : wOK w t) (hB : g0 16 8 = nI BK) (hB4 : BK ≤ 400) : ∀ (d b j : Nat) (st : List Nat) (gc gm : G), b + d ≤ BK → j + d ≤ 800 → st.length + d ≤ 400 → (∀ i, i < d → nodeOK g0 N (b + i) (j + i)) → stkRun g0 d j st = some z → (∀ a, a ∈ st → a < j) → RelW w t N J rw gc gm → planC g0 gc → planM g0 gm → gc w 4 = nI st.length → sv (gc (w + 12)) (gm 78) st → ∃ gc' gm', (∀ F v1 v2 K, k7_pass_14 w K (F + d) v1 v2 (nI b) gc = k7_pass_14 w K F v1 v2 (nI (b + d)) gc') ∧ (∀ F k, k < 17 → g0 60 k = nI (j + d) → k11_carryOut_13 t (F + d) (nI k) (nI j) gm = k11_carryOut_13 t F (nI k) (nI (j + d)) gm') ∧ RelW w t N J rw gc' gm' ∧ gc' w 4 = nI z.length ∧ sv (gc' (w + 12)) (gm' 78) z ∧ (∀ a, a ∈ z → a < j + d) ∧ fC w gc gc' ∧ fM t gm gm' ∧ gc' (w + 9) 4 = gc (w + 9) 4 := by
  intro d
  induction d with
  | zero =>
    intro b j st gc gm hb hj hl hn hrun hlt h pc pm h4 hv
    have : st = z := Option.some.inj hrun
    subst this
    exact ⟨gc, gm, fun _ _ _ _ => rfl, fun _ _ _ _ => rfl, h, h4, hv, hlt, fC.refl, fM.refl, rfl⟩
  | succ d ih =>
    intro b j st gc gm hb hj hl hn hrun hlt h pc pm h4 hv
    obtain ⟨v, gm1, gc1, st1, e1, e2, h1, x1, x2, x3, x4, x5, x6, x7, x8⟩ := node_step hO h (hn 0 (by omega)) hrun hlt (by omega) (by omega) h4 hv
    obtain ⟨gc', gm', i1, i2, i3, i4, i5, i6, i7, i8, i9⟩ := ih (b + 1) (j + 1) st1 gc1 (up gm1 78 j v) (by omega) (by omega) (by omega) (fun i hi => by
      have := hn (i + 1) (by omega)
      rw [show b + (i + 1) = b + 1 + i by omega, show j + (i + 1) = j + 1 + i by omega] at this
      exact this) x5 x3 h1 (pc.f hO x6) (pm.f hO x7) x1 x2
    refine ⟨gc', gm', fun F v1 v2 K => ?_, fun F k hk h60 => ?_, i3, i4, i5, fun a ha => by have := i6 a ha; omega, x6.trans i7, x7.trans i8, i9.trans (by rw [x8])⟩
    · rw [show b + (d + 1) = b + 1 + d by omega, ← i1 F v1 v2 K]
      show k7_pass_14 w K (F + d + 1) v1 v2 (nI b) gc = _
      conv => lhs; unfold k7_pass_14
      rw [pc 16 (by omega), hB, if_neg (by rw [nI_leI (by omega) (by omega)]; omega), if_neg (fun q => absurd ((lit_le (M := 400) (k := 400) rfl (by omega) (by omega)).mp q) (by omega)), ld_n (by omega) (by omega), ld_n (by omega) (by omega), pc 19 (by omega), pc 20 (by omega)]
      rw [show k7_follow w (g0 19 b) (g0 20 b) gc = some gc1 from e1, some_bind, bd_eq, nI_1]
    · rw [show j + (d + 1) = j + 1 + d by omega] at h60 ⊢
      rw [← i2 F k hk h60]
      show k11_carryOut_13 t (F + d + 1) (nI k) (nI j) gm = _
      conv => lhs; unfold k11_carryOut_13
      rw [ld_n (by omega) (by omega), pm 60 (by omega) (by omega), h60, if_neg (by rw [nI_leI (by omega) (by omega)]; omega), ld_n (by omega) (by omega), ld_n (by omega) (by omega), ld_n (by omega) (by omega), pm 63 (by omega) (by omega), pm 64 (by omega) (by omega), pm 65 (by omega) (by omega)]
      rw [show k11_reckon t (g0 63 j) (g0 64 j) (g0 65 j) gm = some (v, gm1) from e2, some_bind, sto_n (by omega) (by omega), bd_eq, nI_1]
theorem mono_le {B : Nat → Nat} {K : Nat} (h : ∀ k, k < K → B k ≤ B (k + 1)) : ∀ d k, k + d ≤ K → B k ≤ B (k + d) := by
  intro d
  induction d with
  | zero => intro k _; exact Nat.le_refl _
  | succ d ih => intro k hk; exact Nat.le_trans (ih k (by omega)) (h (k + d) (by omega))
/-- one order -/
theorem one_order {w t N J k f f' b b' BK FK : Nat} {rw : Nat → Nat} {g0 gc gm : G} (hO : wOK w t) (hB : g0 16 8 = nI BK) (hB4 : BK ≤ 400) (hb' : b' ≤ BK) (hf' : f' ≤ 800) (hk : k < 16) (ho : ordOK N g0 k f f' b b') (h : RelW w t N J rw gc gm) (pc : planC g0 gc) (pm : planM g0 gm) (h4 : gc w 4 = nI 0) : ∃ gc' gm' J', (∀ F v1 v2 K, k7_pass_14 w K (F + (b' - b)) v1 v2 (nI b) gc = k7_pass_14 w K F v1 v2 (nI b') gc') ∧ k11_carryOut t (nI k) gm = some gm' ∧ RelW w t N J' rw gc' gm' ∧ gc' w 4 = nI 0 ∧ fC w gc gc' ∧ fM t gm gm' ∧ gc' (w + 9) 4 = gc (w + 9) 4 ∧ b ≤ b' := by
  obtain ⟨a1, a2, a3, a4, d, m, te, su, b1, b2, b3, b4, b5, b6, b7, b8, b9, b10, b11, b12⟩ := ho
  have hbb : b + (f' - f) ≤ b' := by
    rw [b9]
    omega
  obtain ⟨gc1, gm1, n1, n2, n3, n4, n5, n6, n7, n8, n9⟩ := nodes_loop (z := te.toList ++ su.toList) hO hB hB4 (f' - f) b f [] gc gm (by omega) (by omega) (by show 0 + (f' - f) ≤ 400; omega) (fun i hi => by
    have := a4 (f + i) (by omega) (by omega)
    rw [show f + i - f = i by omega] at this
    exact this) b8 (fun a ha => by cases ha) h pc pm h4 trivial
  have pc1 := pc.f hO n7
  have pm1 := pm.f hO n8
  have hm8 : ∀ a, a ∈ te.toList ++ su.toList → a < 800 := fun a ha => by have := n6 a ha; omega
  obtain ⟨gc', gm', J', o1, o2, o3, o4, o5, o6, o7, o8⟩ := order_end (k := k) hO n3 b2 b1 (by omega) (by rw [pm1 57 (by omega) (by omega)]; exact b3) (by rw [pm1 58 (by omega) (by omega)]; exact b4) (by rw [pm1 62 (by omega) (by omega)]; exact b5) (by rw [pm1 61 (by omega) (by omega)]; exact b6) b7 (fun j hj => hm8 j (by rw [hj]; simp)) (fun j hj => hm8 j (by rw [hj]; simp)) n4 n5
  have hdone : gc1 (w + 9) 4 = gc (w + 9) 4 := n9
  refine ⟨gc', gm', J', fun F v1 v2 K => ?_, ?_, o4, o5, n7.trans o6, n8.trans o7, o8.trans hdone, by omega⟩
  · have step : ∀ (F i : Nat) (g g' : G), i < BK → planC g0 g → k7_follow w (g0 19 i) (g0 20 i) g = some g' → k7_pass_14 w K (F + 1) v1 v2 (nI i) g = k7_pass_14 w K F v1 v2 (nI (i + 1)) g' := by
      intro F i g g' hi pg hg
      conv => lhs; unfold k7_pass_14
      rw [pg 16 (by omega), hB, if_neg (by rw [nI_leI (by omega) (by omega)]; omega), if_neg (fun q => absurd ((lit_le (M := 400) (k := 400) rfl (by omega) (by omega)).mp q) (by omega)), ld_n (by omega) (by omega), ld_n (by omega) (by omega), pg 19 (by omega), pg 20 (by omega), hg, some_bind, bd_eq, nI_1]
    by_cases e : te = none
    · rw [if_pos e] at b9
      obtain ⟨gcx, y1, y2, y3⟩ := o2 e (g0 20 (b + (f' - f)))
      have s1 := step (F + 1) (b + (f' - f)) gc1 gcx (by omega) pc1 (by rw [b10 e]; exact y1)
      have s2 := step F (b' - 1) gcx gc' (by omega) (pc1.f hO y2) (by rw [b11, b12]; exact y3)
      rw [show F + (b' - b) = F + 1 + 1 + (f' - f) by omega, n1, s1, show b + (f' - f) + 1 = b' - 1 by omega, s2, show b' - 1 + 1 = b' by omega]
    · rw [if_neg e] at b9
      have s2 := step F (b' - 1) gc1 gc' (by omega) pc1 (by rw [b11, b12]; exact o1 e)
      rw [show F + (b' - b) = F + 1 + (f' - f) by omega, n1, show b + (f' - f) = b' - 1 by omega, s2, show b' - 1 + 1 = b' by omega]
  · unfold k11_carryOut
    rw [ld_n (by omega) (by omega), pm 59 (by omega) (by omega), a2]
    have := n2 (FU - (f' - f)) k (by omega) (by rw [a3]; congr 1; omega)
    rw [show FU - (f' - f) + (f' - f) = FU by unfold FU; omega] at this
    rw [this, show f + (f' - f) = f' by omega]
    have hF : ∃ q, FU - (f' - f) = q + 1 := ⟨FU - (f' - f) - 1, by unfold FU; omega⟩
    obtain ⟨q, hq⟩ := hF
    rw [hq]
    unfold k11_carryOut_13
    rw [ld_n (by omega) (by omega), pm1 60 (by omega) (by omega), a3, if_pos (by rw [nI_leI (by omega) (by omega)]; omega)]
    exact o3
