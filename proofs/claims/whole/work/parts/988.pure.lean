/-! teach: sums, read by both -/
/-- what comes of a part of a train in both parsers: read by both, or wrong at the same token -/
def Fail (K L n p : Nat) (gG gm gG' gm' : G) (q n' : Nat) : Prop := p ≤ q ∧ q ≤ K ∧ gG' 13 2 = nI q ∧ WM q gm' ∧ gm' 66 12 = nI n' ∧ n ≤ n' ∧ n' ≤ n + (q - p) + 1 ∧ cG L gG gG' ∧ mG n gm gm'
def Good (T K : Nat) (B : Nat → Int32) (kd ps sz nm : Nat → Nat) (L n p dep : Nat) (gG gm gG' gm' : G) (p' n' r : Nat) : Prop := (p < p' ∧ ms kd nm p' = ms kd nm p) ∧ PG T K B kd ps sz nm p' (L + (n' - n)) gG' ∧ PM T K B kd ps sz nm p' n' dep gm' ∧ n ≤ n' ∧ n' - n ≤ p' - p ∧ kd (p' - 1) ≠ 2 ∧ SR K kd nm (sameN B ps sz) L n p' n' r gG' gm' ∧ cG L gG gG' ∧ mG n gm gm'
def Out (T K : Nat) (B : Nat → Int32) (kd ps sz nm : Nat → Nat) (x y : Option (Int32 × G)) (L n p dep : Nat) (gG gm : G) : Prop :=
  (∃ gG' gm' p' n' r, x = some (1, gG') ∧ y = some (nI r, gm') ∧ Good T K B kd ps sz nm L n p dep gG gm gG' gm' p' n' r) ∨
  (∃ gG' gm' q n' u, x = some (0, gG') ∧ y = some (u, gm') ∧ Fail K L n p gG gm gG' gm' q n')
def Spec (T K : Nat) (B : Nat → Int32) (kd ps sz nm : Nat → Nat) (i0 i1 dep a b : Nat) : Prop := ∀ (f0 f1 : Nat) (gG gm : G) (p L n : Nat), a ≤ f0 → b ≤ f1 → PG T K B kd ps sz nm p L gG → PM T K B kd ps sz nm p n dep gm → ctxN kd p = 0 → Out T K B kd ps sz nm (kG0 f0 i0 (nI dep) 0 gG) (kG1 f1 i1 0 0 gm) L n p dep gG gm
section TK
variable {T K : Nat} {B : Nat → Int32} {kd ps sz nm : Nat → Nat}
theorem ctx_next {p : Nat} (h1 : kd p ≠ 1) (h2 : kd p ≠ 2) (h3 : kd p ≠ 3) (h4 : kd p ≠ 4) (h41 : kd p = 41 → p = 0 ∨ kd (p - 1) ≠ 2) : ctxN kd (p + 1) = 0 := by
  unfold ctxN
  rw [show p + 1 - 1 = p by omega, show p + 1 - 2 = p - 1 by omega]
  have e0 : ¬ (1 < p + 1 ∧ kd p = 41 ∧ kd (p - 1) = 2) := by
    rintro ⟨z1, z2, z3⟩
    rcases h41 z2 with q | q
    · omega
    · exact q z3
  have e1 : ¬ (0 < p + 1 ∧ kd p = 1) := fun z => h1 z.2
  have e2 : ¬ (0 < p + 1 ∧ kd p = 2) := fun z => h2 z.2
  have e3 : ¬ (0 < p + 1 ∧ kd p = 3) := fun z => h3 z.2
  have e4 : ¬ (0 < p + 1 ∧ kd p = 4) := fun z => h4 z.2
  rw [if_neg e0, if_neg e1, if_neg e2, if_neg e3, if_neg e4]
theorem PM.aN {g : G} {p n dep : Nat} {s l r : Int32} (h : PM T K B kd ps sz nm p n dep g) (hn : n + 1 ≤ p) : PM T K B kd ps sz nm p (n + 1) dep (addN n s l r g) := by
  obtain ⟨h1, h2, h3, h4, h5, h6, h7⟩ := h
  have f := addN_fr (n := n) (s := s) (l := l) (r := r) (g := g)
  have e47 : addN n s l r g 47 = g 47 := by
    unfold addN
    rw [up_ne (by decide), up_ne (by decide), up_ne (by decide), up_ne (by decide)]
  exact ⟨by rw [e47]; exact h1, by rw [e47]; exact h2, h3.mG f, by rw [e47]; exact h4, addN_v.2.2.2, hn, h7.fr (by rw [e47]) (by rw [e47]) (f.2.1 0 (by decide)) (f.1 53 (by decide) (by decide) (by decide) (by decide) (by decide))⟩
theorem PG.aS {g : G} {p L : Nat} {c v : Int32} (h : PG T K B kd ps sz nm p L g) (hL : L + 1 ≤ p) : PG T K B kd ps sz nm p (L + 1) (addS L c v g) := by
  obtain ⟨a, b, c⟩ := h.wr (c := c) (v := v)
  exact ⟨a, h.2.1, b, c, hL⟩
theorem PM.deep {g : G} {p n dep dep' : Nat} (h : PM T K B kd ps sz nm p n dep g) : PM T K B kd ps sz nm p n dep' (up g 47 12 (nI dep')) := by
  obtain ⟨h1, h2, h3, h4, h5, h6, h7⟩ := h
  exact ⟨by rw [up_slot (by decide)]; exact h1, by rw [up_slot (by decide)]; exact h2, h3.mG (deep_fr (n := 0)), up_self, by rw [up_other (by decide)]; exact h5, h6, h7.fr (up_slot (by decide)) (up_slot (by decide)) (up_other (by decide)) (up_ne (by decide))⟩
theorem WM.aN {g : G} {q n : Nat} {s l r : Int32} (h : WM q g) : WM q (addN n s l r g) := by
  have e47 : addN n s l r g 47 = g 47 := by
    unfold addN
    rw [up_ne (by decide), up_ne (by decide), up_ne (by decide), up_ne (by decide)]
  unfold WM at h ⊢
  rw [e47]; exact h
theorem WM.deep {g : G} {q : Nat} {v : Int32} (h : WM q g) : WM q (up g 47 12 v) := by
  obtain ⟨a, b, c, d⟩ := h
  exact ⟨by rw [up_slot (by decide)]; exact a, by rw [up_slot (by decide)]; exact b, by rw [up_slot (by decide)]; exact c, by rw [up_slot (by decide)]; exact d⟩
/-- wrong already: nothing is read -/
theorem wv {g : G} (h : g 47 9 = 1) (f : Nat) : kG1 (f + 1) 6 0 0 g = some (0, g) := by
  show kb11_value (kG1 f) g = _
  have hm : k11_isMeasure g = some 0 := by
    unfold k11_isMeasure
    rw [is_w h, some_bind, if_pos rfl, is_w h, some_bind, if_pos rfl, is_w h, some_bind, if_pos rfl, is_w h, some_bind, if_pos rfl, is_w h, some_bind, if_pos rfl]
  have last : ∀ f', k11_value_41 (kG1 f) (f' + 1) 15 g = some (0, g) := by
    intro f'
    unfold k11_value_41
    rw [if_pos (by decide), hm, some_bind, if_pos rfl, is_w h, some_bind, if_pos rfl, is_w h, some_bind, if_pos rfl, is_w h, some_bind, if_pos rfl, is_w h, some_bind, if_pos rfl, wrong_w h, some_bind]
  have step : ∀ f' (v : Int32), ¬ 14 < v → k11_value_41 (kG1 f) (f' + 1) v g = k11_value_41 (kG1 f) f' (v + 1) g := by
    intro f' v hv
    conv => lhs; unfold k11_value_41
    rw [if_neg hv, takes_w h, some_bind]
    dsimp only
    rw [if_pos rfl, bd_eq]
  unfold kb11_value
  rw [is_w h, some_bind, if_pos rfl]
  show k11_value_41 (kG1 f) (99996 + 1 + 1 + 1 + 1) 12 g = _
  rw [step _ _ (by decide), show (12 : Int32) + 1 = 13 from rfl, step _ _ (by decide), show (13 : Int32) + 1 = 14 from rfl, step _ _ (by decide), show (14 : Int32) + 1 = 15 from rfl, last]
theorem wp5 {g : G} (h : g 47 9 = 1) {R : Nat → Int32 → Int32 → G → Option (Int32 × G)} {v : Int32} (f : Nat) : k11_product_5 R (f + 1) v g = some (v, g) := by
  unfold k11_product_5
  rw [is_w h, some_bind, if_pos rfl, is_w h, some_bind, if_pos rfl]
theorem ws5 {g : G} (h : g 47 9 = 1) {R : Nat → Int32 → Int32 → G → Option (Int32 × G)} {v : Int32} (f : Nat) : k11_sum_5 R (f + 1) v g = some (v, g) := by
  unfold k11_sum_5
  rw [is_w h, some_bind, if_pos rfl, is_w h, some_bind, if_pos rfl]
theorem wprod {g : G} (h : g 47 9 = 1) (f : Nat) : kG1 (f + 2) 5 0 0 g = some (0, g) := by
  show kb11_product (kG1 (f + 1)) g = _
  unfold kb11_product
  rw [wv h f, some_bind, bd_eq]
  exact wp5 h 99999
theorem wsum {g : G} (h : g 47 9 = 1) (f : Nat) : kG1 (f + 3) 4 0 0 g = some (0, g) := by
  show kb11_sum (kG1 (f + 2)) g = _
  unfold kb11_sum
  rw [wprod h f, some_bind, bd_eq]
  exact ws5 h 99999
theorem wname {g : G} (h : g 47 9 = 1) : k11_name g = some (0, g) := by
  unfold k11_name k11_name_17 k11_name_28
  rw [is_w h, some_bind, if_pos rfl, if_neg (by decide), take_w h, some_bind, bd_eq]
  rfl
theorem product_loop {dep a b : Nat} (hT : Toks T 0 K kd ps sz nm) (hV : Spec T K B kd ps sz nm 5 6 dep a b) : ∀ (d p : Nat), K = p + d → ∀ (f0 f1 fc fm i L n n1 r p0 : Nat) (gG gm gG1 gm1 : G), a ≤ f0 → b ≤ f1 → d < fc → d < fm → i ≤ p → i + d ≤ 400 → PG T K B kd ps sz nm p (L + (n1 - n)) gG1 → PM T K B kd ps sz nm p n1 dep gm1 → n ≤ n1 → n1 - n ≤ p - p0 → (p0 < p ∧ ms kd nm p = ms kd nm p0) → kd (p - 1) ≠ 2 → SR K kd nm (sameN B ps sz) L n p n1 r gG1 gm1 → cG L gG gG1 → mG n gm gm1 → Out T K B kd ps sz nm (k0_product_12 (kG0 f0) fc (nI dep) (nI i) gG1) (k11_product_5 (kG1 f1) fm (nI r) gm1) L n p0 dep gG gm := by
  have hK := hT.2.1
  intro d
  induction d using Nat.strongRecOn with
  | _ d ih =>
    intro p hd f0 f1 fc fm i L n n1 r p0 gG gm gG1 gm1 ha hb hfc hfm hi hid hG hM hn hnp hp0 hend hS hcG hmG
    obtain ⟨fc, rfl⟩ : ∃ z, fc = z + 1 := ⟨fc - 1, by omega⟩
    obtain ⟨fm, rfl⟩ : ∃ z, fm = z + 1 := ⟨fm - 1, by omega⟩
    have hpK := hG.2.1
    have n43 := next_c hT hG.1 hpK hG.2.2.1 (s := 42) (c := 42) (by decide) (by decide) rfl
    have n45 := next_c hT hG.1 hpK hG.2.2.1 (s := 43) (c := 47) (by decide) (by decide) rfl
    have m40 := is_m hT hM.1 hM.2.1 hpK hM.2.2.1 (s := 42) (c := 42) (by decide) rfl
    have m41 := is_m hT hM.1 hM.2.1 hpK hM.2.2.1 (s := 43) (c := 43) (by decide) rfl
    by_cases hop : kd p = 42 ∨ kd p = 43
    · -- one more
      have hpK' : p < K := by
        rcases hop with q | q
        · exact kdK hT hpK q (by decide) (by decide)
        · exact kdK hT hpK q (by decide) (by decide)
      have i400 : ¬ (400 : Int32) ≤ nI i := fun z => absurd ((lit_le (M := 400) (k := 400) rfl (by omega) (by omega)).mp z) (by omega)
      have hclass : k0_product_12 (kG0 f0) (fc + 1) (nI dep) (nI i) gG1 = k0_product_37 (kG0 f0) (k0_product_12 (kG0 f0) fc) (nI dep) (nI i) gG1 := by
        conv => lhs; unfold k0_product_12
        rw [if_neg i400, n43, some_bind]
        rcases hop with q | q
        · rw [if_pos q, if_neg (by decide)]
        · rw [if_neg (show ¬ kd p = 42 by omega), if_pos rfl, n45, some_bind, if_pos q, if_neg (by decide)]
      have hmodel : k11_product_5 (kG1 f1) (fm + 1) (nI r) gm1 = k11_product_23 (kG1 f1) (k11_product_5 (kG1 f1) fm) (nI r) gm1 := by
        conv => lhs; unfold k11_product_5
        rw [m40, some_bind]
        rcases hop with q | q
        · rw [if_pos q, if_neg (by decide)]
        · rw [if_neg (show ¬ kd p = 42 by omega), if_pos rfl, m41, some_bind, if_pos q, if_neg (by decide)]
      have hG2 := hG.go hpK'
      have hq := quiet (B := B) (ps := ps) (sz := sz) (nm := nm) (kd := kd) (p := p) (by omega) (by omega) (by rcases hop with q | q <;> (rw [q]; rfl))
      have hM2 := hM.go hq
      have hctx : ctxN kd (p + 1) = 0 := ctx_next (by omega) (by omega) (by omega) (by omega) (fun _ => Or.inr hend)
      have hk : nI (kap (kd p)) = nI (stepOf (kd p)) := by rcases hop with q | q <;> (rw [q]; rfl)
      have hari : ariOf (kd p) = 2 := by rcases hop with q | q <;> (rw [q]; rfl)
      have hno : ¬ ofMirror (kd p) ∧ kd p ≠ 31 := by
        unfold ofMirror
        omega
      rw [hclass, hmodel]
      unfold k0_product_37 k11_product_23
      rw [hG.1, kindAt_n hT hG.2.2.1 hpK, some_bind, bd_eq, nI_1, hM.1, ld_n (by omega) (by omega), (hM.2.2.1.2.1 p (by omega) hpK).1, bd_eq, nI_1, nI_1]
      rcases hV f0 f1 _ _ (p + 1) (L + (n1 - n)) n1 ha hb hG2 hM2 hctx with ⟨gG', gm', p', n', r', x1, x2, x3⟩ | ⟨gG', gm', q, n', u, x1, x2, x3⟩
      · obtain ⟨y1, y2, y3, y4, y5, y6, y7, y8, y9⟩ := x3
        rw [x1, x2, some_bind, some_bind]
        dsimp only
        have hL' : L + (n1 - n) + (n' - n1) = L + (n' - n) := by omega
        have hLp : L + (n1 - n) ≤ p := hG.2.2.2.2
        have hnp1 : n1 ≤ p := hM.2.2.2.2.2.1
        rw [hL'] at y2
        have hpp := y2.2.1
        rw [if_neg (show ¬ (1 : Int32) = 0 by decide), y2.1, hk, write_c y2.2.2.2.1 (by omega), some_bind, bd_eq, node_m y3.2.2.2.2.1 (by omega), some_bind, bd_eq]
        have hb2 := SR.bin (v := nI p') hS y7 (by omega) ((at_fr (L := L + (n1 - n))).trans (Nat.le_refl _) y8) ((tok_fr (n := n1)).trans (Nat.le_refl _) y9) (hT.ok hpK).2 hari hno
        have hPG := y2.aS (c := nI (stepOf (kd p))) (v := nI p') (by omega)
        have hPM := y3.aN (s := nI (kd p)) (l := nI r) (r := nI r') (by omega)
        rw [show L + (n' - n) + 1 = L + (n' + 1 - n) by omega] at hPG
        exact ih (K - p') (by omega) p' (by omega) f0 f1 fc fm (i + 1) L n (n' + 1) n' p0 gG gm _ _ ha hb (by omega) (by omega) (by omega) (by omega) hPG hPM (by omega) (by omega) ⟨by omega, y1.2.trans (hq.2.trans hp0.2)⟩ y6 hb2 ((hcG.trans (show L ≤ L + (n1 - n) by omega) ((at_fr (L := L + (n1 - n))).trans (Nat.le_refl _) y8)).trans (show L ≤ L + (n' - n) by omega) addS_fr) ((hmG.trans hn ((tok_fr (n := n1)).trans (Nat.le_refl _) y9)).trans (show n ≤ n' by omega) addN_fr)
      · obtain ⟨y1, y2, y3, y4, y5, y6, y7, y8, y9⟩ := x3
        rw [x1, x2, some_bind, some_bind]
        dsimp only
        have hnp1 : n1 ≤ p := hM.2.2.2.2.2.1
        rw [if_pos rfl, node_m y5 (by omega), some_bind, bd_eq]
        obtain ⟨fm, rfl⟩ : ∃ z, fm = z + 1 := ⟨fm - 1, by omega⟩
        have hw : WM q (addN n' (nI (kd p)) (nI r) u gm') := y4.aN
        rw [wp5 hw.1]
        exact Or.inr ⟨gG', _, q, n' + 1, _, rfl, rfl, by omega, y2, y3, hw, addN_v.2.2.2, by omega, by omega, hcG.trans (show L ≤ L + (n1 - n) by omega) ((at_fr (L := L + (n1 - n))).trans (Nat.le_refl _) y8), (hmG.trans hn ((tok_fr (n := n1)).trans (Nat.le_refl _) y9)).trans (show n ≤ n' by omega) addN_fr⟩
    · -- the end
      have e1 : ¬ kd p = 42 := fun z => hop (Or.inl z)
      have e2 : ¬ kd p = 43 := fun z => hop (Or.inr z)
      refine Or.inl ⟨gG1, gm1, p, n1, r, ?_, ?_, hp0, hG, hM, hn, hnp, hend, hS, hcG, hmG⟩
      · unfold k0_product_12
        rw [n43, some_bind, if_neg e1, if_pos rfl, n45, some_bind, if_neg e2, if_pos rfl]
        by_cases e : (400 : Int32) ≤ nI i
        · rw [if_pos e]
        · rw [if_neg e]
      · unfold k11_product_5
        rw [m40, some_bind, if_neg e1, if_pos rfl, m41, some_bind, if_neg e2, if_pos rfl]
theorem product_spec {dep a b : Nat} (hT : Toks T 0 K kd ps sz nm) (hV : Spec T K B kd ps sz nm 5 6 dep a b) : Spec T K B kd ps sz nm 4 5 dep (a + 1) (b + 1) := by
  have hK := hT.2.1
  intro f0 f1 gG gm p L n ha hb hG hM hctx
  obtain ⟨f0, rfl⟩ : ∃ z, f0 = z + 1 := ⟨f0 - 1, by omega⟩
  obtain ⟨f1, rfl⟩ : ∃ z, f1 = z + 1 := ⟨f1 - 1, by omega⟩
  show Out T K B kd ps sz nm (kb0_product (kG0 f0) (nI dep) gG) (kb11_product (kG1 f1) gm) L n p dep gG gm
  unfold kb0_product kb11_product
  rcases hV f0 f1 gG gm p L n (by omega) (by omega) hG hM hctx with ⟨gG', gm', p', n', r', x1, x2, x3⟩ | ⟨gG', gm', q, n', u, x1, x2, x3⟩
  · obtain ⟨y1, y2, y3, y4, y5, y6, y7, y8, y9⟩ := x3
    have hpp := y2.2.1
    rw [x1, x2, some_bind, some_bind]
    dsimp only
    rw [if_neg (show ¬ (1 : Int32) = 0 by decide), bd_eq, show (0 : Int32) = nI 0 from rfl]
    exact product_loop hT hV (K - p') p' (by omega) f0 f1 FU FU 0 L n n' r' p gG gm gG' gm' (by omega) (by omega) (by unfold FU; omega) (by unfold FU; omega) (by omega) (by omega) y2 y3 y4 y5 y1 y6 y7 y8 y9
  · have hw := x3.2.2.2.1.1
    rw [x1, x2, some_bind, some_bind]
    dsimp only
    rw [if_pos rfl, bd_eq]
    exact Or.inr ⟨gG', gm', q, n', _, rfl, wp5 hw 99999, x3⟩
theorem sum_loop {dep a b : Nat} (hT : Toks T 0 K kd ps sz nm) (hV : Spec T K B kd ps sz nm 4 5 dep a b) : ∀ (d p : Nat), K = p + d → ∀ (f0 f1 fc fm i L n n1 r p0 : Nat) (gG gm gG1 gm1 : G), a ≤ f0 → b ≤ f1 → d < fc → d < fm → i ≤ p → i + d ≤ 400 → PG T K B kd ps sz nm p (L + (n1 - n)) gG1 → PM T K B kd ps sz nm p n1 dep gm1 → n ≤ n1 → n1 - n ≤ p - p0 → (p0 < p ∧ ms kd nm p = ms kd nm p0) → kd (p - 1) ≠ 2 → SR K kd nm (sameN B ps sz) L n p n1 r gG1 gm1 → cG L gG gG1 → mG n gm gm1 → Out T K B kd ps sz nm (k0_sum_12 (kG0 f0) fc (nI dep) (nI i) gG1) (k11_sum_5 (kG1 f1) fm (nI r) gm1) L n p0 dep gG gm := by
  have hK := hT.2.1
  intro d
  induction d using Nat.strongRecOn with
  | _ d ih =>
    intro p hd f0 f1 fc fm i L n n1 r p0 gG gm gG1 gm1 ha hb hfc hfm hi hid hG hM hn hnp hp0 hend hS hcG hmG
    obtain ⟨fc, rfl⟩ : ∃ z, fc = z + 1 := ⟨fc - 1, by omega⟩
    obtain ⟨fm, rfl⟩ : ∃ z, fm = z + 1 := ⟨fm - 1, by omega⟩
    have hpK := hG.2.1
    have n43 := next_c hT hG.1 hpK hG.2.2.1 (s := 40) (c := 43) (by decide) (by decide) rfl
    have n45 := next_c hT hG.1 hpK hG.2.2.1 (s := 41) (c := 45) (by decide) (by decide) rfl
    have m40 := is_m hT hM.1 hM.2.1 hpK hM.2.2.1 (s := 40) (c := 40) (by decide) rfl
    have m41 := is_m hT hM.1 hM.2.1 hpK hM.2.2.1 (s := 41) (c := 41) (by decide) rfl
    by_cases hop : kd p = 40 ∨ kd p = 41
    · -- one more
      have hpK' : p < K := by
        rcases hop with q | q
        · exact kdK hT hpK q (by decide) (by decide)
        · exact kdK hT hpK q (by decide) (by decide)
      have i400 : ¬ (400 : Int32) ≤ nI i := fun z => absurd ((lit_le (M := 400) (k := 400) rfl (by omega) (by omega)).mp z) (by omega)
      have hclass : k0_sum_12 (kG0 f0) (fc + 1) (nI dep) (nI i) gG1 = k0_sum_37 (kG0 f0) (k0_sum_12 (kG0 f0) fc) (nI dep) (nI i) gG1 := by
        conv => lhs; unfold k0_sum_12
        rw [if_neg i400, n43, some_bind]
        rcases hop with q | q
        · rw [if_pos q, if_neg (by decide)]
        · rw [if_neg (show ¬ kd p = 40 by omega), if_pos rfl, n45, some_bind, if_pos q, if_neg (by decide)]
      have hmodel : k11_sum_5 (kG1 f1) (fm + 1) (nI r) gm1 = k11_sum_23 (kG1 f1) (k11_sum_5 (kG1 f1) fm) (nI r) gm1 := by
        conv => lhs; unfold k11_sum_5
        rw [m40, some_bind]
        rcases hop with q | q
        · rw [if_pos q, if_neg (by decide)]
        · rw [if_neg (show ¬ kd p = 40 by omega), if_pos rfl, m41, some_bind, if_pos q, if_neg (by decide)]
      have hG2 := hG.go hpK'
      have hq := quiet (B := B) (ps := ps) (sz := sz) (nm := nm) (kd := kd) (p := p) (by omega) (by omega) (by rcases hop with q | q <;> (rw [q]; rfl))
      have hM2 := hM.go hq
      have hctx : ctxN kd (p + 1) = 0 := ctx_next (by omega) (by omega) (by omega) (by omega) (fun _ => Or.inr hend)
      have hk : nI (kap (kd p)) = nI (stepOf (kd p)) := by rcases hop with q | q <;> (rw [q]; rfl)
      have hari : ariOf (kd p) = 2 := by rcases hop with q | q <;> (rw [q]; rfl)
      have hno : ¬ ofMirror (kd p) ∧ kd p ≠ 31 := by
        unfold ofMirror
        omega
      rw [hclass, hmodel]
      unfold k0_sum_37 k11_sum_23
      rw [hG.1, kindAt_n hT hG.2.2.1 hpK, some_bind, bd_eq, nI_1, hM.1, ld_n (by omega) (by omega), (hM.2.2.1.2.1 p (by omega) hpK).1, bd_eq, nI_1, nI_1]
      rcases hV f0 f1 _ _ (p + 1) (L + (n1 - n)) n1 ha hb hG2 hM2 hctx with ⟨gG', gm', p', n', r', x1, x2, x3⟩ | ⟨gG', gm', q, n', u, x1, x2, x3⟩
      · obtain ⟨y1, y2, y3, y4, y5, y6, y7, y8, y9⟩ := x3
        rw [x1, x2, some_bind, some_bind]
        dsimp only
        have hL' : L + (n1 - n) + (n' - n1) = L + (n' - n) := by omega
        have hLp : L + (n1 - n) ≤ p := hG.2.2.2.2
        have hnp1 : n1 ≤ p := hM.2.2.2.2.2.1
        rw [hL'] at y2
        have hpp := y2.2.1
        rw [if_neg (show ¬ (1 : Int32) = 0 by decide), y2.1, hk, write_c y2.2.2.2.1 (by omega), some_bind, bd_eq, node_m y3.2.2.2.2.1 (by omega), some_bind, bd_eq]
        have hb2 := SR.bin (v := nI p') hS y7 (by omega) ((at_fr (L := L + (n1 - n))).trans (Nat.le_refl _) y8) ((tok_fr (n := n1)).trans (Nat.le_refl _) y9) (hT.ok hpK).2 hari hno
        have hPG := y2.aS (c := nI (stepOf (kd p))) (v := nI p') (by omega)
        have hPM := y3.aN (s := nI (kd p)) (l := nI r) (r := nI r') (by omega)
        rw [show L + (n' - n) + 1 = L + (n' + 1 - n) by omega] at hPG
        exact ih (K - p') (by omega) p' (by omega) f0 f1 fc fm (i + 1) L n (n' + 1) n' p0 gG gm _ _ ha hb (by omega) (by omega) (by omega) (by omega) hPG hPM (by omega) (by omega) ⟨by omega, y1.2.trans (hq.2.trans hp0.2)⟩ y6 hb2 ((hcG.trans (show L ≤ L + (n1 - n) by omega) ((at_fr (L := L + (n1 - n))).trans (Nat.le_refl _) y8)).trans (show L ≤ L + (n' - n) by omega) addS_fr) ((hmG.trans hn ((tok_fr (n := n1)).trans (Nat.le_refl _) y9)).trans (show n ≤ n' by omega) addN_fr)
      · obtain ⟨y1, y2, y3, y4, y5, y6, y7, y8, y9⟩ := x3
        rw [x1, x2, some_bind, some_bind]
        dsimp only
        have hnp1 : n1 ≤ p := hM.2.2.2.2.2.1
        rw [if_pos rfl, node_m y5 (by omega), some_bind, bd_eq]
        obtain ⟨fm, rfl⟩ : ∃ z, fm = z + 1 := ⟨fm - 1, by omega⟩
        have hw : WM q (addN n' (nI (kd p)) (nI r) u gm') := y4.aN
        rw [ws5 hw.1]
        exact Or.inr ⟨gG', _, q, n' + 1, _, rfl, rfl, by omega, y2, y3, hw, addN_v.2.2.2, by omega, by omega, hcG.trans (show L ≤ L + (n1 - n) by omega) ((at_fr (L := L + (n1 - n))).trans (Nat.le_refl _) y8), (hmG.trans hn ((tok_fr (n := n1)).trans (Nat.le_refl _) y9)).trans (show n ≤ n' by omega) addN_fr⟩
    · -- the end
      have e1 : ¬ kd p = 40 := fun z => hop (Or.inl z)
      have e2 : ¬ kd p = 41 := fun z => hop (Or.inr z)
      refine Or.inl ⟨gG1, gm1, p, n1, r, ?_, ?_, hp0, hG, hM, hn, hnp, hend, hS, hcG, hmG⟩
      · unfold k0_sum_12
        rw [n43, some_bind, if_neg e1, if_pos rfl, n45, some_bind, if_neg e2, if_pos rfl]
        by_cases e : (400 : Int32) ≤ nI i
        · rw [if_pos e]
        · rw [if_neg e]
      · unfold k11_sum_5
        rw [m40, some_bind, if_neg e1, if_pos rfl, m41, some_bind, if_neg e2, if_pos rfl]
theorem sum_spec {dep a b : Nat} (hT : Toks T 0 K kd ps sz nm) (hV : Spec T K B kd ps sz nm 4 5 dep a b) : Spec T K B kd ps sz nm 3 4 dep (a + 1) (b + 1) := by
  have hK := hT.2.1
  intro f0 f1 gG gm p L n ha hb hG hM hctx
  obtain ⟨f0, rfl⟩ : ∃ z, f0 = z + 1 := ⟨f0 - 1, by omega⟩
  obtain ⟨f1, rfl⟩ : ∃ z, f1 = z + 1 := ⟨f1 - 1, by omega⟩
  show Out T K B kd ps sz nm (kb0_sum (kG0 f0) (nI dep) gG) (kb11_sum (kG1 f1) gm) L n p dep gG gm
  unfold kb0_sum kb11_sum
  rcases hV f0 f1 gG gm p L n (by omega) (by omega) hG hM hctx with ⟨gG', gm', p', n', r', x1, x2, x3⟩ | ⟨gG', gm', q, n', u, x1, x2, x3⟩
  · obtain ⟨y1, y2, y3, y4, y5, y6, y7, y8, y9⟩ := x3
    have hpp := y2.2.1
    rw [x1, x2, some_bind, some_bind]
    dsimp only
    rw [if_neg (show ¬ (1 : Int32) = 0 by decide), bd_eq, show (0 : Int32) = nI 0 from rfl]
    exact sum_loop hT hV (K - p') p' (by omega) f0 f1 FU FU 0 L n n' r' p gG gm gG' gm' (by omega) (by omega) (by unfold FU; omega) (by unfold FU; omega) (by omega) (by omega) y2 y3 y4 y5 y1 y6 y7 y8 y9
  · have hw := x3.2.2.2.1.1
    rw [x1, x2, some_bind, some_bind]
    dsimp only
    rw [if_pos rfl, bd_eq]
    exact Or.inr ⟨gG', gm', q, n', _, rfl, ws5 hw 99999, x3⟩
end TK
