/-! teach: tests, read by both -/
section TK
variable {T K : Nat} {B : Nat → Int32} {kd ps sz nm : Nat → Nat}
theorem wcomp {g : G} {q : Nat} (h : WM q g) (hq : q ≤ 400) (f : Nat) : kG1 (f + 4) 3 0 0 g = some (0, g) := by
  show kb11_comparison (kG1 (f + 3)) g = _
  unfold kb11_comparison k11_comparison_33
  rw [wsum h.1 f, some_bind, bd_eq]
  dsimp only
  rw [h.2.1, ld_n (by omega) (by omega), if_neg (by rw [h.1]; decide), wrong_w h.1, some_bind]
theorem wsingle {g : G} {q : Nat} (h : WM q g) (hq : q ≤ 400) (f : Nat) : kG1 (f + 5) 2 0 0 g = some (0, g) := by
  show kb11_single (kG1 (f + 4)) g = _
  unfold kb11_single
  rw [is_w h.1, some_bind, if_pos rfl, is_w h.1, some_bind, if_pos rfl, takes_w h.1, some_bind]
  dsimp only
  rw [if_pos rfl, takes_w h.1, some_bind]
  dsimp only
  rw [if_pos rfl, wcomp h hq f, some_bind]
theorem wb5 {g : G} (h : g 47 9 = 1) {R : Nat → Int32 → Int32 → G → Option (Int32 × G)} {v : Int32} (f : Nat) : k11_both_5 R (f + 1) v g = some (v, g) := by
  unfold k11_both_5
  rw [takes_w h, some_bind]
  dsimp only
  rw [if_pos rfl]
theorem wt5 {g : G} (h : g 47 9 = 1) {R : Nat → Int32 → Int32 → G → Option (Int32 × G)} {v : Int32} (f : Nat) : k11_test_5 R (f + 1) v g = some (v, g) := by
  unfold k11_test_5
  rw [takes_w h, some_bind]
  dsimp only
  rw [if_pos rfl]
theorem wboth {g : G} {q : Nat} (h : WM q g) (hq : q ≤ 400) (f : Nat) : kG1 (f + 6) 1 0 0 g = some (0, g) := by
  show kb11_both (kG1 (f + 5)) g = _
  unfold kb11_both
  rw [wsingle h hq f, some_bind, bd_eq]
  exact wb5 h.1 99999
theorem wtest {g : G} {q : Nat} (h : WM q g) (hq : q ≤ 400) (f : Nat) : kG1 (f + 7) 0 0 0 g = some (0, g) := by
  show kb11_test (kG1 (f + 6)) g = _
  unfold kb11_test
  rw [wboth h hq f, some_bind, bd_eq]
  exact wt5 h.1 99999
theorem both_loop {dep a b : Nat} (hT : Toks T 0 K kd ps sz nm) (hV : Spec T K B kd ps sz nm 2 2 dep a b) : ∀ (d p : Nat), K = p + d → ∀ (f0 f1 fc fm i L n n1 r p0 : Nat) (gG gm gG1 gm1 : G), a ≤ f0 → b ≤ f1 → d < fc → d < fm → i ≤ p → i + d ≤ 400 → PG T K B kd ps sz nm p (L + (n1 - n)) gG1 → PM T K B kd ps sz nm p n1 dep gm1 → n ≤ n1 → n1 - n ≤ p - p0 → (p0 < p ∧ ms kd nm p = ms kd nm p0) → kd (p - 1) ≠ 2 → SR K kd nm (sameN B ps sz) L n p n1 r gG1 gm1 → cG L gG gG1 → mG n gm gm1 → Out T K B kd ps sz nm (k0_both_12 (kG0 f0) fc (nI dep) (nI i) gG1) (k11_both_5 (kG1 f1) fm (nI r) gm1) L n p0 dep gG gm := by
  have hK := hT.2.1
  intro d
  induction d using Nat.strongRecOn with
  | _ d ih =>
    intro p hd f0 f1 fc fm i L n n1 r p0 gG gm gG1 gm1 ha hb hfc hfm hi hid hG hM hn hnp hp0 hend hS hcG hmG
    obtain ⟨fc, rfl⟩ : ∃ z, fc = z + 1 := ⟨fc - 1, by omega⟩
    obtain ⟨fm, rfl⟩ : ∃ z, fm = z + 1 := ⟨fm - 1, by omega⟩
    have hpK := hG.2.1
    have tc := take_c hT hG.1 hpK hG.2.2.1 (s := 22) (c := 150) (by decide) (by decide) rfl
    have tm := takes_m1 hT hM.1 hM.2.1 hpK hM.2.2.1 (s := 22) (c := 22) (by decide) rfl
    by_cases hop : kd p = 22
    · have hpK' : p < K := kdK hT hpK hop (by decide) (by decide)
      have i400 : ¬ (400 : Int32) ≤ nI i := fun z => absurd ((lit_le (M := 400) (k := 400) rfl (by omega) (by omega)).mp z) (by omega)
      rw [if_pos hop] at tc tm
      have hG2 := hG.go hpK'
      have hq := quiet (B := B) (ps := ps) (sz := sz) (nm := nm) (kd := kd) (p := p) (by omega) (by omega) (by rw [hop]; rfl)
      have hM2 := hM.go hq
      have hctx : ctxN kd (p + 1) = 0 := ctx_next (by omega) (by omega) (by omega) (by omega) (fun _ => Or.inr hend)
      unfold k0_both_12 k11_both_5
      rw [if_neg i400, tc, tm, some_bind, some_bind]
      dsimp only
      rw [if_neg (show ¬ (1 : Int32) = 0 by decide), if_neg (show ¬ (1 : Int32) = 0 by decide)]
      rcases hV f0 f1 _ _ (p + 1) (L + (n1 - n)) n1 ha hb hG2 hM2 hctx with ⟨gG', gm', p', n', r', x1, x2, y1, y2, y3, y4, y5, y6, y7, y8, y9⟩ | ⟨gG', gm', q, n', u, x1, x2, y1, y2, y3, y4, y5, y6, y7, y8, y9⟩
      · have hL' : L + (n1 - n) + (n' - n1) = L + (n' - n) := by omega
        have hLp : L + (n1 - n) ≤ p := hG.2.2.2.2
        have hnp1 : n1 ≤ p := hM.2.2.2.2.2.1
        rw [hL'] at y2
        have hpp := y2.2.1
        rw [x1, x2, some_bind, some_bind]
        dsimp only
        rw [if_neg (show ¬ (1 : Int32) = 0 by decide), y2.1, write_c y2.2.2.2.1 (by omega), some_bind, bd_eq, nI_1, node_m y3.2.2.2.2.1 (by omega), some_bind, bd_eq]
        have hb2 := SR.bin (s := 22) (v := nI p') hS y7 (by omega) ((at_fr (L := L + (n1 - n))).trans (Nat.le_refl _) y8) ((tok_fr (n := n1)).trans (Nat.le_refl _) y9) (by decide) rfl (by unfold ofMirror; decide)
        have hPG := y2.aS (c := nI (stepOf 22)) (v := nI p') (by omega)
        have hPM := y3.aN (s := nI 22) (l := nI r) (r := nI r') (by omega)
        rw [show L + (n' - n) + 1 = L + (n' + 1 - n) by omega] at hPG
        exact ih (K - p') (by omega) p' (by omega) f0 f1 fc fm (i + 1) L n (n' + 1) n' p0 gG gm _ _ ha hb (by omega) (by omega) (by omega) (by omega) hPG hPM (by omega) (by omega) ⟨by omega, y1.2.trans (hq.2.trans hp0.2)⟩ y6 hb2 ((hcG.trans (show L ≤ L + (n1 - n) by omega) ((at_fr (L := L + (n1 - n))).trans (Nat.le_refl _) y8)).trans (show L ≤ L + (n' - n) by omega) addS_fr) ((hmG.trans hn ((tok_fr (n := n1)).trans (Nat.le_refl _) y9)).trans (show n ≤ n' by omega) addN_fr)
      · have hnp1 : n1 ≤ p := hM.2.2.2.2.2.1
        rw [x1, x2, some_bind, some_bind]
        dsimp only
        rw [if_pos rfl, node_m y5 (by omega), some_bind, bd_eq]
        obtain ⟨fm, rfl⟩ : ∃ z, fm = z + 1 := ⟨fm - 1, by omega⟩
        have hw : WM q (addN n' 22 (nI r) u gm') := y4.aN
        rw [wb5 hw.1]
        refine Or.inr ⟨gG', _, q, n' + 1, _, rfl, rfl, ?_⟩
        exact ⟨by omega, y2, y3, hw, rfl, by omega, by omega, hcG.trans (show L ≤ L + (n1 - n) by omega) ((at_fr (L := L + (n1 - n))).trans (Nat.le_refl _) y8), (hmG.trans hn ((tok_fr (n := n1)).trans (Nat.le_refl _) y9)).trans (show n ≤ n' by omega) addN_fr⟩
    · rw [if_neg hop] at tc tm
      refine Or.inl ⟨gG1, gm1, p, n1, r, ?_, ?_, hp0, hG, hM, hn, hnp, hend, hS, hcG, hmG⟩
      · unfold k0_both_12
        rw [tc, some_bind]
        dsimp only
        rw [if_pos rfl]
        by_cases e : (400 : Int32) ≤ nI i
        · rw [if_pos e]
        · rw [if_neg e]
      · unfold k11_both_5
        rw [tm, some_bind]
        dsimp only
        rw [if_pos rfl]
theorem both_spec {dep a b : Nat} (hT : Toks T 0 K kd ps sz nm) (hV : Spec T K B kd ps sz nm 2 2 dep a b) : Spec T K B kd ps sz nm 1 1 dep (a + 1) (b + 1) := by
  have hK := hT.2.1
  intro f0 f1 gG gm p L n ha hb hG hM hctx
  obtain ⟨f0, rfl⟩ : ∃ z, f0 = z + 1 := ⟨f0 - 1, by omega⟩
  obtain ⟨f1, rfl⟩ : ∃ z, f1 = z + 1 := ⟨f1 - 1, by omega⟩
  show Out T K B kd ps sz nm (kb0_both (kG0 f0) (nI dep) gG) (kb11_both (kG1 f1) gm) L n p dep gG gm
  unfold kb0_both kb11_both
  rcases hV f0 f1 gG gm p L n (by omega) (by omega) hG hM hctx with ⟨gG', gm', p', n', r', x1, x2, x3⟩ | ⟨gG', gm', q, n', u, x1, x2, x3⟩
  · obtain ⟨y1, y2, y3, y4, y5, y6, y7, y8, y9⟩ := x3
    have hpp := y2.2.1
    rw [x1, x2, some_bind, some_bind]
    dsimp only
    rw [if_neg (show ¬ (1 : Int32) = 0 by decide), bd_eq, show (0 : Int32) = nI 0 from rfl]
    exact both_loop hT hV (K - p') p' (by omega) f0 f1 FU FU 0 L n n' r' p gG gm gG' gm' (by omega) (by omega) (by unfold FU; omega) (by unfold FU; omega) (by omega) (by omega) y2 y3 y4 y5 y1 y6 y7 y8 y9
  · have hw := x3.2.2.2.1.1
    rw [x1, x2, some_bind, some_bind]
    dsimp only
    rw [if_pos rfl, bd_eq]
    exact Or.inr ⟨gG', gm', q, n', _, rfl, wb5 hw 99999, x3⟩
theorem test_loop {dep a b : Nat} (hT : Toks T 0 K kd ps sz nm) (hV : Spec T K B kd ps sz nm 1 1 dep a b) : ∀ (d p : Nat), K = p + d → ∀ (f0 f1 fc fm i L n n1 r p0 : Nat) (gG gm gG1 gm1 : G), a ≤ f0 → b ≤ f1 → d < fc → d < fm → i ≤ p → i + d ≤ 400 → PG T K B kd ps sz nm p (L + (n1 - n)) gG1 → PM T K B kd ps sz nm p n1 dep gm1 → n ≤ n1 → n1 - n ≤ p - p0 → (p0 < p ∧ ms kd nm p = ms kd nm p0) → kd (p - 1) ≠ 2 → SR K kd nm (sameN B ps sz) L n p n1 r gG1 gm1 → cG L gG gG1 → mG n gm gm1 → Out T K B kd ps sz nm (k0_test_12 (kG0 f0) fc (nI dep) (nI i) gG1) (k11_test_5 (kG1 f1) fm (nI r) gm1) L n p0 dep gG gm := by
  have hK := hT.2.1
  intro d
  induction d using Nat.strongRecOn with
  | _ d ih =>
    intro p hd f0 f1 fc fm i L n n1 r p0 gG gm gG1 gm1 ha hb hfc hfm hi hid hG hM hn hnp hp0 hend hS hcG hmG
    obtain ⟨fc, rfl⟩ : ∃ z, fc = z + 1 := ⟨fc - 1, by omega⟩
    obtain ⟨fm, rfl⟩ : ∃ z, fm = z + 1 := ⟨fm - 1, by omega⟩
    have hpK := hG.2.1
    have tc := take_c hT hG.1 hpK hG.2.2.1 (s := 23) (c := 151) (by decide) (by decide) rfl
    have tm := takes_m1 hT hM.1 hM.2.1 hpK hM.2.2.1 (s := 23) (c := 23) (by decide) rfl
    by_cases hop : kd p = 23
    · have hpK' : p < K := kdK hT hpK hop (by decide) (by decide)
      have i400 : ¬ (400 : Int32) ≤ nI i := fun z => absurd ((lit_le (M := 400) (k := 400) rfl (by omega) (by omega)).mp z) (by omega)
      rw [if_pos hop] at tc tm
      have hG2 := hG.go hpK'
      have hq := quiet (B := B) (ps := ps) (sz := sz) (nm := nm) (kd := kd) (p := p) (by omega) (by omega) (by rw [hop]; rfl)
      have hM2 := hM.go hq
      have hctx : ctxN kd (p + 1) = 0 := ctx_next (by omega) (by omega) (by omega) (by omega) (fun _ => Or.inr hend)
      unfold k0_test_12 k11_test_5
      rw [if_neg i400, tc, tm, some_bind, some_bind]
      dsimp only
      rw [if_neg (show ¬ (1 : Int32) = 0 by decide), if_neg (show ¬ (1 : Int32) = 0 by decide)]
      rcases hV f0 f1 _ _ (p + 1) (L + (n1 - n)) n1 ha hb hG2 hM2 hctx with ⟨gG', gm', p', n', r', x1, x2, y1, y2, y3, y4, y5, y6, y7, y8, y9⟩ | ⟨gG', gm', q, n', u, x1, x2, y1, y2, y3, y4, y5, y6, y7, y8, y9⟩
      · have hL' : L + (n1 - n) + (n' - n1) = L + (n' - n) := by omega
        have hLp : L + (n1 - n) ≤ p := hG.2.2.2.2
        have hnp1 : n1 ≤ p := hM.2.2.2.2.2.1
        rw [hL'] at y2
        have hpp := y2.2.1
        rw [x1, x2, some_bind, some_bind]
        dsimp only
        rw [if_neg (show ¬ (1 : Int32) = 0 by decide), y2.1, write_c y2.2.2.2.1 (by omega), some_bind, bd_eq, nI_1, node_m y3.2.2.2.2.1 (by omega), some_bind, bd_eq]
        have hb2 := SR.bin (s := 23) (v := nI p') hS y7 (by omega) ((at_fr (L := L + (n1 - n))).trans (Nat.le_refl _) y8) ((tok_fr (n := n1)).trans (Nat.le_refl _) y9) (by decide) rfl (by unfold ofMirror; decide)
        have hPG := y2.aS (c := nI (stepOf 23)) (v := nI p') (by omega)
        have hPM := y3.aN (s := nI 23) (l := nI r) (r := nI r') (by omega)
        rw [show L + (n' - n) + 1 = L + (n' + 1 - n) by omega] at hPG
        exact ih (K - p') (by omega) p' (by omega) f0 f1 fc fm (i + 1) L n (n' + 1) n' p0 gG gm _ _ ha hb (by omega) (by omega) (by omega) (by omega) hPG hPM (by omega) (by omega) ⟨by omega, y1.2.trans (hq.2.trans hp0.2)⟩ y6 hb2 ((hcG.trans (show L ≤ L + (n1 - n) by omega) ((at_fr (L := L + (n1 - n))).trans (Nat.le_refl _) y8)).trans (show L ≤ L + (n' - n) by omega) addS_fr) ((hmG.trans hn ((tok_fr (n := n1)).trans (Nat.le_refl _) y9)).trans (show n ≤ n' by omega) addN_fr)
      · have hnp1 : n1 ≤ p := hM.2.2.2.2.2.1
        rw [x1, x2, some_bind, some_bind]
        dsimp only
        rw [if_pos rfl, node_m y5 (by omega), some_bind, bd_eq]
        obtain ⟨fm, rfl⟩ : ∃ z, fm = z + 1 := ⟨fm - 1, by omega⟩
        have hw : WM q (addN n' 23 (nI r) u gm') := y4.aN
        rw [wt5 hw.1]
        refine Or.inr ⟨gG', _, q, n' + 1, _, rfl, rfl, ?_⟩
        exact ⟨by omega, y2, y3, hw, rfl, by omega, by omega, hcG.trans (show L ≤ L + (n1 - n) by omega) ((at_fr (L := L + (n1 - n))).trans (Nat.le_refl _) y8), (hmG.trans hn ((tok_fr (n := n1)).trans (Nat.le_refl _) y9)).trans (show n ≤ n' by omega) addN_fr⟩
    · rw [if_neg hop] at tc tm
      refine Or.inl ⟨gG1, gm1, p, n1, r, ?_, ?_, hp0, hG, hM, hn, hnp, hend, hS, hcG, hmG⟩
      · unfold k0_test_12
        rw [tc, some_bind]
        dsimp only
        rw [if_pos rfl]
        by_cases e : (400 : Int32) ≤ nI i
        · rw [if_pos e]
        · rw [if_neg e]
      · unfold k11_test_5
        rw [tm, some_bind]
        dsimp only
        rw [if_pos rfl]
theorem test_spec {dep a b : Nat} (hT : Toks T 0 K kd ps sz nm) (hV : Spec T K B kd ps sz nm 1 1 dep a b) : Spec T K B kd ps sz nm 0 0 dep (a + 1) (b + 1) := by
  have hK := hT.2.1
  intro f0 f1 gG gm p L n ha hb hG hM hctx
  obtain ⟨f0, rfl⟩ : ∃ z, f0 = z + 1 := ⟨f0 - 1, by omega⟩
  obtain ⟨f1, rfl⟩ : ∃ z, f1 = z + 1 := ⟨f1 - 1, by omega⟩
  show Out T K B kd ps sz nm (kb0_test (kG0 f0) (nI dep) gG) (kb11_test (kG1 f1) gm) L n p dep gG gm
  unfold kb0_test kb11_test
  rcases hV f0 f1 gG gm p L n (by omega) (by omega) hG hM hctx with ⟨gG', gm', p', n', r', x1, x2, x3⟩ | ⟨gG', gm', q, n', u, x1, x2, x3⟩
  · obtain ⟨y1, y2, y3, y4, y5, y6, y7, y8, y9⟩ := x3
    have hpp := y2.2.1
    rw [x1, x2, some_bind, some_bind]
    dsimp only
    rw [if_neg (show ¬ (1 : Int32) = 0 by decide), bd_eq, show (0 : Int32) = nI 0 from rfl]
    exact test_loop hT hV (K - p') p' (by omega) f0 f1 FU FU 0 L n n' r' p gG gm gG' gm' (by omega) (by omega) (by unfold FU; omega) (by unfold FU; omega) (by omega) (by omega) y2 y3 y4 y5 y1 y6 y7 y8 y9
  · have hw := x3.2.2.2.1.1
    rw [x1, x2, some_bind, some_bind]
    dsimp only
    rw [if_pos rfl, bd_eq]
    exact Or.inr ⟨gG', gm', q, n', _, rfl, wt5 hw 99999, x3⟩
/-- not, brackets -/
theorem not_out {gG gm : G} {p L n dep e f0 f1 : Nat} (hT : Toks T 0 K kd ps sz nm) (hde : dep + e = 8) (hV : ∀ e', e = e' + 1 → Spec T K B kd ps sz nm 2 2 (dep + 1) (5 + 4 * e') (9 + 4 * e')) (hf0 : 4 + 4 * e ≤ f0) (hf1 : 8 + 4 * e ≤ f1) (hG : PG T K B kd ps sz nm p L gG) (hM : PM T K B kd ps sz nm p n dep gm) (hm : kd p = 21) : Out T K B kd ps sz nm (kb0_single (kG0 f0) (nI dep) gG) (kb11_single (kG1 f1) gm) L n p dep gG gm := by
  have hK := hT.2.1
  have hpK := hG.2.1
  have hp : p < K := kdK hT hpK hm (by omega) (by omega)
  have hn := hM.2.2.2.2.2.1
  have hcls : kb0_single (kG0 f0) (nI dep) gG = if 8 ≤ nI dep then some (0, gG) else (k0_take 149 gG).bind fun u25 => if u25.1 = 0 then some (0, u25.2) else (kG0 f0 2 (nI dep + 1) 0 u25.2).bind fun u27 => if u27.1 = 0 then some (0, u27.2) else (k2_write 8 149 (u27.2 13 2) u27.2).bind fun g29 => some (1, g29) := by
    unfold kb0_single
    rw [hG.1, kindAt_n hT hG.2.2.1 hpK, some_bind, hm, if_neg (by decide), if_neg (by decide), if_neg (by decide), if_pos (by decide)]
  have hmdl : kb11_single (kG1 f1) gm = (k11_deeper gm).bind fun g18 => (kG1 f1 2 0 0 g18).bind fun u19 => bd u19.1 fun x20 => bd (up u19.2 47 12 ((u19.2 47 12) - 1)) fun g21 => (k11_node 21 x20 0 g21).bind fun u22 => some (u22.1, u22.2) := by
    unfold kb11_single
    rw [is_m hT hM.1 hM.2.1 hpK hM.2.2.1 (s := 21) (c := 21) (by decide) rfl, if_pos hm, some_bind, if_neg (by decide)]
  rw [hcls, hmdl, deeper_m hM (by omega), some_bind]
  by_cases h8 : dep = 8
  · have hw : WM p (up (wr p gm) 47 12 (nI (dep + 1))) := (wr_WM hM.1).deep
    obtain ⟨f1, rfl⟩ : ∃ z, f1 = z + 5 := ⟨f1 - 5, by omega⟩
    have h66 : (up (wr p gm) 47 12 (nI (dep + 1))) 66 12 = nI n := by rw [up_other (by decide)]; exact wr_n hM.2.2.2.2.1
    rw [if_pos ((lit_le (M := 8) (k := 8) rfl (by omega) (by omega)).mpr (by omega)), if_pos h8, wsingle hw (by omega), some_bind, bd_eq, bd_eq]
    dsimp only
    rw [node_m (n := n) (by rw [up_other (by decide)]; exact h66) (by omega), some_bind]
    refine Or.inr ⟨gG, _, p, n + 1, _, rfl, rfl, ?_⟩
    exact fail_here hG hw.deep.aN rfl (by omega) (Nat.le_refl _) (((wr_fr.trans (Nat.le_refl n) deep_fr).trans (Nat.le_refl n) deep_fr).trans (Nat.le_refl n) addN_fr)
  · obtain ⟨e', rfl⟩ : ∃ z, e = z + 1 := ⟨e - 1, by omega⟩
    have hq := quiet (B := B) (ps := ps) (sz := sz) (nm := nm) (kd := kd) (p := p) (by omega) (by omega) (by rw [hm]; rfl)
    have hM1 := (hM.go hq).deep (dep' := dep + 1)
    have hG1 := hG.go hp
    have hctx : ctxN kd (p + 1) = 0 := ctx_next (by omega) (by omega) (by omega) (by omega) (fun z => by omega)
    have fm1 : mG n gm (up (up gm 47 8 (nI (p + 1))) 47 12 (nI (dep + 1))) := tok_fr.trans (Nat.le_refl n) deep_fr
    rw [if_neg (fun z => absurd ((lit_le (M := 8) (k := 8) rfl (by omega) (by omega)).mp z) (by omega)), if_neg h8, take_c hT hG.1 hpK hG.2.2.1 (s := 21) (c := 149) (by decide) (by decide) rfl, if_pos hm, some_bind]
    dsimp only
    rw [if_neg (show ¬ (1 : Int32) = 0 by decide), nI_1]
    rcases hV e' rfl f0 f1 _ _ (p + 1) L n (by omega) (by omega) hG1 hM1 hctx with ⟨gG', gm', p', n', r', x1, x2, y1, y2, y3, y4, y5, y6, y7, y8, y9⟩ | ⟨gG', gm', q, n', u, x1, x2, y1, y2, y3, y4, y5, y6, y7, y8, y9⟩
    · have hL := hG.2.2.2.2
      have hp'K := y2.2.1
      have hd : gm' 47 12 - 1 = nI dep := by rw [y3.2.2.2.1, nI_pred]
      rw [x1, x2, some_bind, some_bind, bd_eq, bd_eq]
      dsimp only
      rw [if_neg (show ¬ (1 : Int32) = 0 by decide), y2.1, write_c y2.2.2.2.1 (by omega), some_bind, hd]
      have hM2 := y3.deep (dep' := dep)
      rw [node_m hM2.2.2.2.2.1 (by omega), some_bind]
      have hS2 := SR.una (s := 21) (v := nI p') (y7.fr (Nat.le_refl p') (fun i _ => ⟨rfl, rfl⟩) (gm' := up gm' 47 12 (nI dep)) (fun a i a1 a2 hi => by rw [up_ne (by omega)])) (by decide) rfl (by unfold ofMirror; decide)
      have hPG := y2.aS (c := nI (stepOf 21)) (v := nI p') (by omega)
      rw [show L + (n' - n) + 1 = L + (n' + 1 - n) by omega] at hPG
      exact Or.inl ⟨_, _, p', n' + 1, n', rfl, rfl, ⟨by omega, y1.2.trans hq.2⟩, hPG, hM2.aN (by omega), by omega, by omega, y6, hS2, (at_fr.trans (Nat.le_refl L) y8).trans (show L ≤ L + (n' - n) by omega) addS_fr, ((fm1.trans (Nat.le_refl n) y9).trans (Nat.le_refl n) deep_fr).trans y4 addN_fr⟩
    · rw [x1, x2, some_bind, some_bind, bd_eq, bd_eq]
      dsimp only
      rw [if_pos rfl, node_m (n := n') (by rw [up_other (by decide)]; exact y5) (by omega), some_bind]
      refine Or.inr ⟨gG', _, q, n' + 1, _, rfl, rfl, ?_⟩
      exact ⟨by omega, y2, y3, y4.deep.aN, rfl, by omega, by omega, at_fr.trans (Nat.le_refl L) y8, ((fm1.trans (Nat.le_refl n) y9).trans (Nat.le_refl n) deep_fr).trans y6 addN_fr⟩
theorem squ_out {gG gm : G} {p L n dep e f0 f1 : Nat} (hT : Toks T 0 K kd ps sz nm) (hde : dep + e = 8) (hS : ∀ e', e = e' + 1 → Spec T K B kd ps sz nm 0 0 (dep + 1) (7 + 4 * e') (11 + 4 * e')) (hf0 : 4 + 4 * e ≤ f0) (hf1 : 8 + 4 * e ≤ f1) (hG : PG T K B kd ps sz nm p L gG) (hM : PM T K B kd ps sz nm p n dep gm) (hm : kd p = 51) : Out T K B kd ps sz nm (kb0_single (kG0 f0) (nI dep) gG) (kb11_single (kG1 f1) gm) L n p dep gG gm := by
  have hK := hT.2.1
  have hpK := hG.2.1
  have hp : p < K := kdK hT hpK hm (by omega) (by omega)
  have hcls : kb0_single (kG0 f0) (nI dep) gG = if 8 ≤ nI dep then some (0, gG) else (k0_take 91 gG).bind fun u8 => if u8.1 = 0 then some (0, u8.2) else (kG0 f0 0 (nI dep + 1) 0 u8.2).bind fun u10 => if u10.1 = 0 then some (0, u10.2) else (k0_take 93 u10.2).bind fun u12 => if u12.1 = 0 then some (0, u12.2) else some (1, u12.2) := by
    unfold kb0_single
    rw [hG.1, kindAt_n hT hG.2.2.1 hpK, some_bind, hm, if_pos (by decide)]
  have hmdl : kb11_single (kG1 f1) gm = (k11_deeper gm).bind fun g13 => (kG1 f1 0 0 0 g13).bind fun u14 => bd u14.1 fun x15 => (k11_take 52 u14.2).bind fun g16 => bd (up g16 47 12 ((g16 47 12) - 1)) fun g17 => some (x15, g17) := by
    unfold kb11_single
    rw [is_m hT hM.1 hM.2.1 hpK hM.2.2.1 (s := 21) (c := 21) (by decide) rfl, if_neg (by omega), some_bind, if_pos rfl, is_m hT hM.1 hM.2.1 hpK hM.2.2.1 (s := 51) (c := 51) (by decide) rfl, if_pos hm, some_bind, if_neg (by decide)]
  rw [hcls, hmdl, deeper_m hM (by omega), some_bind]
  by_cases h8 : dep = 8
  · have hw : WM p (up (wr p gm) 47 12 (nI (dep + 1))) := (wr_WM hM.1).deep
    obtain ⟨f1, rfl⟩ : ∃ z, f1 = z + 7 := ⟨f1 - 7, by omega⟩
    rw [if_pos ((lit_le (M := 8) (k := 8) rfl (by omega) (by omega)).mpr (by omega)), if_pos h8, wtest hw (by omega), some_bind, bd_eq]
    dsimp only
    rw [take_w hw.1, some_bind, bd_eq]
    refine Or.inr ⟨gG, _, p, n, _, rfl, rfl, ?_⟩
    exact fail_here hG (hw.deep) (by rw [up_other (by decide), up_other (by decide)]; exact wr_n hM.2.2.2.2.1) (Nat.le_refl n) (by omega) ((wr_fr.trans (Nat.le_refl n) deep_fr).trans (Nat.le_refl n) deep_fr)
  · obtain ⟨e', rfl⟩ : ∃ z, e = z + 1 := ⟨e - 1, by omega⟩
    have hq := quiet (B := B) (ps := ps) (sz := sz) (nm := nm) (kd := kd) (p := p) (by omega) (by omega) (by rw [hm]; rfl)
    have hM1 := (hM.go hq).deep (dep' := dep + 1)
    have hG1 := hG.go hp
    have hctx : ctxN kd (p + 1) = 0 := ctx_next (by omega) (by omega) (by omega) (by omega) (fun z => by omega)
    have fm1 : mG n gm (up (up gm 47 8 (nI (p + 1))) 47 12 (nI (dep + 1))) := tok_fr.trans (Nat.le_refl n) deep_fr
    rw [if_neg (fun z => absurd ((lit_le (M := 8) (k := 8) rfl (by omega) (by omega)).mp z) (by omega)), if_neg h8, take_c hT hG.1 hpK hG.2.2.1 (s := 51) (c := 91) (by decide) (by decide) rfl, if_pos hm, some_bind]
    dsimp only
    rw [if_neg (show ¬ (1 : Int32) = 0 by decide), nI_1]
    rcases hS e' rfl f0 f1 _ _ (p + 1) L n (by omega) (by omega) hG1 hM1 hctx with ⟨gG', gm', p', n', r', x1, x2, y1, y2, y3, y4, y5, y6, y7, y8, y9⟩ | ⟨gG', gm', q, n', u, x1, x2, y1, y2, y3, y4, y5, y6, y7, y8, y9⟩
    · rw [x1, x2, some_bind, some_bind, bd_eq]
      dsimp only
      rw [if_neg (show ¬ (1 : Int32) = 0 by decide), take_c hT y2.1 y2.2.1 y2.2.2.1 (s := 52) (c := 93) (by decide) (by decide) rfl, take_m1 hT y3.1 y3.2.1 y2.2.1 y3.2.2.1 (s := 52) (c := 52) (by decide) rfl]
      by_cases e50 : kd p' = 52
      · have hp' : p' < K := kdK hT y2.2.1 e50 (by decide) (by decide)
        have hq' := quiet (B := B) (ps := ps) (sz := sz) (nm := nm) (kd := kd) (p := p') (by omega) (by omega) (by rw [e50]; rfl)
        have hd : (up gm' 47 8 (nI (p' + 1))) 47 12 - 1 = nI dep := by
          rw [up_slot (by decide), y3.2.2.2.1, nI_pred]
        rw [if_pos e50, if_pos e50, some_bind, some_bind]
        dsimp only
        rw [if_neg (show ¬ (1 : Int32) = 0 by decide), bd_eq, hd]
        refine Or.inl ⟨_, _, p' + 1, n', r', rfl, rfl, ⟨by omega, hq'.2.trans (y1.2.trans hq.2)⟩, y2.go hp', (y3.go hq').deep, y4, by omega, by show kd p' ≠ 2; omega, y7.fr (by omega) (fun i hi => at_fr.2.2.2 i hi) (fun a i a1 a2 hi => ?_), (at_fr.trans (Nat.le_refl L) y8).trans (Nat.le_refl L) at_fr, (fm1.trans (Nat.le_refl n) y9).trans (Nat.le_refl n) (tok_fr.trans (Nat.le_refl n) deep_fr)⟩
        rw [up_ne (by omega), up_ne (by omega)]
      · have hw : WM p' (wr p' gm') := wr_WM y3.1
        rw [if_neg e50, if_neg e50, some_bind, some_bind]
        dsimp only
        rw [if_pos rfl, bd_eq]
        refine Or.inr ⟨gG', _, p', n', _, rfl, rfl, ?_⟩
        exact ⟨by omega, y2.2.1, y2.1, hw.deep, by rw [up_other (by decide)]; exact wr_n y3.2.2.2.2.1, y4, by omega, at_fr.trans (Nat.le_refl L) y8, ((fm1.trans (Nat.le_refl n) y9).trans (Nat.le_refl n) wr_fr).trans (Nat.le_refl n) deep_fr⟩
    · rw [x1, x2, some_bind, some_bind, bd_eq]
      dsimp only
      rw [if_pos rfl, take_w y4.1, some_bind, bd_eq]
      refine Or.inr ⟨gG', _, q, n', _, rfl, rfl, ?_⟩
      exact ⟨by omega, y2, y3, y4.deep, by rw [up_other (by decide)]; exact y5, y6, by omega, at_fr.trans (Nat.le_refl L) y8, (fm1.trans (Nat.le_refl n) y9).trans (Nat.le_refl n) deep_fr⟩
/-- the reference's single test that is neither of these -/
theorem sgl_m {gm : G} {p n dep f1 : Nat} (hT : Toks T 0 K kd ps sz nm) (hM : PM T K B kd ps sz nm p n dep gm) (hpK : p ≤ K) (h21 : kd p ≠ 21) (h51 : kd p ≠ 51) (h19 : kd p ≠ 19) (h20 : kd p ≠ 20) : kb11_single (kG1 f1) gm = (kG1 f1 3 0 0 gm).bind fun u9 => some (u9.1, u9.2) := by
  unfold kb11_single
  rw [is_m hT hM.1 hM.2.1 hpK hM.2.2.1 (s := 21) (c := 21) (by decide) rfl, if_neg h21, some_bind, if_pos rfl, is_m hT hM.1 hM.2.1 hpK hM.2.2.1 (s := 51) (c := 51) (by decide) rfl, if_neg h51, some_bind, if_pos rfl, takes_m1 hT hM.1 hM.2.1 hpK hM.2.2.1 (s := 19) (c := 19) (by decide) rfl, if_neg h19, some_bind]
  dsimp only
  rw [if_pos rfl, takes_m1 hT hM.1 hM.2.1 hpK hM.2.2.1 (s := 20) (c := 20) (by decide) rfl, if_neg h20, some_bind]
  dsimp only
  rw [if_pos rfl]
theorem seen_out {gG gm : G} {p L n dep f0 f1 : Nat} (hT : Toks T 0 K kd ps sz nm) (hG : PG T K B kd ps sz nm p L gG) (hM : PM T K B kd ps sz nm p n dep gm) (hm : kd p = 19) : Out T K B kd ps sz nm (kb0_single (kG0 f0) (nI dep) gG) (kb11_single (kG1 f1) gm) L n p dep gG gm := by
  have hK := hT.2.1
  have hpK := hG.2.1
  have hp : p < K := kdK hT hpK hm (by omega) (by omega)
  have hn := hM.2.2.2.2.2.1
  have hL := hG.2.2.2.2
  have hq := quiet (B := B) (ps := ps) (sz := sz) (nm := nm) (kd := kd) (p := p) (by omega) (by omega) (by rw [hm]; rfl)
  have hM1 := hM.go hq
  obtain ⟨w1, w2, w3⟩ := hG.wr (c := 147) (v := nI p)
  have hcls : kb0_single (kG0 f0) (nI dep) gG = some (1, up (addS L 147 (nI p) gG) 13 2 (nI (p + 1))) := by
    unfold kb0_single
    rw [hG.1, kindAt_n hT hG.2.2.1 hpK, some_bind, hm, if_neg (by decide), if_pos (by decide), write_c hG.2.2.2.1 (by omega), some_bind, take_c hT w1 hpK w2 (s := 19) (c := 147) (by decide) (by decide) rfl, if_pos hm, some_bind]
    exact zr_01 (Or.inr rfl)
  have hmdl : kb11_single (kG1 f1) gm = some (nI n, addN n (nI 19) 0 0 (up gm 47 8 (nI (p + 1)))) := by
    unfold kb11_single
    rw [is_m hT hM.1 hM.2.1 hpK hM.2.2.1 (s := 21) (c := 21) (by decide) rfl, if_neg (by omega), some_bind, if_pos rfl, is_m hT hM.1 hM.2.1 hpK hM.2.2.1 (s := 51) (c := 51) (by decide) rfl, if_neg (by omega), some_bind, if_pos rfl, takes_m1 hT hM.1 hM.2.1 hpK hM.2.2.1 (s := 19) (c := 19) (by decide) rfl, if_pos hm, some_bind]
    dsimp only
    rw [if_neg (by decide), node_m (n := n) (by rw [up_other (by decide)]; exact hM.2.2.2.2.1) (by omega), some_bind]
    rfl
  rw [hcls, hmdl]
  refine Or.inl ⟨_, _, p + 1, n + 1, n, rfl, rfl, leaf_good (s := 19) (v := nI p) hG hM1 tok_fr hn hq.2 (by omega) (by omega) (by show kd p ≠ 2; omega) (by decide) rfl (fun z => ?_) (fun z => by omega) up_self (fun a ha => ?_) (fun k hk => ?_)⟩
  · exact absurd z (by unfold ofMirror; decide)
  · rw [up_ne ha]; rfl
  · rw [up_slot hk]
    exact addS_fr.2.2.1 k hk
theorem waits_out {gG gm : G} {p L n dep f0 f1 : Nat} (hB : Bok T B) (hT : Toks T 0 K kd ps sz nm) (hG : PG T K B kd ps sz nm p L gG) (hM : PM T K B kd ps sz nm p n dep gm) (hm : kd p = 20) : Out T K B kd ps sz nm (kb0_single (kG0 f0) (nI dep) gG) (kb11_single (kG1 f1) gm) L n p dep gG gm := by
  have hK := hT.2.1
  have hpK := hG.2.1
  have hp : p < K := kdK hT hpK hm (by omega) (by omega)
  have hn := hM.2.2.2.2.2.1
  have hL := hG.2.2.2.2
  have hq := quiet (B := B) (ps := ps) (sz := sz) (nm := nm) (kd := kd) (p := p) (by omega) (by omega) (by rw [hm]; rfl)
  have hM1 := hM.go hq
  obtain ⟨w1, w2, w3⟩ := hG.wr (c := 148) (v := nI (p + 1))
  have cA : cG L gG (up (addS L 148 (nI (p + 1)) gG) 13 2 (nI (p + 1))) := addS_fr.trans (Nat.le_refl L) at_fr
  have hcls : kb0_single (kG0 f0) (nI dep) gG = (k0_take 2 (up (addS L 148 (nI (p + 1)) gG) 13 2 (nI (p + 1)))).bind fun u21 => if u21.1 = 0 then some (0, u21.2) else some (1, u21.2) := by
    unfold kb0_single
    rw [hG.1, kindAt_n hT hG.2.2.1 hpK, some_bind, hm, if_neg (by decide), if_neg (by decide), if_pos (by decide), nI_1, write_c hG.2.2.2.1 (by omega), some_bind, take_c hT w1 hpK w2 (s := 20) (c := 148) (by decide) (by decide) rfl, if_pos hm, some_bind]
    dsimp only
    rw [if_neg (show ¬ (1 : Int32) = 0 by decide)]
  have hmdl : kb11_single (kG1 f1) gm = (k11_name (up gm 47 8 (nI (p + 1)))).bind fun u10 => (k11_node 20 u10.1 0 u10.2).bind fun u11 => some (u11.1, u11.2) := by
    unfold kb11_single
    rw [is_m hT hM.1 hM.2.1 hpK hM.2.2.1 (s := 21) (c := 21) (by decide) rfl, if_neg (by omega), some_bind, if_pos rfl, is_m hT hM.1 hM.2.1 hpK hM.2.2.1 (s := 51) (c := 51) (by decide) rfl, if_neg (by omega), some_bind, if_pos rfl, takes_m1 hT hM.1 hM.2.1 hpK hM.2.2.1 (s := 19) (c := 19) (by decide) rfl, if_neg (by omega), some_bind]
    dsimp only
    rw [if_pos rfl, takes_m1 hT hM.1 hM.2.1 hpK hM.2.2.1 (s := 20) (c := 20) (by decide) rfl, if_pos hm, some_bind]
    dsimp only
    rw [if_neg (by decide)]
  rw [hcls, hmdl, take_c hT up_self (by omega) (hG.2.2.1.cG cA) (s := 30) (c := 2) (by decide) (by decide) rfl]
  by_cases e30 : kd (p + 1) = 30
  · have hp1 : p + 1 < K := kdK hT (by omega) e30 (by decide) (by decide)
    obtain ⟨gm3, m, a1, a2, a3, a4, a5⟩ := name_m hB hT hM1 (by omega) e30 (newB_f (by omega))
    rw [if_pos e30, some_bind, a1, some_bind]
    dsimp only
    rw [if_neg (show ¬ (1 : Int32) = 0 by decide), node_m a2.2.2.2.2.1 (by omega), some_bind]
    refine Or.inl ⟨_, _, p + 1 + 1, n + 1, n, rfl, rfl, leaf_good (s := 20) (v := nI (p + 1)) hG a2 (tok_fr.trans (Nat.le_refl n) a3) hn ((ms_name e30 (newB_f (by omega))).trans hq.2) (by omega) (by omega) (by show kd (p + 1) ≠ 2; omega) (by decide) rfl (fun _ => ⟨p + 1, by omega, hp1, e30, newB_f (by omega), rfl, fun z => ⟨m, a4 z, rfl⟩⟩) (fun z => by omega) up_self (fun a ha => ?_) (fun k hk => ?_)⟩
    · rw [up_ne ha, up_ne ha]; rfl
    · rw [up_slot hk, up_slot hk]
      exact addS_fr.2.2.1 k hk
  · rw [if_neg e30, some_bind, name_bad hT hM1 (by omega) e30, some_bind]
    dsimp only
    rw [if_pos rfl, node_m (n := n) (wr_n hM1.2.2.2.2.1) (by omega), some_bind]
    refine Or.inr ⟨_, _, p + 1, n + 1, _, rfl, rfl, ?_⟩
    exact ⟨by omega, by omega, up_self, (wr_WM hM1.1).aN, rfl, by omega, by omega, cA, (tok_fr.trans (Nat.le_refl n) wr_fr).trans (Nat.le_refl n) addN_fr⟩
/-- two sums compared -/
theorem cmp_out {gG gm : G} {p L n dep e f0 f1 : Nat} (hT : Toks T 0 K kd ps sz nm) (hS : Spec T K B kd ps sz nm 3 4 dep (4 + 4 * e) (7 + 4 * e)) (hf0 : 4 + 4 * e ≤ f0) (hf1 : 8 + 4 * e ≤ f1) (hG : PG T K B kd ps sz nm p L gG) (hM : PM T K B kd ps sz nm p n dep gm) (hctx : ctxN kd p = 0) (h21 : kd p ≠ 21) (h51 : kd p ≠ 51) (h19 : kd p ≠ 19) (h20 : kd p ≠ 20) : Out T K B kd ps sz nm (kb0_single (kG0 f0) (nI dep) gG) (kb11_single (kG1 f1) gm) L n p dep gG gm := by
  have hK := hT.2.1
  have hpK := hG.2.1
  have hn := hM.2.2.2.2.2.1
  have hL := hG.2.2.2.2
  obtain ⟨f1, rfl⟩ : ∃ z, f1 = z + 1 := ⟨f1 - 1, by omega⟩
  have kl : ∀ {s : Nat} {c : Int32}, okB s = true → s < 64 → c = nI (kap s) → kd p ≠ s → ¬ nI (kap (kd p)) = c := fun a b c d z => d ((kap_lit hT hpK a b c).mp z)
  rw [sgl_m hT hM hpK h21 h51 h19 h20]
  unfold kb0_single
  rw [hG.1, kindAt_n hT hG.2.2.1 hpK, some_bind, if_neg (kl (s := 51) (c := 91) (by decide) (by decide) rfl h51), if_neg (kl (s := 19) (c := 147) (by decide) (by decide) rfl h19), if_neg (kl (s := 20) (c := 148) (by decide) (by decide) rfl h20), if_neg (kl (s := 21) (c := 149) (by decide) (by decide) rfl h21)]
  show Out T K B kd ps sz nm _ ((kb11_comparison (kG1 f1) gm).bind _) L n p dep gG gm
  unfold kb11_comparison
  rcases hS f0 f1 gG gm p L n (by omega) (by omega) hG hM hctx with ⟨gG1, gm1, p1, n1, r1, x1, x2, y1, y2, y3, y4, y5, y6, y7, y8, y9⟩ | ⟨gG1, gm1, q, n1, u, x1, x2, y1, y2, y3, y4, y5, y6, y7, y8, y9⟩
  · have hp1K := y2.2.1
    have tk := fun (s : Nat) (c : Int32) (h1 : okB s = true) (h2 : s < 64) (h3 : c = nI (kap s)) => take_c hT y2.1 hp1K y2.2.2.1 (s := s) (c := c) h1 h2 h3
    have hk32 : nI (kd p1) < 44 ↔ kd p1 < 44 := nI_ltI (b := 44) (by have := (hT.ok hp1K).2; omega) (by omega)
    have hk48 : 48 < nI (kd p1) ↔ 48 < kd p1 := nI_ltI (a := 48) (by omega) (by have := (hT.ok hp1K).2; omega)
    rw [x1, x2, some_bind, some_bind, bd_eq]
    dsimp only
    rw [if_neg (show ¬ (1 : Int32) = 0 by decide), y2.1, kindAt_n hT y2.2.2.1 hp1K, some_bind, y3.1, ld_n (by omega) (by omega), (y3.2.2.1.2.1 p1 (by omega) hp1K).1, if_pos y3.2.1, k11_isIn_n, some_bind, tk 44 60 (by decide) (by decide) rfl]
    by_cases hc : 44 ≤ kd p1 ∧ kd p1 ≤ 48
    · have hp1K' : p1 < K := kdK hT hp1K rfl (by omega) (by omega)
      have hcls : ∀ R : Nat → Int32 → Int32 → G → Option (Int32 × G), ((if kd p1 = 44 then some (1, up gG1 13 2 (nI (p1 + 1))) else some ((0 : Int32), gG1)).bind fun u33 => if u33.1 = 0 then (k0_take 62 u33.2).bind fun u35 => if u35.1 = 0 then (k0_take 61 u35.2).bind fun u37 => if u37.1 = 0 then (k0_take 4 u37.2).bind fun u39 => if u39.1 = 0 then (k0_take 5 u39.2).bind fun u41 => if u41.1 = 0 then k0_single_272 R (nI dep) (nI (kap (kd p1))) 0 u41.2 else k0_single_272 R (nI dep) (nI (kap (kd p1))) 1 u41.2 else k0_single_272 R (nI dep) (nI (kap (kd p1))) 1 u39.2 else k0_single_272 R (nI dep) (nI (kap (kd p1))) 1 u37.2 else k0_single_272 R (nI dep) (nI (kap (kd p1))) 1 u35.2 else k0_single_272 R (nI dep) (nI (kap (kd p1))) 1 u33.2) = k0_single_272 R (nI dep) (nI (kap (kd p1))) 1 (up gG1 13 2 (nI (p1 + 1))) := by
        intro R
        by_cases e44 : kd p1 = 44
        · rw [if_pos e44, some_bind]
          dsimp only
          rw [if_neg (by decide)]
        · rw [if_neg e44, some_bind]
          dsimp only
          rw [if_pos rfl, tk 45 62 (by decide) (by decide) rfl]
          by_cases e45 : kd p1 = 45
          · rw [if_pos e45, some_bind]
            dsimp only
            rw [if_neg (by decide)]
          · rw [if_neg e45, some_bind]
            dsimp only
            rw [if_pos rfl, tk 46 61 (by decide) (by decide) rfl]
            by_cases e46 : kd p1 = 46
            · rw [if_pos e46, some_bind]
              dsimp only
              rw [if_neg (by decide)]
            · rw [if_neg e46, some_bind]
              dsimp only
              rw [if_pos rfl, tk 47 4 (by decide) (by decide) rfl]
              by_cases e47 : kd p1 = 47
              · rw [if_pos e47, some_bind]
                dsimp only
                rw [if_neg (by decide)]
              · rw [if_neg e47, some_bind]
                dsimp only
                rw [if_pos rfl, tk 48 5 (by decide) (by decide) rfl, if_pos (by omega), some_bind]
                dsimp only
                rw [if_neg (by decide)]
      have hin : (if nI (kd p1) < 44 then (0 : Int32) else if 48 < nI (kd p1) then 0 else 1) = 1 := by
        rw [if_neg (fun z => absurd (hk32.mp z) (by omega)), if_neg (fun z => absurd (hk48.mp z) (by omega))]
      rw [hcls, hin, if_neg (show ¬ (1 : Int32) = 0 by decide), bd_eq, nI_1]
      have hq := quiet (B := B) (ps := ps) (sz := sz) (nm := nm) (kd := kd) (p := p1) (by omega) (by omega) (by
        rcases (show kd p1 = 44 ∨ kd p1 = 45 ∨ kd p1 = 46 ∨ kd p1 = 47 ∨ kd p1 = 48 by omega) with z | z | z | z | z <;> (rw [z]; rfl))
      have hst : nI (kap (kd p1)) = nI (stepOf (kd p1)) := by
        rcases (show kd p1 = 44 ∨ kd p1 = 45 ∨ kd p1 = 46 ∨ kd p1 = 47 ∨ kd p1 = 48 by omega) with z | z | z | z | z <;> (rw [z]; rfl)
      have hari : ariOf (kd p1) = 2 := by
        rcases (show kd p1 = 44 ∨ kd p1 = 45 ∨ kd p1 = 46 ∨ kd p1 = 47 ∨ kd p1 = 48 by omega) with z | z | z | z | z <;> (rw [z]; rfl)
      have hno : ¬ ofMirror (kd p1) ∧ kd p1 ≠ 31 := by
        unfold ofMirror
        omega
      have hM2 := y3.go hq
      have hG2 := y2.go hp1K'
      have hctx2 : ctxN kd (p1 + 1) = 0 := ctx_next (by omega) (by omega) (by omega) (by omega) (fun z => by omega)
      have hn1p := y3.2.2.2.2.2.1
      have hL1p := y2.2.2.2.2
      unfold k0_single_272
      rw [if_neg (show ¬ (1 : Int32) = 0 by decide)]
      rcases hS f0 f1 _ _ (p1 + 1) (L + (n1 - n)) n1 (by omega) (by omega) hG2 hM2 hctx2 with ⟨gG2, gm2, p2, n2, r2, z1, z2, v1, v2, v3, v4, v5, v6, v7, v8, v9⟩ | ⟨gG2, gm2, q, n2, u, z1, z2, v1, v2, v3, v4, v5, v6, v7, v8, v9⟩
      · have hcB : cG (L + (n1 - n)) gG1 gG2 := at_fr.trans (Nat.le_refl _) v8
        have hmB : mG n1 gm1 gm2 := tok_fr.trans (Nat.le_refl _) v9
        have hL2 : L + (n1 - n) + (n2 - n1) = L + (n2 - n) := by omega
        rw [hL2] at v2
        have hp2K := v2.2.1
        rw [z1, z2, some_bind, some_bind]
        dsimp only
        rw [if_neg (show ¬ (1 : Int32) = 0 by decide), v2.1, hst, write_c v2.2.2.2.1 (by omega), some_bind, node_m v3.2.2.2.2.1 (by omega), some_bind, some_bind]
        have hS2 := SR.bin (v := nI p2) y7 v7 (by omega) hcB hmB (hT.ok hp1K).2 hari hno
        have hPG := v2.aS (c := nI (stepOf (kd p1))) (v := nI p2) (by omega)
        rw [show L + (n2 - n) + 1 = L + (n2 + 1 - n) by omega] at hPG
        exact Or.inl ⟨_, _, p2, n2 + 1, n2, rfl, rfl, ⟨by omega, v1.2.trans (hq.2.trans y1.2)⟩, hPG, v3.aN (by omega), by omega, by omega, v6, hS2, (y8.trans (show L ≤ L + (n1 - n) by omega) hcB).trans (show L ≤ L + (n2 - n) by omega) addS_fr, (y9.trans y4 hmB).trans (show n ≤ n2 by omega) addN_fr⟩
      · have hcB : cG (L + (n1 - n)) gG1 gG2 := at_fr.trans (Nat.le_refl _) v8
        have hmB : mG n1 gm1 gm2 := tok_fr.trans (Nat.le_refl _) v9
        rw [z1, z2, some_bind, some_bind]
        dsimp only
        rw [if_pos rfl, node_m (n := n2) v5 (by omega), some_bind, some_bind]
        refine Or.inr ⟨gG2, _, q, n2 + 1, _, rfl, rfl, ?_⟩
        exact ⟨by omega, v2, v3, v4.aN, rfl, by omega, by omega, y8.trans (show L ≤ L + (n1 - n) by omega) hcB, (y9.trans y4 hmB).trans (show n ≤ n2 by omega) addN_fr⟩
    · have n44 : ¬ kd p1 = 44 := by omega
      have n45 : ¬ kd p1 = 45 := by omega
      have n46 : ¬ kd p1 = 46 := by omega
      have n47 : ¬ kd p1 = 47 := by omega
      have n48 : ¬ kd p1 = 48 := by omega
      have hin : (if nI (kd p1) < 44 then (0 : Int32) else if 48 < nI (kd p1) then 0 else 1) = 0 := by
        by_cases z : kd p1 < 44
        · rw [if_pos (hk32.mpr z)]
        · rw [if_neg (fun y => z (hk32.mp y)), if_pos (hk48.mpr (by omega))]
      rw [if_neg n44, some_bind]
      dsimp only
      rw [if_pos rfl, tk 45 62 (by decide) (by decide) rfl, if_neg n45, some_bind]
      dsimp only
      rw [if_pos rfl, tk 46 61 (by decide) (by decide) rfl, if_neg n46, some_bind]
      dsimp only
      rw [if_pos rfl, tk 47 4 (by decide) (by decide) rfl, if_neg n47, some_bind]
      dsimp only
      rw [if_pos rfl, tk 48 5 (by decide) (by decide) rfl, if_neg n48, some_bind]
      dsimp only
      unfold k0_single_272 k11_comparison_33
      rw [if_pos rfl, if_pos rfl, hin, if_pos rfl, wrong_m y3.1 y3.2.1, some_bind, some_bind]
      refine Or.inr ⟨gG1, wr p1 gm1, p1, n1, _, rfl, rfl, ?_⟩
      exact ⟨by omega, hp1K, y2.1, wr_WM y3.1, wr_n y3.2.2.2.2.1, y4, by omega, y8, y9.trans (Nat.le_refl n) wr_fr⟩
  · rw [x1, x2, some_bind, some_bind, bd_eq]
    dsimp only
    unfold k11_comparison_33
    rw [if_pos rfl, y4.2.1, ld_n (by omega) (by omega), if_neg (by rw [y4.1]; decide), wrong_w y4.1, some_bind, some_bind]
    refine Or.inr ⟨gG1, gm1, q, n1, _, rfl, rfl, ?_⟩
    exact ⟨y1, y2, y3, y4, y5, y6, y7, y8, y9⟩
theorem single_spec {dep e : Nat} (hB : Bok T B) (hT : Toks T 0 K kd ps sz nm) (hde : dep + e = 8) (hTe : ∀ e', e = e' + 1 → Spec T K B kd ps sz nm 0 0 (dep + 1) (7 + 4 * e') (11 + 4 * e')) (hSi : ∀ e', e = e' + 1 → Spec T K B kd ps sz nm 2 2 (dep + 1) (5 + 4 * e') (9 + 4 * e')) (hS : Spec T K B kd ps sz nm 3 4 dep (4 + 4 * e) (7 + 4 * e)) : Spec T K B kd ps sz nm 2 2 dep (5 + 4 * e) (9 + 4 * e) := by
  intro f0 f1 gG gm p L n ha hb hG hM hctx
  obtain ⟨f0, rfl⟩ : ∃ z, f0 = z + 1 := ⟨f0 - 1, by omega⟩
  obtain ⟨f1, rfl⟩ : ∃ z, f1 = z + 1 := ⟨f1 - 1, by omega⟩
  show Out T K B kd ps sz nm (kb0_single (kG0 f0) (nI dep) gG) (kb11_single (kG1 f1) gm) L n p dep gG gm
  by_cases c1 : kd p = 21
  · exact not_out hT hde hSi (by omega) (by omega) hG hM c1
  · by_cases c2 : kd p = 51
    · exact squ_out hT hde hTe (by omega) (by omega) hG hM c2
    · by_cases c3 : kd p = 19
      · exact seen_out hT hG hM c3
      · by_cases c4 : kd p = 20
        · exact waits_out hB hT hG hM c4
        · exact cmp_out hT hS (by omega) (by omega) hG hM hctx c1 c2 c3 c4
/-- tests at every depth -/
theorem tests (hB : Bok T B) (hT : Toks T 0 K kd ps sz nm) : ∀ (e dep : Nat), dep + e = 8 → Spec T K B kd ps sz nm 2 2 dep (5 + 4 * e) (9 + 4 * e) ∧ Spec T K B kd ps sz nm 0 0 dep (7 + 4 * e) (11 + 4 * e) := by
  intro e
  induction e with
  | zero =>
    intro dep hde
    have hv := single_spec (dep := dep) (e := 0) hB hT hde (fun e' z => by omega) (fun e' z => by omega) (sums (dep := 0) (e := 0) hB hT 0 dep hde).2
    exact ⟨hv, test_spec hT (both_spec hT hv)⟩
  | succ e ih =>
    intro dep hde
    obtain ⟨i1, i2⟩ := ih (dep + 1) (by omega)
    have hv := single_spec (dep := dep) (e := e + 1) hB hT hde (fun e' z => by have h : e = e' := (by omega); subst h; exact i2) (fun e' z => by have h : e = e' := (by omega); subst h; exact i1) (sums (dep := 0) (e := 0) hB hT (e + 1) dep hde).2
    exact ⟨hv, by
      have := test_spec hT (both_spec hT hv)
      rw [show 5 + 4 * (e + 1) + 1 + 1 = 7 + 4 * (e + 1) by omega, show 9 + 4 * (e + 1) + 1 + 1 = 11 + 4 * (e + 1) by omega] at this
      exact this⟩
end TK
