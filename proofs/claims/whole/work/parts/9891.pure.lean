/-! teach: min and max, and all values -/
section TK
variable {T K : Nat} {B : Nat → Int32} {kd ps sz nm : Nat → Nat}
theorem pair_out {gG gm : G} {p L n dep e f0 f1 : Nat} (hT : Toks T 0 K kd ps sz nm) (hde : dep + e = 8) (hS : ∀ e', e = e' + 1 → Spec T K B kd ps sz nm 3 4 (dep + 1) (4 + 4 * e') (7 + 4 * e')) (hf0 : 1 + 4 * e ≤ f0) (hf1 : 4 + 4 * e ≤ f1) (hG : PG T K B kd ps sz nm p L gG) (hM : PM T K B kd ps sz nm p n dep gm) (hm : kd p = 24 ∨ kd p = 25) : Out T K B kd ps sz nm (kb0_value (kG0 f0) (nI dep) gG) (kG1 (f1 + 1) 6 0 0 gm) L n p dep gG gm := by
  have hK := hT.2.1
  have hpK := hG.2.1
  have hp : p < K := kdK hT hpK rfl (by omega) (by omega)
  have hn := hM.2.2.2.2.2.1
  have hL := hG.2.2.2.2
  obtain ⟨f0, rfl⟩ : ∃ z, f0 = z + 1 := ⟨f0 - 1, by omega⟩
  obtain ⟨f1, rfl⟩ : ∃ z, f1 = z + 1 := ⟨f1 - 1, by omega⟩
  have hst : nI (kap (kd p)) = nI (stepOf (kd p)) := by rcases hm with q | q <;> (rw [q]; rfl)
  have hari : ariOf (kd p) = 2 := by rcases hm with q | q <;> (rw [q]; rfl)
  have hno : ¬ ofMirror (kd p) ∧ kd p ≠ 31 := by
    unfold ofMirror
    omega
  have hq := quiet (B := B) (ps := ps) (sz := sz) (nm := nm) (kd := kd) (p := p) (by omega) (by omega) (by rcases hm with q | q <;> (rw [q]; rfl))
  have hM1 := hM.go hq
  have hG1 := hG.go hp
  have hcls : kb0_value (kG0 (f0 + 1)) (nI dep) gG = (kb0_pair (kG0 f0) (nI (kap (kd p))) (nI dep) (up gG 13 2 (nI (p + 1)))).bind fun u12 => if u12.1 = 0 then some (0, u12.2) else some (1, u12.2) := by
    have : kb0_value (kG0 (f0 + 1)) (nI dep) gG = k0_value_274 (kG0 (f0 + 1)) (nI dep) (nI (kap (kd p))) gG := by
      unfold kb0_value
      rw [hG.1, kindAt_n hT hG.2.2.1 hpK, some_bind]
      rcases hm with q | q <;> rw [q] <;> (repeat (first | rw [if_pos (by decide)] | rw [if_neg (by decide)]))
    rw [this]
    unfold k0_value_274
    rw [take_c hT hG.1 hpK hG.2.2.1 (s := kd p) (hT.ok hpK).1 (hT.ok hpK).2 rfl, if_pos rfl, some_bind]
    dsimp only
    rw [if_neg (show ¬ (1 : Int32) = 0 by decide)]
    rfl
  have hmdl : kG1 (f1 + 1 + 1) 6 0 0 gm = (kb11_ofTwo (kG1 f1) (nI (kd p)) gm).bind fun u2 => some (u2.1, u2.2) := by
    have h99 : k11_value_99 (kG1 (f1 + 1)) gm = (kb11_ofTwo (kG1 f1) (nI (kd p)) gm).bind fun u2 => some (u2.1, u2.2) := by
      unfold k11_value_99
      rw [hM.1, ld_n (by omega) (by omega), (hM.2.2.1.2.1 p (by omega) hpK).1]
      rfl
    rw [val_m hT hM hpK (by omega) (by omega) (by omega) (by omega)]
    show k11_value_41 (kG1 (f1 + 1)) (99996 + 1) 15 gm = _
    have i : ∀ s : Nat, s < 64 → k11_is (nI s) gm = some (if kd p = s then 1 else 0) := fun s hs => is_m hT hM.1 hM.2.1 hpK hM.2.2.1 (s := s) (c := nI s) hs rfl
    unfold k11_value_41
    rw [if_pos (by decide), meas_m hT hM hpK, if_neg (by omega), some_bind, if_pos rfl, show k11_is 24 gm = _ from i 24 (by decide), some_bind]
    rcases hm with q | q
    · rw [if_pos q, if_neg (by decide), h99]
    · rw [if_neg (show ¬ kd p = 24 by omega), if_pos rfl, show k11_is 25 gm = _ from i 25 (by decide), if_pos q, some_bind, if_neg (by decide), h99]
  rw [hcls, hmdl]
  unfold kb0_pair kb11_ofTwo
  rw [bd_eq, hM.1, nI_1, nI_1, is_m hT hM1.1 hM1.2.1 (by omega) hM1.2.2.1 (s := 49) (c := 49) (by decide) rfl, some_bind]
  by_cases h8 : dep = 8
  · rw [if_pos ((lit_le (M := 8) (k := 8) rfl (by omega) (by omega)).mpr (by omega)), some_bind]
    dsimp only
    rw [if_pos rfl]
    by_cases e49 : kd (p + 1) = 49
    · have hw : WM (p + 1) (up (wr (p + 1) (up gm 47 8 (nI (p + 1)))) 47 12 (nI (dep + 1))) := (wr_WM hM1.1).deep
      obtain ⟨f1, rfl⟩ : ∃ z, f1 = z + 3 := ⟨f1 - 3, by omega⟩
      have h66 : (up (wr (p + 1) (up gm 47 8 (nI (p + 1)))) 47 12 (nI (dep + 1))) 66 12 = nI n := by rw [up_other (by decide)]; exact wr_n hM1.2.2.2.2.1
      rw [if_pos e49, if_neg (by decide), deeper_m hM1 (by omega), if_pos h8, some_bind, wsum hw.1, some_bind, bd_eq]
      dsimp only
      rw [take_w hw.1, some_bind, wsum hw.1, some_bind, bd_eq]
      dsimp only
      rw [take_w hw.1, some_bind, bd_eq, node_m (n := n) (by rw [up_other (by decide)]; exact h66) (by omega), some_bind, some_bind]
      refine Or.inr ⟨_, _, p + 1, n + 1, _, rfl, rfl, ?_⟩
      exact ⟨by omega, by omega, up_self, hw.deep.aN, rfl, by omega, by omega, at_fr, ((((tok_fr (n := n)).trans (Nat.le_refl n) wr_fr).trans (Nat.le_refl n) deep_fr).trans (Nat.le_refl n) deep_fr).trans (Nat.le_refl n) addN_fr⟩
    · rw [if_neg e49, if_pos rfl, wrong_m hM1.1 hM1.2.1, some_bind, some_bind]
      refine Or.inr ⟨up gG 13 2 (nI (p + 1)), wr (p + 1) (up gm 47 8 (nI (p + 1))), p + 1, n, _, rfl, rfl, ?_⟩
      exact ⟨by omega, by omega, up_self, wr_WM hM1.1, wr_n hM1.2.2.2.2.1, Nat.le_refl n, by omega, at_fr, (tok_fr (n := n)).trans (Nat.le_refl n) wr_fr⟩
  · obtain ⟨e', rfl⟩ : ∃ z, e = z + 1 := ⟨e - 1, by omega⟩
    rw [if_neg (fun z => absurd ((lit_le (M := 8) (k := 8) rfl (by omega) (by omega)).mp z) (by omega)), take_c hT hG1.1 (by omega) hG1.2.2.1 (s := 49) (c := 40) (by decide) (by decide) rfl]
    by_cases e49 : kd (p + 1) = 49
    · have hp1 : p + 1 < K := kdK hT (by omega) e49 (by decide) (by decide)
      have hq1 := quiet (B := B) (ps := ps) (sz := sz) (nm := nm) (kd := kd) (p := p + 1) (by omega) (by omega) (by rw [e49]; rfl)
      have hM2 := (hM1.go hq1).deep (dep' := dep + 1)
      have hG2 := hG1.go hp1
      have hctx : ctxN kd (p + 1 + 1) = 0 := ctx_next (by omega) (by omega) (by omega) (by omega) (fun z => by omega)
      have fm2 : mG n gm (up (up (up gm 47 8 (nI (p + 1))) 47 8 (nI (p + 1 + 1))) 47 12 (nI (dep + 1))) := ((tok_fr (n := n)).trans (Nat.le_refl n) tok_fr).trans (Nat.le_refl n) deep_fr
      have fc2 : cG L gG (up (up gG 13 2 (nI (p + 1))) 13 2 (nI (p + 1 + 1))) := at_fr.trans (Nat.le_refl L) at_fr
      rw [if_pos e49, if_pos e49, if_neg (show ¬ (1 : Int32) = 0 by decide), some_bind, deeper_m hM1 (by omega), if_neg h8, some_bind]
      dsimp only
      rw [if_neg (show ¬ (1 : Int32) = 0 by decide)]
      rcases hS e' rfl f0 f1 _ _ (p + 1 + 1) L n (by omega) (by omega) hG2 hM2 hctx with ⟨gG1, gm1, p1, n1, r1, x1, x2, y1, y2, y3, y4, y5, y6, y7, y8, y9⟩ | ⟨gG1, gm1, q, n1, u, x1, x2, y1, y2, y3, y4, y5, y6, y7, y8, y9⟩
      · have hcA : cG L gG gG1 := fc2.trans (Nat.le_refl L) y8
        have hmA : mG n gm gm1 := fm2.trans (Nat.le_refl n) y9
        rw [x1, x2, some_bind, some_bind, bd_eq]
        dsimp only
        rw [if_neg (show ¬ (1 : Int32) = 0 by decide), take_c hT y2.1 y2.2.1 y2.2.2.1 (s := 54) (c := 44) (by decide) (by decide) rfl, take_m1 hT y3.1 y3.2.1 y2.2.1 y3.2.2.1 (s := 54) (c := 54) (by decide) rfl]
        by_cases e54 : kd p1 = 54
        · have hp1K : p1 < K := kdK hT y2.2.1 e54 (by decide) (by decide)
          have hq2 := quiet (B := B) (ps := ps) (sz := sz) (nm := nm) (kd := kd) (p := p1) (by omega) (by omega) (by rw [e54]; rfl)
          have hM3 := y3.go hq2
          have hG3 := y2.go hp1K
          have hctx2 : ctxN kd (p1 + 1) = 0 := ctx_next (by omega) (by omega) (by omega) (by omega) (fun z => by omega)
          rw [if_pos e54, if_pos e54, some_bind, some_bind]
          dsimp only
          rw [if_neg (show ¬ (1 : Int32) = 0 by decide)]
          rcases hS e' rfl f0 f1 _ _ (p1 + 1) (L + (n1 - n)) n1 (by omega) (by omega) hG3 hM3 hctx2 with ⟨gG2, gm2, p2, n2, r2, z1, z2, v1, v2, v3, v4, v5, v6, v7, v8, v9⟩ | ⟨gG2, gm2, q, n2, u, z1, z2, v1, v2, v3, v4, v5, v6, v7, v8, v9⟩
          · have hcB : cG (L + (n1 - n)) gG1 gG2 := at_fr.trans (Nat.le_refl _) v8
            have hmB : mG n1 gm1 gm2 := tok_fr.trans (Nat.le_refl _) v9
            rw [z1, z2, some_bind, some_bind, bd_eq]
            dsimp only
            rw [if_neg (show ¬ (1 : Int32) = 0 by decide), take_c hT v2.1 v2.2.1 v2.2.2.1 (s := 50) (c := 41) (by decide) (by decide) rfl, take_m1 hT v3.1 v3.2.1 v2.2.1 v3.2.2.1 (s := 50) (c := 50) (by decide) rfl]
            by_cases e50 : kd p2 = 50
            · have hp2K : p2 < K := kdK hT v2.2.1 e50 (by decide) (by decide)
              have hq3 := quiet (B := B) (ps := ps) (sz := sz) (nm := nm) (kd := kd) (p := p2) (by omega) (by omega) (by rw [e50]; rfl)
              have hd : (up gm2 47 8 (nI (p2 + 1))) 47 12 - 1 = nI dep := by
                rw [up_slot (by decide), v3.2.2.2.1, nI_pred]
              have hM4 := (v3.go hq3).deep (dep' := dep)
              have hG4 := v2.go hp2K
              have hL2 : L + (n1 - n) + (n2 - n1) = L + (n2 - n) := by omega
              rw [hL2] at hG4
              have hn1p := y3.2.2.2.2.2.1
              have hL1p := y2.2.2.2.2
              rw [if_pos e50, if_pos e50, some_bind, some_bind]
              dsimp only
              rw [if_neg (show ¬ (1 : Int32) = 0 by decide), hG4.1, hst, write_c hG4.2.2.2.1 (by omega), some_bind, some_bind, bd_eq, hd, node_m hM4.2.2.2.2.1 (by omega), some_bind]
              dsimp only
              rw [if_neg (show ¬ (1 : Int32) = 0 by decide), some_bind]
              have hS2 := SR.bin (v := nI (p2 + 1)) y7 (v7.fr (show p2 ≤ p2 + 1 by omega) (gG' := up gG2 13 2 (nI (p2 + 1))) (gm' := up (up gm2 47 8 (nI (p2 + 1))) 47 12 (nI dep)) (fun i hi => at_fr.2.2.2 i hi) (fun a i a1 a2 hi => by rw [up_ne (by omega), up_ne (by omega)])) (by omega) (hcB.trans (Nat.le_refl _) at_fr) (hmB.trans (Nat.le_refl _) (tok_fr.trans (Nat.le_refl _) deep_fr)) (hT.ok hpK).2 hari hno
              have hPG := hG4.aS (c := nI (stepOf (kd p))) (v := nI (p2 + 1)) (by omega)
              rw [show L + (n2 - n) + 1 = L + (n2 + 1 - n) by omega] at hPG
              exact Or.inl ⟨_, _, p2 + 1, n2 + 1, n2, rfl, rfl, ⟨by omega, hq3.2.trans (v1.2.trans (hq2.2.trans (y1.2.trans (hq1.2.trans hq.2))))⟩, hPG, hM4.aN (by omega), by omega, by omega, by show kd p2 ≠ 2; omega, hS2, ((hcA.trans (show L ≤ L + (n1 - n) by omega) hcB).trans (Nat.le_refl L) at_fr).trans (show L ≤ L + (n2 - n) by omega) addS_fr, ((hmA.trans y4 hmB).trans (Nat.le_refl n) (tok_fr.trans (Nat.le_refl n) deep_fr)).trans (show n ≤ n2 by omega) addN_fr⟩
            · have hw : WM p2 (wr p2 gm2) := wr_WM v3.1
              have hp2K := v2.2.1
              rw [if_neg e50, if_neg e50, some_bind, some_bind]
              dsimp only
              rw [if_pos rfl, some_bind, bd_eq, node_m (n := n2) (by rw [up_other (by decide)]; exact wr_n v3.2.2.2.2.1) (by omega), some_bind, some_bind]
              dsimp only
              rw [if_pos rfl]
              refine Or.inr ⟨gG2, _, p2, n2 + 1, _, rfl, rfl, ?_⟩
              exact ⟨by omega, v2.2.1, v2.1, hw.deep.aN, rfl, by omega, by omega, hcA.trans (show L ≤ L + (n1 - n) by omega) hcB, (((hmA.trans y4 hmB).trans (Nat.le_refl n) wr_fr).trans (Nat.le_refl n) deep_fr).trans (show n ≤ n2 by omega) addN_fr⟩
          · have hcB : cG (L + (n1 - n)) gG1 gG2 := at_fr.trans (Nat.le_refl _) v8
            have hmB : mG n1 gm1 gm2 := tok_fr.trans (Nat.le_refl _) v9
            have hn1p := y3.2.2.2.2.2.1
            rw [z1, z2, some_bind, some_bind, bd_eq]
            dsimp only
            rw [if_pos rfl, some_bind, take_w v4.1, some_bind, bd_eq, node_m (n := n2) (by rw [up_other (by decide)]; exact v5) (by omega), some_bind, some_bind]
            dsimp only
            rw [if_pos rfl]
            refine Or.inr ⟨gG2, _, q, n2 + 1, _, rfl, rfl, ?_⟩
            exact ⟨by omega, v2, v3, v4.deep.aN, rfl, by omega, by omega, hcA.trans (show L ≤ L + (n1 - n) by omega) hcB, ((hmA.trans y4 hmB).trans (Nat.le_refl n) deep_fr).trans (show n ≤ n2 by omega) addN_fr⟩
        · have hw : WM p1 (wr p1 gm1) := wr_WM y3.1
          have hn1p := y3.2.2.2.2.2.1
          have hp1K := y2.2.1
          obtain ⟨f1, rfl⟩ : ∃ z, f1 = z + 3 := ⟨f1 - 3, by omega⟩
          rw [if_neg e54, if_neg e54, some_bind, some_bind]
          dsimp only
          rw [if_pos rfl, wsum hw.1, some_bind, some_bind, bd_eq]
          dsimp only
          rw [take_w hw.1, some_bind, bd_eq, node_m (n := n1) (by rw [up_other (by decide)]; exact wr_n y3.2.2.2.2.1) (by omega), some_bind, some_bind, if_pos rfl]
          refine Or.inr ⟨gG1, _, p1, n1 + 1, _, rfl, rfl, ?_⟩
          exact ⟨by omega, y2.2.1, y2.1, hw.deep.aN, rfl, by omega, by omega, hcA, ((hmA.trans (Nat.le_refl n) wr_fr).trans (Nat.le_refl n) deep_fr).trans y4 addN_fr⟩
      · obtain ⟨f1, rfl⟩ : ∃ z, f1 = z + 3 := ⟨f1 - 3, by omega⟩
        rw [x1, x2, some_bind, some_bind, bd_eq]
        dsimp only
        rw [if_pos rfl, some_bind, take_w y4.1, some_bind, wsum y4.1, some_bind, bd_eq]
        dsimp only
        rw [take_w y4.1, some_bind, bd_eq, node_m (n := n1) (by rw [up_other (by decide)]; exact y5) (by omega), some_bind, some_bind, if_pos rfl]
        refine Or.inr ⟨gG1, _, q, n1 + 1, _, rfl, rfl, ?_⟩
        exact ⟨by omega, y2, y3, y4.deep.aN, rfl, by omega, by omega, fc2.trans (Nat.le_refl L) y8, ((fm2.trans (Nat.le_refl n) y9).trans (Nat.le_refl n) deep_fr).trans y6 addN_fr⟩
    · rw [if_neg e49, if_neg e49, if_pos rfl, wrong_m hM1.1 hM1.2.1, some_bind, some_bind, some_bind]
      dsimp only
      rw [if_pos rfl, some_bind]
      refine Or.inr ⟨up gG 13 2 (nI (p + 1)), wr (p + 1) (up gm 47 8 (nI (p + 1))), p + 1, n, _, rfl, rfl, ?_⟩
      exact ⟨by omega, by omega, up_self, wr_WM hM1.1, wr_n hM1.2.2.2.2.1, Nat.le_refl n, by omega, at_fr, (tok_fr (n := n)).trans (Nat.le_refl n) wr_fr⟩
theorem value_spec {dep e : Nat} (hB : Bok T B) (hT : Toks T 0 K kd ps sz nm) (hde : dep + e = 8) (hS : ∀ e', e = e' + 1 → Spec T K B kd ps sz nm 3 4 (dep + 1) (4 + 4 * e') (7 + 4 * e')) (hV : ∀ e', e = e' + 1 → Spec T K B kd ps sz nm 5 6 (dep + 1) (2 + 4 * e') (5 + 4 * e')) : Spec T K B kd ps sz nm 5 6 dep (2 + 4 * e) (5 + 4 * e) := by
  have hK := hT.2.1
  intro f0 f1 gG gm p L n ha hb hG hM hctx
  obtain ⟨f0, rfl⟩ : ∃ z, f0 = z + 1 := ⟨f0 - 1, by omega⟩
  obtain ⟨f1, rfl⟩ : ∃ z, f1 = z + 1 := ⟨f1 - 1, by omega⟩
  show Out T K B kd ps sz nm (kb0_value (kG0 f0) (nI dep) gG) (kG1 (f1 + 1) 6 0 0 gm) L n p dep gG gm
  have hpK := hG.2.1
  by_cases c1 : kd p = 31 ∨ kd p = 12 ∨ kd p = 13 ∨ kd p = 14
  · exact leaf_out hT hG hM hctx c1
  · by_cases c2 : kd p = 2 ∨ kd p = 1 ∨ kd p = 17 ∨ kd p = 15 ∨ kd p = 16
    · exact meas_out hB hT hG hM c2
    · by_cases c3 : kd p = 49
      · exact brak_out hT hde hS (by omega) (by omega) hG hM c3
      · by_cases c4 : kd p = 41
        · exact neg_out hT hde hV (by omega) (by omega) hG hM hctx c4
        · by_cases c5 : kd p = 24 ∨ kd p = 25
          · exact pair_out hT hde hS (by omega) (by omega) hG hM c5
          · have kl : ∀ {s : Nat} {c : Int32}, okB s = true → s < 64 → c = nI (kap s) → kd p ≠ s → ¬ nI (kap (kd p)) = c := fun a b c d z => d ((kap_lit hT hpK a b c).mp z)
            have hcls : kb0_value (kG0 f0) (nI dep) gG = some (0, gG) := by
              unfold kb0_value
              rw [hG.1, kindAt_n hT hG.2.2.1 hpK, some_bind, if_neg (kl (s := 31) (c := 3) (by decide) (by decide) rfl (by omega)), if_neg (kl (s := 49) (c := 40) (by decide) (by decide) rfl (by omega)), if_neg (kl (s := 41) (c := 45) (by decide) (by decide) rfl (by omega)), if_neg (kl (s := 1) (c := 129) (by decide) (by decide) rfl (by omega)), if_neg (kl (s := 2) (c := 130) (by decide) (by decide) rfl (by omega)), if_neg (kl (s := 12) (c := 140) (by decide) (by decide) rfl (by omega)), if_neg (kl (s := 13) (c := 141) (by decide) (by decide) rfl (by omega)), if_neg (kl (s := 14) (c := 142) (by decide) (by decide) rfl (by omega)), if_neg (kl (s := 15) (c := 143) (by decide) (by decide) rfl (by omega)), if_neg (kl (s := 16) (c := 144) (by decide) (by decide) rfl (by omega)), if_neg (kl (s := 17) (c := 145) (by decide) (by decide) rfl (by omega)), if_neg (kl (s := 24) (c := 152) (by decide) (by decide) rfl (by omega)), if_neg (kl (s := 25) (c := 153) (by decide) (by decide) rfl (by omega))]
            have hmdl : kG1 (f1 + 1) 6 0 0 gm = some (0, wr p gm) := by
              rw [val_m hT hM hpK (by omega) (by omega) (by omega) (by omega)]
              show k11_value_41 (kG1 f1) (99996 + 1) 15 gm = _
              have i : ∀ s : Nat, s < 64 → k11_is (nI s) gm = some (if kd p = s then 1 else 0) := fun s hs => is_m hT hM.1 hM.2.1 hpK hM.2.2.1 (s := s) (c := nI s) hs rfl
              unfold k11_value_41
              rw [if_pos (by decide), meas_m hT hM hpK, if_neg c2, some_bind, if_pos rfl, show k11_is 24 gm = _ from i 24 (by decide), if_neg (by omega), some_bind, if_pos rfl, show k11_is 25 gm = _ from i 25 (by decide), if_neg (by omega), some_bind, if_pos rfl, show k11_is 49 gm = _ from i 49 (by decide), if_neg c3, some_bind, if_pos rfl, show k11_is 41 gm = _ from i 41 (by decide), if_neg c4, some_bind, if_pos rfl, wrong_m hM.1 hM.2.1, some_bind]
            rw [hcls, hmdl]
            refine Or.inr ⟨gG, _, p, n, _, rfl, rfl, ?_⟩
            exact fail_here hG (wr_WM hM.1) (wr_n hM.2.2.2.2.1) (Nat.le_refl n) (by omega) wr_fr
/-- sums and values at every depth -/
theorem sums {dep e : Nat} (hB : Bok T B) (hT : Toks T 0 K kd ps sz nm) : ∀ (e dep : Nat), dep + e = 8 → Spec T K B kd ps sz nm 5 6 dep (2 + 4 * e) (5 + 4 * e) ∧ Spec T K B kd ps sz nm 3 4 dep (4 + 4 * e) (7 + 4 * e) := by
  intro e
  induction e with
  | zero =>
    intro dep hde
    have hv := value_spec (dep := dep) (e := 0) hB hT hde (fun e' z => by omega) (fun e' z => by omega)
    exact ⟨hv, sum_spec hT (product_spec hT hv)⟩
  | succ e ih =>
    intro dep hde
    obtain ⟨i1, i2⟩ := ih (dep + 1) (by omega)
    have hv := value_spec (dep := dep) (e := e + 1) hB hT hde (fun e' z => by have h : e = e' := (by omega); subst h; exact i2) (fun e' z => by have h : e = e' := (by omega); subst h; exact i1)
    exact ⟨hv, by
      have := sum_spec hT (product_spec hT hv)
      rw [show 2 + 4 * (e + 1) + 1 + 1 = 4 + 4 * (e + 1) by omega, show 5 + 4 * (e + 1) + 1 + 1 = 7 + 4 * (e + 1) by omega] at this
      exact this⟩
end TK
