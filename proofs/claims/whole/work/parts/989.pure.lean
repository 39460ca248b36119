/-! teach: a value, read by both -/
section TK
variable {T K : Nat} {B : Nat → Int32} {kd ps sz nm : Nat → Nat}
theorem addN_66 {n : Nat} {s l r : Int32} {g : G} : addN n s l r g 66 12 = nI (n + 1) := addN_v.2.2.2
theorem ctx0 {p : Nat} (h : ctxN kd p = 0) : p = 0 ∨ kd (p - 1) ≠ 2 := by
  rcases Nat.eq_zero_or_pos p with q | q
  · exact Or.inl q
  · refine Or.inr (fun e => ?_)
    unfold ctxN at h
    by_cases e0 : 1 < p ∧ kd (p - 1) = 41 ∧ kd (p - 2) = 2
    · rw [if_pos e0] at h; cases h
    · rw [if_neg e0, if_neg (show ¬ (0 < p ∧ kd (p - 1) = 1) by omega), if_pos ⟨q, e⟩] at h; cases h
theorem wr_go {g : G} {p n m : Nat} (h8 : g 47 8 = nI p) : mG m g (wr p g) ∧ WM p (wr p g) := ⟨wr_fr, wr_WM h8⟩
theorem name_bad {g : G} {p n dep : Nat} (hT : Toks T 0 K kd ps sz nm) (hM : PM T K B kd ps sz nm p n dep g) (hp : p ≤ K) (h : kd p ≠ 30) : k11_name g = some (0, wr p g) := by
  unfold k11_name k11_name_17 k11_name_28
  rw [is_m hT hM.1 hM.2.1 hp hM.2.2.1 (s := 30) (c := 30) (by decide) rfl, if_neg h, some_bind, if_pos rfl, if_neg (by decide), take_m1 hT hM.1 hM.2.1 hp hM.2.2.1 (s := 30) (c := 30) (by decide) rfl, if_neg h, some_bind, bd_eq]
  rfl
theorem newB_f {p : Nat} (h : kd p ≠ 0) : newB kd (p + 1) = false := by
  unfold newB
  rw [show p + 1 - 1 = p by omega, show decide (kd p = 0) = false from decide_eq_false h, Bool.and_false]
/-- lists of sorts -/
def leafB (s : Nat) : Bool := decide (s = 31) || decide (s = 12) || decide (s = 13) || decide (s = 14)
def measB (s : Nat) : Bool := decide (s = 2) || decide (s = 1) || decide (s = 17) || decide (s = 15) || decide (s = 16)
theorem meas_out {gG gm : G} {p L n dep f0 f1 : Nat} (hB : Bok T B) (hT : Toks T 0 K kd ps sz nm) (hG : PG T K B kd ps sz nm p L gG) (hM : PM T K B kd ps sz nm p n dep gm) (hm : kd p = 2 ∨ kd p = 1 ∨ kd p = 17 ∨ kd p = 15 ∨ kd p = 16) : Out T K B kd ps sz nm (kb0_value (kG0 f0) (nI dep) gG) (kG1 (f1 + 1) 6 0 0 gm) L n p dep gG gm := by
  have hK := hT.2.1
  have hpK := hG.2.1
  have hp : p < K := kdK hT hpK rfl (by omega) (by omega)
  have hL := hG.2.2.2.2
  have hn := hM.2.2.2.2.2.1
  have hcls : kb0_value (kG0 f0) (nI dep) gG = k0_value_146 (kG0 f0) (nI (kap (kd p))) gG := by
    unfold kb0_value
    rw [hG.1, kindAt_n hT hG.2.2.1 hpK, some_bind]
    rcases hm with q | q | q | q | q <;> rw [q] <;> (repeat (first | rw [if_pos (by decide)] | rw [if_neg (by decide)]))
  have hmdl : kG1 (f1 + 1) 6 0 0 gm = (k11_measure gm).bind fun u21 => some (u21.1, u21.2) := by
    rw [val_m hT hM hpK (by omega) (by omega) (by omega) (by omega)]
    show k11_value_41 (kG1 f1) (99996 + 1) 15 gm = _
    unfold k11_value_41
    rw [if_pos (by decide), meas_m hT hM hpK, if_pos hm, some_bind, if_neg (by decide)]
  have hq := quiet (B := B) (ps := ps) (sz := sz) (nm := nm) (kd := kd) (p := p) (by omega) (by omega) (by rcases hm with q | q | q | q | q <;> (rw [q]; rfl))
  have hst : nI (kap (kd p)) = nI (stepOf (kd p)) := by rcases hm with q | q | q | q | q <;> (rw [q]; rfl)
  have hari : ariOf (kd p) = 0 := by rcases hm with q | q | q | q | q <;> (rw [q]; rfl)
  have hM1 := hM.go hq
  rw [hcls, hmdl]
  obtain ⟨w1, w2, w3⟩ := hG.wr (c := nI (kap (kd p))) (v := nI (p + 2))
  have cA : cG L gG (up (addS L (nI (kap (kd p))) (nI (p + 2)) gG) 13 2 (nI (p + 1))) := addS_fr.trans (Nat.le_refl L) at_fr
  have cA2 : cG L gG (up (up (addS L (nI (kap (kd p))) (nI (p + 2)) gG) 13 2 (nI (p + 1))) 13 2 (nI (p + 2))) := cA.trans (Nat.le_refl L) at_fr
  unfold k0_value_146 k11_measure
  rw [hG.1, show nI p + 2 = nI (p + 2) from nI_add p 2, write_c hG.2.2.2.1 (by omega), some_bind, take_c hT w1 hpK w2 (s := kd p) (hT.ok hpK).1 (hT.ok hpK).2 rfl, if_pos rfl, some_bind]
  dsimp only
  rw [if_neg (show ¬ (1 : Int32) = 0 by decide), take_c hT up_self (show p + 1 ≤ K by omega) (hG.2.2.1.cG cA) (s := 18) (c := 146) (by decide) (by decide) rfl, hM.1, ld_n (by omega) (by omega), (hM.2.2.1.2.1 p (by omega) hpK).1, bd_eq, nI_1, take_m1 hT hM1.1 hM1.2.1 (by omega) hM1.2.2.1 (s := 18) (c := 18) (by decide) rfl]
  by_cases e18 : kd (p + 1) = 18
  · have hp1 : p + 1 < K := kdK hT (by omega) e18 (by decide) (by decide)
    have hq1 := quiet (B := B) (ps := ps) (sz := sz) (nm := nm) (kd := kd) (p := p + 1) (by omega) (by omega) (by rw [e18]; rfl)
    have hM2 := hM1.go hq1
    rw [if_pos e18, if_pos e18, some_bind, some_bind]
    dsimp only
    rw [if_neg (show ¬ (1 : Int32) = 0 by decide), take_c hT up_self (show p + 1 + 1 ≤ K by omega) (hG.2.2.1.cG cA2) (s := 30) (c := 2) (by decide) (by decide) rfl]
    by_cases e30 : kd (p + 1 + 1) = 30
    · have hp2 : p + 1 + 1 < K := kdK hT (by omega) e30 (by decide) (by decide)
      obtain ⟨gm3, m, a1, a2, a3, a4, a5⟩ := name_m hB hT hM2 (by omega) e30 (newB_f (by omega))
      rw [if_pos e30, some_bind, a1, some_bind]
      dsimp only
      rw [if_neg (show ¬ (1 : Int32) = 0 by decide), node_m a2.2.2.2.2.1 (by omega), some_bind]
      refine Or.inl ⟨_, _, p + 1 + 1 + 1, n + 1, n, rfl, rfl, leaf_good (v := nI (p + 2)) hG a2 ((tok_fr.trans (Nat.le_refl n) tok_fr).trans (Nat.le_refl n) a3) hn ((ms_name e30 (newB_f (by omega))).trans (hq1.2.trans hq.2)) (by omega) (by omega) (by show kd (p + 1 + 1) ≠ 2; omega) (hT.ok hpK).2 hari (fun _ => ⟨p + 1 + 1, by omega, hp2, e30, newB_f (by omega), rfl, fun z => ⟨m, a4 z, rfl⟩⟩) (fun z => by omega) up_self (fun a ha => ?_) (fun k hk => ?_)⟩
      · rw [up_ne ha, up_ne ha, up_ne ha, hst]
      · rw [up_slot hk, up_slot hk, up_slot hk]
        exact addS_fr.2.2.1 k hk
    · rw [if_neg e30, some_bind, name_bad hT hM2 (by omega) e30, some_bind]
      dsimp only
      rw [if_pos rfl, node_m (n := n) (wr_n hM2.2.2.2.2.1) (by omega), some_bind]
      refine Or.inr ⟨_, _, p + 1 + 1, n + 1, _, rfl, rfl, ?_⟩
      exact ⟨by omega, by omega, up_self, (wr_WM hM2.1).aN, rfl, by omega, by omega, cA2, ((tok_fr.trans (Nat.le_refl n) tok_fr).trans (Nat.le_refl n) wr_fr).trans (Nat.le_refl n) addN_fr⟩
  · rw [if_neg e18, if_neg e18, some_bind, some_bind]
    dsimp only
    rw [if_pos rfl, wname (wr_WM hM1.1).1, some_bind]
    dsimp only
    rw [node_m (n := n) (wr_n hM1.2.2.2.2.1) (by omega), some_bind]
    refine Or.inr ⟨_, _, p + 1, n + 1, _, rfl, rfl, ?_⟩
    exact ⟨by omega, by omega, up_self, (wr_WM hM1.1).aN, rfl, by omega, by omega, cA, (tok_fr.trans (Nat.le_refl n) wr_fr).trans (Nat.le_refl n) addN_fr⟩
theorem leaf_out {gG gm : G} {p L n dep f0 f1 : Nat} (hT : Toks T 0 K kd ps sz nm) (hG : PG T K B kd ps sz nm p L gG) (hM : PM T K B kd ps sz nm p n dep gm) (hctx : ctxN kd p = 0) (hm : kd p = 31 ∨ kd p = 12 ∨ kd p = 13 ∨ kd p = 14) : Out T K B kd ps sz nm (kb0_value (kG0 f0) (nI dep) gG) (kG1 (f1 + 1) 6 0 0 gm) L n p dep gG gm := by
  have hK := hT.2.1
  have hpK := hG.2.1
  have hp : p < K := kdK hT hpK rfl (by omega) (by omega)
  have hn := hM.2.2.2.2.2.1
  have hcls : kb0_value (kG0 f0) (nI dep) gG = some (1, up (addS L (nI (kap (kd p))) (nI p) gG) 13 2 (nI (p + 1))) := by
    rw [← leaf_c (R := kG0 f0) hT hG hp (hT.ok hpK).1 (hT.ok hpK).2 rfl]
    unfold kb0_value
    rw [hG.1, kindAt_n hT hG.2.2.1 hpK, some_bind]
    rcases hm with q | q | q | q <;> rw [q] <;> (repeat (first | rw [if_pos (by decide)] | rw [if_neg (by decide)]))
  have hq := quiet (B := B) (ps := ps) (sz := sz) (nm := nm) (kd := kd) (p := p) (by omega) (fun _ => hctx) (by rcases hm with q | q | q | q <;> (rw [q]; rfl))
  have hM1 := hM.go hq
  have hst : nI (kap (kd p)) = nI (stepOf (kd p)) := by rcases hm with q | q | q | q <;> (rw [q]; rfl)
  have hari : ariOf (kd p) = 0 := by rcases hm with q | q | q | q <;> (rw [q]; rfl)
  have hmdl : kG1 (f1 + 1) 6 0 0 gm = some (nI n, addN n (nI (kd p)) (if kd p = 31 then nI (nm p) else 0) 0 (up gm 47 8 (nI (p + 1)))) := by
    show kb11_value (kG1 f1) gm = _
    unfold kb11_value
    rw [is_m hT hM.1 hM.2.1 hpK hM.2.2.1 (s := 31) (c := 31) (by decide) rfl, some_bind]
    by_cases e31 : kd p = 31
    · rw [if_pos e31, if_neg (by decide), bd_eq, hM.1, nI_1, up_self, nI_pred, ld_n (by omega) (by omega), up_other (by decide), (hM.2.2.1.2.2 p (by omega) hp).2 e31, node_m (n := n) (by rw [up_other (by decide)]; exact hM.2.2.2.2.1) (by omega), some_bind, e31, if_pos rfl]
      rfl
    · rw [if_neg e31, if_pos rfl, if_neg e31]
      show k11_value_41 (kG1 f1) (99997 + 1 + 1 + 1) (nI 12) gm = _
      rcases hm with q | q | q | q
      · omega
      · rw [v41_hit hT hM hpK (by omega) q (by omega), q]
      · rw [v41_step hT hM hpK (by omega) (by omega), v41_hit hT hM hpK (by omega) q (by omega), q]
      · rw [v41_step hT hM hpK (by omega) (by omega), v41_step hT hM hpK (by omega) (by omega), v41_hit hT hM hpK (by omega) q (by omega), q]
  rw [hcls, hmdl]
  refine Or.inl ⟨_, _, p + 1, n + 1, n, rfl, rfl, leaf_good (v := nI p) hG hM1 tok_fr hn hq.2 (by omega) (by omega) (by show kd p ≠ 2; omega) (hT.ok hpK).2 hari (fun z => ?_) (fun z => ⟨p, by omega, hp, z, rfl, if_pos z⟩) up_self (fun a ha => ?_) (fun k hk => ?_)⟩
  · exact absurd z (by unfold ofMirror; omega)
  · rw [up_ne ha, hst]
  · rw [up_slot hk]
    exact addS_fr.2.2.1 k hk
/-- brackets -/
theorem brak_out {gG gm : G} {p L n dep e f0 f1 : Nat} (hT : Toks T 0 K kd ps sz nm) (hde : dep + e = 8) (hS : ∀ e', e = e' + 1 → Spec T K B kd ps sz nm 3 4 (dep + 1) (4 + 4 * e') (7 + 4 * e')) (hf0 : 1 + 4 * e ≤ f0) (hf1 : 4 + 4 * e ≤ f1) (hG : PG T K B kd ps sz nm p L gG) (hM : PM T K B kd ps sz nm p n dep gm) (hm : kd p = 49) : Out T K B kd ps sz nm (kb0_value (kG0 f0) (nI dep) gG) (kG1 (f1 + 1) 6 0 0 gm) L n p dep gG gm := by
  have hK := hT.2.1
  have hpK := hG.2.1
  have hp : p < K := kdK hT hpK hm (by omega) (by omega)
  obtain ⟨f1, rfl⟩ : ∃ z, f1 = z + 1 := ⟨f1 - 1, by omega⟩
  have hcls : kb0_value (kG0 f0) (nI dep) gG = if 8 ≤ nI dep then some (0, gG) else (k0_take 40 gG).bind fun u18 => if u18.1 = 0 then some (0, u18.2) else (kG0 f0 3 (nI dep + 1) 0 u18.2).bind fun u20 => if u20.1 = 0 then some (0, u20.2) else (k0_take 41 u20.2).bind fun u22 => if u22.1 = 0 then some (0, u22.2) else some (1, u22.2) := by
    unfold kb0_value
    rw [hG.1, kindAt_n hT hG.2.2.1 hpK, some_bind, hm, if_neg (by decide), if_pos (by decide)]
  have hmdl : kG1 (f1 + 1 + 1) 6 0 0 gm = (k11_deeper gm).bind fun g1 => (kG1 f1 4 0 0 g1).bind fun u2 => bd u2.1 fun x3 => (k11_take 50 u2.2).bind fun g4 => bd (up g4 47 12 ((g4 47 12) - 1)) fun g5 => some (x3, g5) := by
    rw [val_m hT hM hpK (by omega) (by omega) (by omega) (by omega)]
    show k11_value_41 (kG1 (f1 + 1)) (99996 + 1) 15 gm = _
    have i : ∀ s : Nat, s < 64 → k11_is (nI s) gm = some (if kd p = s then 1 else 0) := fun s hs => is_m hT hM.1 hM.2.1 hpK hM.2.2.1 (s := s) (c := nI s) hs rfl
    unfold k11_value_41
    rw [if_pos (by decide), meas_m hT hM hpK, if_neg (by omega), some_bind, if_pos rfl, show k11_is 24 gm = _ from i 24 (by decide), if_neg (by omega), some_bind, if_pos rfl, show k11_is 25 gm = _ from i 25 (by decide), if_neg (by omega), some_bind, if_pos rfl, show k11_is 49 gm = _ from i 49 (by decide), if_pos hm, some_bind, if_neg (by decide)]
    show (kb11_inBrackets (kG1 f1) gm).bind _ = _
    unfold kb11_inBrackets
    cases k11_deeper gm with
    | none => rfl
    | some g1 =>
      simp only [some_bind]
      cases kG1 f1 4 0 0 g1 with
      | none => rfl
      | some u2 =>
        simp only [some_bind, bd_eq]
        cases k11_take 50 u2.2 <;> rfl
  rw [hcls, hmdl, deeper_m hM (by omega), some_bind]
  by_cases h8 : dep = 8
  · have hw : WM p (up (wr p gm) 47 12 (nI (dep + 1))) := (wr_WM hM.1).deep
    obtain ⟨f1, rfl⟩ : ∃ z, f1 = z + 3 := ⟨f1 - 3, by omega⟩
    rw [if_pos ((lit_le (M := 8) (k := 8) rfl (by omega) (by omega)).mpr (by omega)), if_pos h8, wsum hw.1, some_bind, bd_eq]
    dsimp only
    rw [take_w hw.1, some_bind, bd_eq]
    refine Or.inr ⟨gG, _, p, n, _, rfl, rfl, ?_⟩
    exact fail_here hG (hw.deep) (by rw [up_other (by decide), up_other (by decide)]; exact wr_n hM.2.2.2.2.1) (Nat.le_refl n) (by omega) ((wr_fr.trans (Nat.le_refl n) deep_fr).trans (Nat.le_refl n) deep_fr)
  · obtain ⟨e', rfl⟩ : ∃ z, e = z + 1 := ⟨e - 1, by omega⟩
    have hq := quiet (B := B) (ps := ps) (sz := sz) (nm := nm) (kd := kd) (p := p) (by omega) (by omega) (by rw [hm]; rfl)
    have hM1 := (hM.go hq).deep (dep' := dep + 1)
    have hG1 := hG.go hp
    have hctx : ctxN kd (p + 1) = 0 := ctx_next (by omega) (by omega) (by omega) (by omega) (fun z => by omega)
    have fm1 : mG n gm (up (up gm 47 8 (nI (p + 1))) 47 12 (nI (dep + 1))) := tok_fr.trans (Nat.le_refl n) deep_fr
    rw [if_neg (fun z => absurd ((lit_le (M := 8) (k := 8) rfl (by omega) (by omega)).mp z) (by omega)), if_neg h8, take_c hT hG.1 hpK hG.2.2.1 (s := 49) (c := 40) (by decide) (by decide) rfl, if_pos hm, some_bind]
    dsimp only
    rw [if_neg (show ¬ (1 : Int32) = 0 by decide), nI_1]
    rcases hS e' rfl f0 f1 _ _ (p + 1) L n (by omega) (by omega) hG1 hM1 hctx with ⟨gG', gm', p', n', r', x1, x2, y1, y2, y3, y4, y5, y6, y7, y8, y9⟩ | ⟨gG', gm', q, n', u, x1, x2, y1, y2, y3, y4, y5, y6, y7, y8, y9⟩
    · rw [x1, x2, some_bind, some_bind, bd_eq]
      dsimp only
      rw [if_neg (show ¬ (1 : Int32) = 0 by decide), take_c hT y2.1 y2.2.1 y2.2.2.1 (s := 50) (c := 41) (by decide) (by decide) rfl, take_m1 hT y3.1 y3.2.1 y2.2.1 y3.2.2.1 (s := 50) (c := 50) (by decide) rfl]
      by_cases e50 : kd p' = 50
      · have hp' : p' < K := kdK hT y2.2.1 e50 (by decide) (by decide)
        have hq' := quiet (B := B) (ps := ps) (sz := sz) (nm := nm) (kd := kd) (p := p') (by omega) (by omega) (by rw [e50]; rfl)
        have hd : (up gm' 47 8 (nI (p' + 1))) 47 12 - 1 = nI dep := by
          rw [up_slot (by decide), y3.2.2.2.1, nI_pred]
        rw [if_pos e50, if_pos e50, some_bind, some_bind]
        dsimp only
        rw [if_neg (show ¬ (1 : Int32) = 0 by decide), bd_eq, hd]
        refine Or.inl ⟨_, _, p' + 1, n', r', rfl, rfl, ⟨by omega, hq'.2.trans (y1.2.trans hq.2)⟩, y2.go hp', (y3.go hq').deep, y4, by omega, by show kd p' ≠ 2; omega, y7.fr (by omega) (fun i hi => at_fr.2.2.2 i hi) (fun a i a1 a2 hi => ?_), (at_fr.trans (Nat.le_refl L) y8).trans (Nat.le_refl L) at_fr, (fm1.trans (Nat.le_refl n) y9).trans (Nat.le_refl n) (tok_fr.trans (Nat.le_refl n) deep_fr)⟩
        rw [up_ne (by omega), up_ne (by omega)]
      · have hw : WM p' (wr p' gm') := wr_WM y3.1
        rw [if_neg e50, if_neg e50, some_bind, some_bind]
        dsimp only
        rw [if_pos rfl, bd_eq]
        refine Or.inr ⟨gG', _, p', n', _, rfl, rfl, ?_⟩
        exact ⟨by omega, y2.2.1, y2.1, hw.deep, by rw [up_other (by decide)]; exact wr_n y3.2.2.2.2.1, y4, by omega, at_fr.trans (Nat.le_refl L) y8, ((fm1.trans (Nat.le_refl n) y9).trans (Nat.le_refl n) wr_fr).trans (Nat.le_refl n) deep_fr⟩
    · rw [x1, x2, some_bind, some_bind, bd_eq]
      dsimp only
      rw [if_pos rfl, take_w y4.1, some_bind, bd_eq]
      refine Or.inr ⟨gG', _, q, n', _, rfl, rfl, ?_⟩
      exact ⟨by omega, y2, y3, y4.deep, by rw [up_other (by decide)]; exact y5, y6, by omega, at_fr.trans (Nat.le_refl L) y8, (fm1.trans (Nat.le_refl n) y9).trans (Nat.le_refl n) deep_fr⟩
/-- a sign ahead of a value -/
theorem neg_out {gG gm : G} {p L n dep e f0 f1 : Nat} (hT : Toks T 0 K kd ps sz nm) (hde : dep + e = 8) (hV : ∀ e', e = e' + 1 → Spec T K B kd ps sz nm 5 6 (dep + 1) (2 + 4 * e') (5 + 4 * e')) (hf0 : 1 + 4 * e ≤ f0) (hf1 : 4 + 4 * e ≤ f1) (hG : PG T K B kd ps sz nm p L gG) (hM : PM T K B kd ps sz nm p n dep gm) (hctx0 : ctxN kd p = 0) (hm : kd p = 41) : Out T K B kd ps sz nm (kb0_value (kG0 f0) (nI dep) gG) (kG1 (f1 + 1) 6 0 0 gm) L n p dep gG gm := by
  have hK := hT.2.1
  have hpK := hG.2.1
  have hp : p < K := kdK hT hpK hm (by omega) (by omega)
  have hn := hM.2.2.2.2.2.1
  have hcls : kb0_value (kG0 f0) (nI dep) gG = if 8 ≤ nI dep then some (0, gG) else (k0_take 45 gG).bind fun u26 => if u26.1 = 0 then some (0, u26.2) else (kG0 f0 5 (nI dep + 1) 0 u26.2).bind fun u28 => if u28.1 = 0 then some (0, u28.2) else (k2_write 8 6 (u28.2 13 2) u28.2).bind fun g30 => some (1, g30) := by
    unfold kb0_value
    rw [hG.1, kindAt_n hT hG.2.2.1 hpK, some_bind, hm, if_neg (by decide), if_neg (by decide), if_pos (by decide)]
  have hmdl : kG1 (f1 + 1) 6 0 0 gm = (k11_deeper gm).bind fun g14 => (kG1 f1 6 0 0 g14).bind fun u15 => bd u15.1 fun x16 => bd (up u15.2 47 12 ((u15.2 47 12) - 1)) fun g17 => (k11_node 60 x16 0 g17).bind fun u18 => some (u18.1, u18.2) := by
    rw [val_m hT hM hpK (by omega) (by omega) (by omega) (by omega)]
    show k11_value_41 (kG1 f1) (99996 + 1) 15 gm = _
    have i : ∀ s : Nat, s < 64 → k11_is (nI s) gm = some (if kd p = s then 1 else 0) := fun s hs => is_m hT hM.1 hM.2.1 hpK hM.2.2.1 (s := s) (c := nI s) hs rfl
    unfold k11_value_41
    rw [if_pos (by decide), meas_m hT hM hpK, if_neg (by omega), some_bind, if_pos rfl, show k11_is 24 gm = _ from i 24 (by decide), if_neg (by omega), some_bind, if_pos rfl, show k11_is 25 gm = _ from i 25 (by decide), if_neg (by omega), some_bind, if_pos rfl, show k11_is 49 gm = _ from i 49 (by decide), if_neg (by omega), some_bind, if_pos rfl, show k11_is 41 gm = _ from i 41 (by decide), if_pos hm, some_bind, if_neg (by decide)]
  rw [hcls, hmdl, deeper_m hM (by omega), some_bind]
  by_cases h8 : dep = 8
  · have hw : WM p (up (wr p gm) 47 12 (nI (dep + 1))) := (wr_WM hM.1).deep
    obtain ⟨f1, rfl⟩ : ∃ z, f1 = z + 1 := ⟨f1 - 1, by omega⟩
    have h66 : (up (wr p gm) 47 12 (nI (dep + 1))) 66 12 = nI n := by rw [up_other (by decide)]; exact wr_n hM.2.2.2.2.1
    rw [if_pos ((lit_le (M := 8) (k := 8) rfl (by omega) (by omega)).mpr (by omega)), if_pos h8, wv hw.1, some_bind, bd_eq, bd_eq]
    dsimp only
    rw [node_m (n := n) (by rw [up_other (by decide)]; exact h66) (by omega), some_bind]
    refine Or.inr ⟨gG, _, p, n + 1, _, rfl, rfl, ?_⟩
    exact fail_here hG hw.deep.aN rfl (by omega) (Nat.le_refl _) (((wr_fr.trans (Nat.le_refl n) deep_fr).trans (Nat.le_refl n) deep_fr).trans (Nat.le_refl n) addN_fr)
  · obtain ⟨e', rfl⟩ : ∃ z, e = z + 1 := ⟨e - 1, by omega⟩
    have hq := quiet (B := B) (ps := ps) (sz := sz) (nm := nm) (kd := kd) (p := p) (by omega) (by omega) (by rw [hm]; rfl)
    have hM1 := (hM.go hq).deep (dep' := dep + 1)
    have hG1 := hG.go hp
    have hctx : ctxN kd (p + 1) = 0 := ctx_next (by omega) (by omega) (by omega) (by omega) (fun _ => ctx0 hctx0)
    have fm1 : mG n gm (up (up gm 47 8 (nI (p + 1))) 47 12 (nI (dep + 1))) := tok_fr.trans (Nat.le_refl n) deep_fr
    rw [if_neg (fun z => absurd ((lit_le (M := 8) (k := 8) rfl (by omega) (by omega)).mp z) (by omega)), if_neg h8, take_c hT hG.1 hpK hG.2.2.1 (s := 41) (c := 45) (by decide) (by decide) rfl, if_pos hm, some_bind]
    dsimp only
    rw [if_neg (show ¬ (1 : Int32) = 0 by decide), nI_1]
    rcases hV e' rfl f0 f1 _ _ (p + 1) L n (by omega) (by omega) hG1 hM1 hctx with ⟨gG', gm', p', n', r', x1, x2, y1, y2, y3, y4, y5, y6, y7, y8, y9⟩ | ⟨gG', gm', q, n', u, x1, x2, y1, y2, y3, y4, y5, y6, y7, y8, y9⟩
    · have hL := hG.2.2.2.2
      have hp'K := y2.2.1
      have hd : gm' 47 12 - 1 = nI dep := by rw [y3.2.2.2.1, nI_pred]
      rw [x1, x2, some_bind, some_bind, bd_eq, bd_eq]
      dsimp only
      rw [if_neg (show ¬ (1 : Int32) = 0 by decide), y2.1, write_c y2.2.2.2.1 (by omega), some_bind, hd]
      have hM2 := y3.deep (dep' := dep)
      rw [node_m hM2.2.2.2.2.1 (by omega), some_bind]
      have hS2 := SR.una (s := 60) (v := nI p') (y7.fr (Nat.le_refl p') (fun i _ => ⟨rfl, rfl⟩) (gm' := up gm' 47 12 (nI dep)) (fun a i a1 a2 hi => by rw [up_ne (by omega)])) (by decide) rfl (by unfold ofMirror; decide)
      have hPG := y2.aS (c := nI (stepOf 60)) (v := nI p') (by omega)
      rw [show L + (n' - n) + 1 = L + (n' + 1 - n) by omega] at hPG
      exact Or.inl ⟨_, _, p', n' + 1, n', rfl, rfl, ⟨by omega, y1.2.trans hq.2⟩, hPG, hM2.aN (by omega), by omega, by omega, y6, hS2, (at_fr.trans (Nat.le_refl L) y8).trans (show L ≤ L + (n' - n) by omega) addS_fr, ((fm1.trans (Nat.le_refl n) y9).trans (Nat.le_refl n) deep_fr).trans y4 addN_fr⟩
    · rw [x1, x2, some_bind, some_bind, bd_eq, bd_eq]
      dsimp only
      rw [if_pos rfl, node_m (n := n') (by rw [up_other (by decide)]; exact y5) (by omega), some_bind]
      refine Or.inr ⟨gG', _, q, n' + 1, _, rfl, rfl, ?_⟩
      exact ⟨by omega, y2, y3, y4.deep.aN, rfl, by omega, by omega, at_fr.trans (Nat.le_refl L) y8, ((fm1.trans (Nat.le_refl n) y9).trans (Nat.le_refl n) deep_fr).trans y6 addN_fr⟩
end TK
