/-! teach: a whole train -/
section TK
variable {T K : Nat} {B : Nat → Int32} {kd ps sz nm : Nat → Nat}
theorem bad_line {gG gm : G} {p L n : Nat} (hT : Toks T 0 K kd ps sz nm) (h : LnOK T K B kd ps sz nm p L n gG gm) (h0 : kd p ≠ 0) (h3 : kd p ≠ 3) (h4 : kd p ≠ 4) (ho : ¬ (kd p = 5 ∨ kd p = 7 ∨ kd p = 8 ∨ kd p = 9 ∨ kd p = 10)) : LineOut T K B kd ps sz nm (k0_line gG) (k11_line gm) p gG gm := by
  have hK := hT.2.1
  obtain ⟨hG, hM, -, -⟩ := id h
  have hpK := hG.2.1
  have hk64 := (hT.ok hpK).2
  have tC := fun (s : Nat) (c : Int32) (h1 : okB s = true) (h2 : s < 64) (h3 : c = nI (kap s)) => take_c hT hG.1 hpK hG.2.2.1 (s := s) (c := c) h1 h2 h3
  have tm := fun (s : Nat) (c : Int32) (h2 : s < 64) (h3 : c = nI s) => takes_m1 hT hM.1 hM.2.1 hpK hM.2.2.1 (s := s) (c := c) h2 h3
  have hob : ordB (kd p) = false := by
    unfold ordB
    simp only [Bool.or_eq_false_iff, decide_eq_false_iff_not]
    omega
  refine fail_line (cq := gG) ?_ ⟨wr p gm, ?_, wr_WM hM.1, f47_wr.l⟩ hpK hG.1 lC.refl
  · unfold k0_line
    rw [tC 0 128 (by decide) (by decide) rfl, if_neg h0, some_bind]
    dsimp only
    rw [if_pos rfl, tC 3 131 (by decide) (by decide) rfl, if_neg h3, some_bind]
    dsimp only
    rw [if_pos rfl, tC 4 132 (by decide) (by decide) rfl, if_neg h4, some_bind]
    dsimp only
    rw [if_pos rfl, hG.1, kindAt_n hT hG.2.2.1 hpK, some_bind, bd_eq]
    unfold k0_order
    rw [isOrder_n (hT.ok hpK).1 (hT.ok hpK).2, hob, some_bind]
    rfl
  · unfold k11_line
    rw [tm 0 0 (by decide) rfl, if_neg h0, some_bind]
    dsimp only
    rw [if_pos rfl, tm 3 3 (by decide) rfl, if_neg h3, some_bind]
    dsimp only
    rw [if_pos rfl, tm 4 4 (by decide) rfl, if_neg h4, some_bind]
    dsimp only
    have hin : (if nI (kd p) < 8 then (0 : Int32) else if 10 < nI (kd p) then 0 else 1) = 0 := by
      by_cases z : kd p < 8
      · rw [if_pos (show nI (kd p) < 8 from (nI_ltI (a := kd p) (b := 8) (by omega) (by omega)).mpr z)]
      · rw [if_neg (show ¬ nI (kd p) < 8 from fun y => z ((nI_ltI (a := kd p) (b := 8) (by omega) (by omega)).mp y)), if_pos (show (10 : Int32) < nI (kd p) from (nI_ltI (a := 10) (b := kd p) (by omega) (by omega)).mpr (by omega))]
    rw [if_pos rfl, is_m hT hM.1 hM.2.1 hpK hM.2.2.1 (s := 5) (c := 5) (by decide) rfl, if_neg (by omega), some_bind, if_pos rfl, is_m hT hM.1 hM.2.1 hpK hM.2.2.1 (s := 7) (c := 7) (by decide) rfl, if_neg (by omega), some_bind, if_pos rfl, hM.1, ld_n (by omega) (by omega), (hM.2.2.1.2.1 p (by omega) hpK).1, k11_isIn_n, some_bind, hin, if_pos rfl, wrong_m hM.1 hM.2.1, some_bind]
theorem any_line {gG gm : G} {p L n : Nat} (hB : Bok T B) (hT : Toks T 0 K kd ps sz nm) (h : LnOK T K B kd ps sz nm p L n gG gm) : LineOut T K B kd ps sz nm (k0_line gG) (k11_line gm) p gG gm := by
  by_cases h0 : kd p = 0
  · exact mirror_line hB hT h h0
  · by_cases h3 : kd p = 3 ∨ kd p = 4
    · exact width_line hT h h3
    · by_cases ho : kd p = 5 ∨ kd p = 7 ∨ kd p = 8 ∨ kd p = 9 ∨ kd p = 10
      · exact order_line hB hT h ho
      · exact bad_line hT h h0 (fun z => h3 (Or.inl z)) (fun z => h3 (Or.inr z)) ho
theorem LnOK.semi {gG gm : G} {p L n : Nat} (hT : Toks T 0 K kd ps sz nm) (h : LnOK T K B kd ps sz nm p L n gG gm) (hk : kd p = 53) : LnOK T K B kd ps sz nm (p + 1) L n (up gG 13 2 (nI (p + 1))) (up gm 47 8 (nI (p + 1))) := by
  obtain ⟨hG, hM, ⟨O, o1, o2⟩, hL⟩ := h
  have hp : p < K := kdK hT hG.2.1 hk (by decide) (by decide)
  have hq := quiet (B := B) (ps := ps) (sz := sz) (nm := nm) (kd := kd) (p := p) (by omega) (by omega) (by rw [hk]; rfl)
  refine ⟨hG.go hp, hM.go hq, ⟨O, o1, by rw [up_other (by decide)]; exact o2⟩, fun z => ?_⟩
  obtain ⟨l1, l2, l3, l4, l5, l6⟩ := hL (fun i hi => z i (by omega))
  unfold Lin
  rw [hq.2]
  exact ⟨by rw [up_other (by decide)]; exact l1, l2, by rw [up_other (by decide)]; exact l3, by rw [up_other (by decide)]; exact l4, fun j hj => by rw [up_other (by decide), up_other (by decide)]; exact l5 j hj, ords_fr (by omega) l6 (fun i hi => ⟨up_other (by decide), up_other (by decide)⟩) (fun a i a1 a2 hi => by rw [up_ne (by omega)]) (fun a k a1 a2 hk => by rw [up_ne (by omega)])⟩
theorem train_loop (hB : Bok T B) (hT : Toks T 0 K kd ps sz nm) : ∀ (d p : Nat), K = p + d → ∀ (fc fm i L n : Nat) (gG gm : G), d < fc → d + 1 < fm → 2 * i ≤ p → LnOK T K B kd ps sz nm p L n gG gm → (∃ gG' gm' L' n', k0_firstMisfit_14 fc (nI i) gG = some (-1, gG') ∧ k11_train_0 fm gm = some gm' ∧ kd K = 33 ∧ LnOK T K B kd ps sz nm K L' n' gG' gm' ∧ lC gG gG' ∧ lG gm gm') ∨ (∃ gG' gm' q, k0_firstMisfit_14 fc (nI i) gG = some (nI q, gG') ∧ k11_train_0 fm gm = some gm' ∧ q ≤ K ∧ WM q gm' ∧ lC gG gG' ∧ lG gm gm') := by
  have hK := hT.2.1
  intro d
  induction d using Nat.strongRecOn with
  | _ d ih =>
    intro p hd fc fm i L n gG gm hfc hfm hi h
    obtain ⟨fc, rfl⟩ : ∃ z, fc = z + 1 := ⟨fc - 1, by omega⟩
    obtain ⟨fm, rfl⟩ : ∃ z, fm = z + 1 := ⟨fm - 1, by omega⟩
    obtain ⟨fm, rfl⟩ : ∃ z, fm = z + 1 := ⟨fm - 1, by omega⟩
    obtain ⟨hG, hM, -, -⟩ := id h
    have hpK := hG.2.1
    have hk64 := (hT.ok hpK).2
    have i400 : ¬ (400 : Int32) ≤ nI i := fun z => absurd ((lit_le (M := 400) (k := 400) rfl (by omega) (by omega)).mp z) (by omega)
    have n33 := next_c hT hG.1 hpK hG.2.2.1 (s := 33) (c := 0) (by decide) (by decide) rfl
    by_cases e33 : kd p = 33
    · have hpe : p = K := by
        rcases Nat.lt_or_ge p K with z | z
        · have := (hT.2.2.1 p (by omega) z).1
          unfold okS at this
          omega
        · omega
      subst hpe
      refine Or.inl ⟨gG, gm, L, n, ?_, ?_, e33, h, lC.refl, lG.refl⟩
      · unfold k0_firstMisfit_14 k0_firstMisfit_56
        rw [if_neg i400, n33, if_pos e33, some_bind, if_neg (by decide), some_bind, if_neg (by decide)]
      · unfold k11_train_0
        rw [if_pos hM.2.1, hM.1, ld_n (by omega) (by omega), (hM.2.2.1.2.1 _ (by omega) hpK).1, if_pos (by rw [e33]; rfl)]
    · have hstepC : k0_firstMisfit_14 (fc + 1) (nI i) gG = (k0_line gG).bind fun u6 => if u6.1 = 0 then k0_firstMisfit_45 u6.2 else (k0_take 59 u6.2).bind fun u8 => if u8.1 = 0 then k0_firstMisfit_45 u8.2 else bd (nI i + 1) fun x10 => k0_firstMisfit_14 fc x10 u8.2 := by
        conv => lhs; unfold k0_firstMisfit_14
        rw [if_neg i400, n33, if_neg e33, some_bind, if_pos rfl]
      have hstepM : k11_train_0 (fm + 1 + 1) gm = (k11_line gm).bind fun g4 => (k11_take 53 g4).bind fun g5 => k11_train_0 (fm + 1) g5 := by
        conv => lhs; unfold k11_train_0
        rw [if_pos hM.2.1, hM.1, ld_n (by omega) (by omega), (hM.2.2.1.2.1 _ (by omega) hpK).1, if_neg (show ¬ nI (kd p) = 33 from fun z => e33 ((nI_eq (a := kd p) (b := 33) (by omega) (by omega)).mp z))]
      rw [hstepC, hstepM]
      rcases any_line hB hT h with ⟨gG', gm', p', L', n', x1, x2, y1, y2, y3, y4⟩ | ⟨gG', gm', q, x1, x2, y1, y2, y3, y4, y5⟩
      · obtain ⟨hG', hM', -, -⟩ := id y2
        have hp'K := hG'.2.1
        rw [x1, x2, some_bind, some_bind]
        dsimp only
        rw [if_neg (show ¬ (1 : Int32) = 0 by decide), take_c hT hG'.1 hp'K hG'.2.2.1 (s := 53) (c := 59) (by decide) (by decide) rfl, take_m1 hT hM'.1 hM'.2.1 hp'K hM'.2.2.1 (s := 53) (c := 53) (by decide) rfl]
        by_cases e53 : kd p' = 53
        · have hp' : p' < K := kdK hT hp'K e53 (by decide) (by decide)
          rw [if_pos e53, if_pos e53, some_bind, some_bind]
          dsimp only
          rw [if_neg (show ¬ (1 : Int32) = 0 by decide), bd_eq, nI_1]
          rcases ih (K - (p' + 1)) (by omega) (p' + 1) (by omega) fc (fm + 1) (i + 1) L' n' _ _ (by omega) (by omega) (by omega) (y2.semi hT e53) with ⟨a, b, L2, n2, a1, a2, a3, a4, a5, a6⟩ | ⟨a, b, q, a1, a2, a3, a4, a5, a6⟩
          · exact Or.inl ⟨a, b, L2, n2, a1, a2, a3, a4, y3.trans (at_l.trans a5), y4.trans (f47_tok.l.trans a6)⟩
          · exact Or.inr ⟨a, b, q, a1, a2, a3, a4, y3.trans (at_l.trans a5), y4.trans (f47_tok.l.trans a6)⟩
        · rw [if_neg e53, if_neg e53, some_bind, some_bind]
          dsimp only
          rw [if_pos rfl]
          refine Or.inr ⟨gG', wr p' gm', p', ?_, ?_, hp'K, wr_WM hM'.1, y3, y4.trans f47_wr.l⟩
          · unfold k0_firstMisfit_45
            rw [hG'.1]
          · unfold k11_train_0
            rw [if_neg (by rw [(wr_WM hM'.1).1]; decide)]
      · rw [x1, x2, some_bind, some_bind]
        dsimp only
        rw [if_pos rfl, take_w y3.1, some_bind]
        refine Or.inr ⟨gG', gm', q, ?_, ?_, y1, y3, y4, y5⟩
        · unfold k0_firstMisfit_45
          rw [y2]
        · unfold k11_train_0
          rw [if_neg (by rw [y3.1]; decide)]
end TK
