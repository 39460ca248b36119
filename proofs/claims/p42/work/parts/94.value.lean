/-! the law reckons a tree: what the steps answer -/
theorem nsL (s : Nat) (hs : s < 100) : ∀ k, k < 100 → (nI s = nI k ↔ s = k) := fun k hk => nI_eq (by omega) (by omega)
theorem value_ok {N : Nat} {S : ZS} {t : Nat} {A : TA} (h : TT S t A) (hA : WA A) (hW : WW A) (hN : A.N = N) : ∀ d b c l D, d ≤ D → TS N d b S c l → kRX10_value D c t S = some (valS A l, S) ∧ (b = true → valS A l = 0 ∨ valS A l = 1) := by
  subst hN
  have hN9 := hA.N9
  intro d
  induction d with
  | zero => intro b c l D _ hs; exact hs.elim
  | succ d ih =>
    intro b c l D hD hs
    obtain ⟨D, rfl⟩ : ∃ z, D = z + 1 := ⟨D - 1, by omega⟩
    obtain ⟨h1, s, h2, h3⟩ := hs
    show kbX10_value (kRX10_value D) c t S = _ ∧ _
    have lit : ∀ {x : Int32}, chk Prod.snd S (some (x, S)) = some (x, S) := fun {x} => chk_of rfl (Nat.le_refl _) (Nat.le_refl _)
    have n1 : ∀ f : Int32 → Option (Int32 × ZS), gI S c 12 1 f = f (S.i (c / 2) 1) := fun f => gI_o h1
    rcases h3 with ⟨h3, h4, h5⟩ | ⟨h3, l1, h4, h5⟩ | ⟨h3, l1, l2, h4, h5, h6⟩
    · subst h4
      rw [val_leaf h5]
      rcases h3 with ⟨hb, h3⟩ | ⟨hb, h3⟩
      · refine ⟨?_, fun z => by rw [hb] at z; cases z⟩
        unfold kbX10_value
        refine chk_of ?_ (Nat.le_refl _) (Nat.le_refl _)
        rw [gI_o h1, h2]
        rcases (show s = 0 ∨ s = 1 ∨ s = 2 ∨ s = 3 ∨ s = 4 ∨ s = 5 ∨ s = 6 ∨ s = 7 ∨ s = 8 by omega) with rfl | rfl | rfl | rfl | rfl | rfl | rfl | rfl | rfl
        · rw [if_pos (by decide), n1]
          rfl
        · rw [if_neg (by decide), if_pos (by decide), gI_o h.o, h.mi]
          rfl
        · rw [if_neg (by decide), if_neg (by decide), if_pos (by decide), rcv_o h.o, k_end h hA hW, b2_s, lit]
          rfl
        · rw [if_neg (by decide), if_neg (by decide), if_neg (by decide), if_pos (by decide), gN_o h.o h.aj.ne0, aL_n h.aj]
          rfl
        · obtain ⟨m, hm, em⟩ : ∃ m, m < A.N ∧ S.i (c / 2) 1 = nI m := by
            rcases h5 with z | z | z | z | z | z | ⟨-, z⟩ <;> first | exact z | cases z
          obtain ⟨a1, a2, a3, a4⟩ := h.m hm
          have g2 : ∀ f : Int32 → Option (Int32 × ZS), aG S (S.r (S.r (t / 2) 2 / 2) m) 100000 2 f = f (S.i (S.r (S.r (t / 2) 2 / 2) m / 2) 2) := fun f => aG_n (j := 2) a1 (by omega)
          iterate 4 rw [if_neg (by decide)]
          rw [if_pos (by decide), gN_o h.o h.am.ne0, n1, em, aN_n h.am hm a1.ne0, g2, a4]
          show _ = some (A.of (nI m).toNatClampNeg, S)
          rw [nI_clamp (by omega)]
        · obtain ⟨m, hm, em⟩ : ∃ m, m < A.N ∧ S.i (c / 2) 1 = nI m := by
            rcases h5 with z | z | z | z | z | z | ⟨-, z⟩ <;> first | exact z | cases z
          obtain ⟨a1, a2, a3, a4⟩ := h.m hm
          have g2 : ∀ f : Int32 → Option (Int32 × ZS), aG S (S.r (S.r (t / 2) 2 / 2) m) 100000 0 f = f (S.i (S.r (S.r (t / 2) 2 / 2) m / 2) 0) := fun f => aG_n (j := 0) a1 (by omega)
          iterate 5 rw [if_neg (by decide)]
          rw [if_pos (by decide), gN_o h.o h.am.ne0, n1, em, aN_n h.am hm a1.ne0, g2, a2]
          show _ = some (A.cl (nI m).toNatClampNeg, S)
          rw [nI_clamp (by omega)]
        · obtain ⟨m, hm, em⟩ : ∃ m, m < A.N ∧ S.i (c / 2) 1 = nI m := by
            rcases h5 with z | z | z | z | z | z | ⟨-, z⟩ <;> first | exact z | cases z
          obtain ⟨a1, a2, a3, a4⟩ := h.m hm
          have g2 : ∀ f : Int32 → Option (Int32 × ZS), aG S (S.r (S.r (t / 2) 2 / 2) m) 100000 1 f = f (S.i (S.r (S.r (t / 2) 2 / 2) m / 2) 1) := fun f => aG_n (j := 1) a1 (by omega)
          iterate 6 rw [if_neg (by decide)]
          rw [if_pos (by decide), gN_o h.o h.am.ne0, n1, em, aN_n h.am hm a1.ne0, g2, a3]
          show _ = some (A.be (nI m).toNatClampNeg, S)
          rw [nI_clamp (by omega)]
        · obtain ⟨m, hm, em⟩ : ∃ m, m < A.N ∧ S.i (c / 2) 1 = nI m := by
            rcases h5 with z | z | z | z | z | z | ⟨-, z⟩ <;> first | exact z | cases z
          have hp := (plc_lt hA hm).1
          iterate 7 rw [if_neg (by decide)]
          rw [if_pos (by decide), n1, em, rcv_o h.o, k_place h hA hm, b2_s]
          show chk _ _ (rcv S t 14 _) = some (lsA A (plc A (nI m).toNatClampNeg), S)
          rw [nI_clamp (by omega), rcv_o h.o, k_light h hA hW (by omega), b2_s]
          refine chk_of (chk_of ?_ (Nat.le_refl _) (Nat.le_refl _)) (Nat.le_refl _) (Nat.le_refl _)
          rw [n1, em, rcv_o h.o, k_place h hA hm, b2_s, nI_1]
          refine chk_of ?_ (Nat.le_refl _) (Nat.le_refl _)
          rw [rcv_o h.o, k_light h hA hW (by omega), b2_s]
          exact chk_of rfl (Nat.le_refl _) (Nat.le_refl _)
        · obtain ⟨m, hm, em⟩ : ∃ m, m < A.N ∧ S.i (c / 2) 1 = nI m := by
            rcases h5 with z | z | z | z | z | z | ⟨-, z⟩ <;> first | exact z | cases z
          have hp := (plc_lt hA hm).1
          iterate 8 rw [if_neg (by decide)]
          rw [if_pos (by decide), n1, em, rcv_o h.o, k_place h hA hm, b2_s, nI_1]
          show chk _ _ (rcv S t 14 _) = some (tlt A (plc A (nI m).toNatClampNeg + 1), S)
          rw [nI_clamp (by omega), rcv_o h.o, k_tilt h hA (by omega), b2_s]
          exact chk_of (chk_of rfl (Nat.le_refl _) (Nat.le_refl _)) (Nat.le_refl _) (Nat.le_refl _)
      · rcases h3 with rfl | rfl
        · refine ⟨?_, fun _ => snA_01⟩
          unfold kbX10_value
          refine chk_of ?_ (Nat.le_refl _) (Nat.le_refl _)
          rw [gI_o h1, h2]
          iterate 10 rw [if_neg (by decide)]
          rw [if_pos (by decide), rcv_o h.o, k_isSeen h hA hW, b2_s]
          show _ = some (snA A, S)
          refine chk_of ?_ (Nat.le_refl _) (Nat.le_refl _)
          rcases snA_01 (A := A) with z | z
          · rw [z]; rfl
          · rw [z]; rfl
        · refine ⟨?_, fun _ => wtA_01⟩
          obtain ⟨m, hm, em⟩ : ∃ m, m < A.N ∧ S.i (c / 2) 1 = nI m := by
            rcases h5 with z | z | z | z | z | z | ⟨-, z⟩ <;> first | exact z | cases z
          unfold kbX10_value
          refine chk_of ?_ (Nat.le_refl _) (Nat.le_refl _)
          rw [gI_o h1, h2]
          iterate 11 rw [if_neg (by decide)]
          rw [if_pos (by decide), n1, em, rcv_o h.o, k_waits h hA hm, b2_s]
          show _ = some (wtA A (nI m).toNatClampNeg, S)
          rw [nI_clamp (by omega)]
          refine chk_of ?_ (Nat.le_refl _) (Nat.le_refl _)
          rcases wtA_01 (A := A) (m := m) with z | z
          · rw [z]; rfl
          · rw [z]; rfl
    · subst h5
      obtain ⟨e1, e2⟩ := ih b _ l1 D (by omega) h4
      have hev := (TS.ev _ _ _ _ h4).2 A
      rw [val_un hev]
      have ho := h4.o
      rcases h3 with ⟨hb, rfl⟩ | ⟨hb, rfl⟩
      · refine ⟨?_, fun z => by rw [hb] at z; cases z⟩
        unfold kbX10_value
        refine chk_of ?_ (Nat.le_refl _) (Nat.le_refl _)
        rw [gI_o h1, h2]
        iterate 9 rw [if_neg (by decide)]
        rw [if_pos (by decide), gN_o h1 ho.ne0, rcv_o ho, e1, b2_s, if_pos rfl, ← neg_eq]
        exact chk_of rfl (Nat.le_refl _) (Nat.le_refl _)
      · refine ⟨?_, fun _ => by rw [if_neg (by decide)]; exact one_01 (e2 hb)⟩
        unfold kbX10_value
        refine chk_of ?_ (Nat.le_refl _) (Nat.le_refl _)
        rw [gI_o h1, h2]
        iterate 12 rw [if_neg (by decide)]
        rw [if_pos (by decide), gN_o h1 ho.ne0, rcv_o ho, e1, b2_s, if_neg (by decide)]
        exact chk_of rfl (Nat.le_refl _) (Nat.le_refl _)
    · subst h6
      obtain ⟨e1, e2⟩ := ih _ _ l1 D (by omega) h4
      obtain ⟨e3, e4⟩ := ih _ _ l2 D (by omega) h5
      have hev := (TS.ev _ _ _ _ h4).2 A
      have hev2 := (TS.ev _ _ _ _ h5).2 A
      rw [val_bi hev hev2 h3]
      have ho := h4.o
      have ho2 := h5.o
      have h24 : 24 ≤ s → (valS A l1 = 0 ∨ valS A l1 = 1) ∧ (valS A l2 = 0 ∨ valS A l2 = 1) := fun z => ⟨e2 (decide_eq_true z), e4 (decide_eq_true z)⟩
      have hs : 10 ≤ s ∧ s ≤ 25 ∧ s ≠ 21 ∧ s ≠ 22 ∧ s ≠ 23 := by
        rcases h3 with ⟨-, z⟩ | ⟨-, z⟩ <;> omega
      refine ⟨?_, fun z => ?_⟩
      · have ns : ∀ k : Nat, k < 100 → s ≠ k → ¬ nI s = nI k := fun k hk z y => z (nI_inj (by omega) (by omega) y)
        unfold kbX10_value
        refine chk_of ?_ (Nat.le_refl _) (Nat.le_refl _)
        rw [gI_o h1, h2, if_neg (show ¬ nI s = 0 from ns 0 (by omega) (by omega)), if_neg (show ¬ nI s = 1 from ns 1 (by omega) (by omega)), if_neg (show ¬ nI s = 2 from ns 2 (by omega) (by omega)), if_neg (show ¬ nI s = 3 from ns 3 (by omega) (by omega)), if_neg (show ¬ nI s = 4 from ns 4 (by omega) (by omega)), if_neg (show ¬ nI s = 5 from ns 5 (by omega) (by omega)), if_neg (show ¬ nI s = 6 from ns 6 (by omega) (by omega)), if_neg (show ¬ nI s = 7 from ns 7 (by omega) (by omega)), if_neg (show ¬ nI s = 8 from ns 8 (by omega) (by omega)), if_neg (show ¬ nI s = 9 from ns 9 (by omega) (by omega)), if_neg (show ¬ nI s = 21 from ns 21 (by omega) (by omega)), if_neg (show ¬ nI s = 22 from ns 22 (by omega) (by omega)), if_neg (show ¬ nI s = 23 from ns 23 (by omega) (by omega))]
        unfold kX10_value_268
        rw [gI_o h1, h2, gN_o h1 ho.ne0, rcv_o ho, e1, b2_s]
        refine chk_of ?_ (Nat.le_refl _) (Nat.le_refl _)
        rw [gN_o h1 ho2.ne0, rcv_o ho2, e3, b2_s]
        refine chk_of ?_ (Nat.le_refl _) (Nat.le_refl _)
        rw [both_ok h3 h24, b2_s]
        exact chk_of rfl (Nat.le_refl _) (Nat.le_refl _)
      · subst z
        exact join_01 h3 h24
theorem k_value {N : Nat} {S : ZS} {t c : Nat} {b : Bool} {l : List SS} {A : TA} (h : TT S t A) (hA : WA A) (hW : WW A) (hN : A.N = N) (hs : TS N 12 b S c l) : kX10_value c t S = some (valS A l, S) ∧ (b = true → valS A l = 0 ∨ valS A l = 1) := value_ok h hA hW hN 12 b c l 12 (Nat.le_refl _) hs
theorem k_held {x : Int64} {lo hi : Int32} {S : ZS} (h : lo ≤ hi) : kX11_held x lo hi S = some (holdV x lo hi, S) := by
  have hle : lo.toInt64 ≤ hi.toInt64 := Int64.le_iff_toInt_le.mpr (by rw [Int32.toInt_toInt64, Int32.toInt_toInt64]; exact Int32.le_iff_toInt_le.mp h)
  have back : ∀ z : Int32, z.toInt64.toInt32 = z := fun z => Int32.toInt_inj.mp (by
    have a1 := Int32.le_toInt z
    have a2 := Int32.toInt_lt z
    rw [Int64.toInt_toInt32, Int32.toInt_toInt64, Int.bmod_eq_of_le (by omega) (by omega)])
  unfold kX11_held holdV
  refine chk_of ?_ (Nat.le_refl _) (Nat.le_refl _)
  by_cases e1 : lo.toInt64 ≤ x
  · rw [if_pos ((lg_cmp_ge _ _).mpr e1)]
    by_cases e2 : x ≤ hi.toInt64
    · rw [if_pos ((lg_cmp_le _ _).mpr e2)]
      have e3 : (if x < hi.toInt64 then x else hi.toInt64) = x := by
        by_cases z : x < hi.toInt64
        · rw [if_pos z]
        · rw [if_neg z]
          exact Int64.le_antisymm (Int64.not_lt.mp z) e2
      rw [e3, if_neg (Int64.not_lt.mpr e1)]
    · rw [if_neg (fun z => e2 ((lg_cmp_le _ _).mp z)), if_neg (fun z => e2 (Int64.le_of_lt z)), if_neg (Int64.not_lt.mpr hle), back]
  · rw [if_neg (fun z => e1 ((lg_cmp_ge _ _).mp z))]
    have e2 : x < lo.toInt64 := Int64.not_le.mp e1
    have e3 : x < hi.toInt64 ∨ ¬ x < hi.toInt64 := Classical.em _
    rcases e3 with e3 | e3
    · rw [if_pos e3, if_pos e2, back]
    · exact absurd (Int64.le_trans hle (Int64.not_lt.mp e3)) (fun z => e1 z)
