/-! the text of a tree, case by case -/
set_option maxRecDepth 20000 in
set_option maxHeartbeats 4000000 in
theorem text_step {N d a w X Y L : Nat} {b : Bool} {S : ZS} {c : Nat} {l : List SS} {i : List It} {R : Nat → ZS → Option (Nat × ZS)} (h : TX N (d + 1) b S c l i) (HR : ∀ b c l i S, TX N d b S c l i → a ≤ S.c → w ≤ S.w → ∃ e S', R c S = some (e, S') ∧ SX S' e (spl i) ∧ Ste NO a w S S') (hL : (spl i).length ≤ L) (hL2 : L < 18000) (hX : 2 * a + 11 ≤ X) (hY : 2 * w + 12 * L + 40 ≤ Y) (hx : X ≤ S.c) (hy : Y ≤ S.w) : TxR (kbX10_text R c S) S S (spl i) X Y := by
  obtain ⟨h0, s, hs, h⟩ := h
  unfold kbX10_text
  refine TxR.chk' ?_
  rw [gI_o h0, hs]
  rcases h with ⟨hf, n, hn, hn6, h3, h4, h5⟩ | ⟨hf, l1, i1, ht, h3, h4⟩ | ⟨hf, l1, l2, i1, i2, ht, hu, h3, h4⟩
  · subst h5
    have hsv : s = 0 ∨ s = 1 ∨ s = 2 ∨ s = 3 ∨ s = 4 ∨ s = 5 ∨ s = 6 ∨ s = 7 ∨ s = 8 ∨ s = 21 ∨ s = 22 := by
      unfold isLf at hf
      omega
    rcases hsv with rfl | rfl | rfl | rfl | rfl | rfl | rfl | rfl | rfl | rfl | rfl
    · have hW : spl (leafI 0 n) = sB 73 ++ (dc n ++ []) := rfl
      rw [hW] at hL ⊢
      rw [if_pos (show nI 0 = 0 from rfl)]
      refine tq_new Ste.refl (by omega) (by omega) (fun S1 q1 => ?_)
      refine tq_appS (k := 73) q1 (by decide) hL hL2 (by omega) (by omega) (fun S2 q2 => ?_)
      obtain ⟨o2, i2, r2⟩ := q2.rd h0
      rw [gI_o o2, i2, hn]
      refine tq_appI q2 hn6 hL hL2 (by omega) (by omega) (fun S3 q3 => ?_)
      exact tq_end q3 hL (by omega) (by omega) hx hy
    · rw [if_neg (show ¬ nI 1 = 0 by decide), if_neg (show ¬ nI 1 = 9 by decide), if_neg (show ¬ nI 1 = 10 by decide), if_neg (show ¬ nI 1 = 11 by decide), if_neg (show ¬ nI 1 = 21 by decide), if_neg (show ¬ nI 1 = 22 by decide), if_neg (show ¬ nI 1 = 23 by decide), if_neg (show ¬ nI 1 = 24 by decide), if_neg (show ¬ nI 1 = 25 by decide)]
      unfold kX10_text_409
      rw [gI_o h0, hs, if_neg (show ¬ (4 : Int32) ≤ nI 1 by decide), gI_o h0, hs, show nI 1 - 1 = nI 0 by decide, stN_n (j := 0) (by decide) (by omega)]
      exact TxR.done (d := 2 * 39 + 2) Ste.refl (SX.k (k := 39) (by decide)) (Nat.zero_le _) (Nat.zero_le _)
    · rw [if_neg (show ¬ nI 2 = 0 by decide), if_neg (show ¬ nI 2 = 9 by decide), if_neg (show ¬ nI 2 = 10 by decide), if_neg (show ¬ nI 2 = 11 by decide), if_neg (show ¬ nI 2 = 21 by decide), if_neg (show ¬ nI 2 = 22 by decide), if_neg (show ¬ nI 2 = 23 by decide), if_neg (show ¬ nI 2 = 24 by decide), if_neg (show ¬ nI 2 = 25 by decide)]
      unfold kX10_text_409
      rw [gI_o h0, hs, if_neg (show ¬ (4 : Int32) ≤ nI 2 by decide), gI_o h0, hs, show nI 2 - 1 = nI 1 by decide, stN_n (j := 0) (by decide) (by omega)]
      exact TxR.done (d := 2 * 40 + 2) Ste.refl (SX.k (k := 40) (by decide)) (Nat.zero_le _) (Nat.zero_le _)
    · rw [if_neg (show ¬ nI 3 = 0 by decide), if_neg (show ¬ nI 3 = 9 by decide), if_neg (show ¬ nI 3 = 10 by decide), if_neg (show ¬ nI 3 = 11 by decide), if_neg (show ¬ nI 3 = 21 by decide), if_neg (show ¬ nI 3 = 22 by decide), if_neg (show ¬ nI 3 = 23 by decide), if_neg (show ¬ nI 3 = 24 by decide), if_neg (show ¬ nI 3 = 25 by decide)]
      unfold kX10_text_409
      rw [gI_o h0, hs, if_neg (show ¬ (4 : Int32) ≤ nI 3 by decide), gI_o h0, hs, show nI 3 - 1 = nI 2 by decide, stN_n (j := 0) (by decide) (by omega)]
      exact TxR.done (d := 2 * 41 + 2) Ste.refl (SX.k (k := 41) (by decide)) (Nat.zero_le _) (Nat.zero_le _)
    · have hW : spl (leafI 4 n) = sB 42 ++ (sB 87 ++ (dc n ++ [])) := rfl
      rw [hW] at hL ⊢
      rw [if_neg (show ¬ nI 4 = 0 by decide), if_neg (show ¬ nI 4 = 9 by decide), if_neg (show ¬ nI 4 = 10 by decide), if_neg (show ¬ nI 4 = 11 by decide), if_neg (show ¬ nI 4 = 21 by decide), if_neg (show ¬ nI 4 = 22 by decide), if_neg (show ¬ nI 4 = 23 by decide), if_neg (show ¬ nI 4 = 24 by decide), if_neg (show ¬ nI 4 = 25 by decide)]
      unfold kX10_text_409
      rw [gI_o h0, hs, if_pos (show (4 : Int32) ≤ nI 4 by decide), gI_o h0, hs, if_neg (show ¬ (9 : Int32) ≤ nI 4 by decide)]
      refine tq_new Ste.refl (by omega) (by omega) (fun S1 q1 => ?_)
      obtain ⟨o1, i1, r1⟩ := q1.rd h0
      rw [gI_o o1, i1, hs, show nI 4 - 1 = nI 3 by decide, stN_n (j := 0) (by decide) (by omega)]
      refine tq_appS (k := 42) q1 (by decide) hL hL2 (by omega) (by omega) (fun S2 q2 => ?_)
      refine tq_appS (k := 87) q2 (by decide) hL hL2 (by omega) (by omega) (fun S3 q3 => ?_)
      obtain ⟨o3, i3, r3⟩ := q3.rd h0
      rw [gI_o o3, i3, hn]
      refine tq_appI q3 hn6 hL hL2 (by omega) (by omega) (fun S4 q4 => ?_)
      exact tq_end q4 hL (by omega) (by omega) hx hy
    · have hW : spl (leafI 5 n) = sB 43 ++ (sB 87 ++ (dc n ++ [])) := rfl
      rw [hW] at hL ⊢
      rw [if_neg (show ¬ nI 5 = 0 by decide), if_neg (show ¬ nI 5 = 9 by decide), if_neg (show ¬ nI 5 = 10 by decide), if_neg (show ¬ nI 5 = 11 by decide), if_neg (show ¬ nI 5 = 21 by decide), if_neg (show ¬ nI 5 = 22 by decide), if_neg (show ¬ nI 5 = 23 by decide), if_neg (show ¬ nI 5 = 24 by decide), if_neg (show ¬ nI 5 = 25 by decide)]
      unfold kX10_text_409
      rw [gI_o h0, hs, if_pos (show (4 : Int32) ≤ nI 5 by decide), gI_o h0, hs, if_neg (show ¬ (9 : Int32) ≤ nI 5 by decide)]
      refine tq_new Ste.refl (by omega) (by omega) (fun S1 q1 => ?_)
      obtain ⟨o1, i1, r1⟩ := q1.rd h0
      rw [gI_o o1, i1, hs, show nI 5 - 1 = nI 4 by decide, stN_n (j := 0) (by decide) (by omega)]
      refine tq_appS (k := 43) q1 (by decide) hL hL2 (by omega) (by omega) (fun S2 q2 => ?_)
      refine tq_appS (k := 87) q2 (by decide) hL hL2 (by omega) (by omega) (fun S3 q3 => ?_)
      obtain ⟨o3, i3, r3⟩ := q3.rd h0
      rw [gI_o o3, i3, hn]
      refine tq_appI q3 hn6 hL hL2 (by omega) (by omega) (fun S4 q4 => ?_)
      exact tq_end q4 hL (by omega) (by omega) hx hy
    · have hW : spl (leafI 6 n) = sB 44 ++ (sB 87 ++ (dc n ++ [])) := rfl
      rw [hW] at hL ⊢
      rw [if_neg (show ¬ nI 6 = 0 by decide), if_neg (show ¬ nI 6 = 9 by decide), if_neg (show ¬ nI 6 = 10 by decide), if_neg (show ¬ nI 6 = 11 by decide), if_neg (show ¬ nI 6 = 21 by decide), if_neg (show ¬ nI 6 = 22 by decide), if_neg (show ¬ nI 6 = 23 by decide), if_neg (show ¬ nI 6 = 24 by decide), if_neg (show ¬ nI 6 = 25 by decide)]
      unfold kX10_text_409
      rw [gI_o h0, hs, if_pos (show (4 : Int32) ≤ nI 6 by decide), gI_o h0, hs, if_neg (show ¬ (9 : Int32) ≤ nI 6 by decide)]
      refine tq_new Ste.refl (by omega) (by omega) (fun S1 q1 => ?_)
      obtain ⟨o1, i1, r1⟩ := q1.rd h0
      rw [gI_o o1, i1, hs, show nI 6 - 1 = nI 5 by decide, stN_n (j := 0) (by decide) (by omega)]
      refine tq_appS (k := 44) q1 (by decide) hL hL2 (by omega) (by omega) (fun S2 q2 => ?_)
      refine tq_appS (k := 87) q2 (by decide) hL hL2 (by omega) (by omega) (fun S3 q3 => ?_)
      obtain ⟨o3, i3, r3⟩ := q3.rd h0
      rw [gI_o o3, i3, hn]
      refine tq_appI q3 hn6 hL hL2 (by omega) (by omega) (fun S4 q4 => ?_)
      exact tq_end q4 hL (by omega) (by omega) hx hy
    · have hW : spl (leafI 7 n) = sB 45 ++ (sB 87 ++ (dc n ++ [])) := rfl
      rw [hW] at hL ⊢
      rw [if_neg (show ¬ nI 7 = 0 by decide), if_neg (show ¬ nI 7 = 9 by decide), if_neg (show ¬ nI 7 = 10 by decide), if_neg (show ¬ nI 7 = 11 by decide), if_neg (show ¬ nI 7 = 21 by decide), if_neg (show ¬ nI 7 = 22 by decide), if_neg (show ¬ nI 7 = 23 by decide), if_neg (show ¬ nI 7 = 24 by decide), if_neg (show ¬ nI 7 = 25 by decide)]
      unfold kX10_text_409
      rw [gI_o h0, hs, if_pos (show (4 : Int32) ≤ nI 7 by decide), gI_o h0, hs, if_neg (show ¬ (9 : Int32) ≤ nI 7 by decide)]
      refine tq_new Ste.refl (by omega) (by omega) (fun S1 q1 => ?_)
      obtain ⟨o1, i1, r1⟩ := q1.rd h0
      rw [gI_o o1, i1, hs, show nI 7 - 1 = nI 6 by decide, stN_n (j := 0) (by decide) (by omega)]
      refine tq_appS (k := 45) q1 (by decide) hL hL2 (by omega) (by omega) (fun S2 q2 => ?_)
      refine tq_appS (k := 87) q2 (by decide) hL hL2 (by omega) (by omega) (fun S3 q3 => ?_)
      obtain ⟨o3, i3, r3⟩ := q3.rd h0
      rw [gI_o o3, i3, hn]
      refine tq_appI q3 hn6 hL hL2 (by omega) (by omega) (fun S4 q4 => ?_)
      exact tq_end q4 hL (by omega) (by omega) hx hy
    · have hW : spl (leafI 8 n) = sB 46 ++ (sB 87 ++ (dc n ++ [])) := rfl
      rw [hW] at hL ⊢
      rw [if_neg (show ¬ nI 8 = 0 by decide), if_neg (show ¬ nI 8 = 9 by decide), if_neg (show ¬ nI 8 = 10 by decide), if_neg (show ¬ nI 8 = 11 by decide), if_neg (show ¬ nI 8 = 21 by decide), if_neg (show ¬ nI 8 = 22 by decide), if_neg (show ¬ nI 8 = 23 by decide), if_neg (show ¬ nI 8 = 24 by decide), if_neg (show ¬ nI 8 = 25 by decide)]
      unfold kX10_text_409
      rw [gI_o h0, hs, if_pos (show (4 : Int32) ≤ nI 8 by decide), gI_o h0, hs, if_neg (show ¬ (9 : Int32) ≤ nI 8 by decide)]
      refine tq_new Ste.refl (by omega) (by omega) (fun S1 q1 => ?_)
      obtain ⟨o1, i1, r1⟩ := q1.rd h0
      rw [gI_o o1, i1, hs, show nI 8 - 1 = nI 7 by decide, stN_n (j := 0) (by decide) (by omega)]
      refine tq_appS (k := 46) q1 (by decide) hL hL2 (by omega) (by omega) (fun S2 q2 => ?_)
      refine tq_appS (k := 87) q2 (by decide) hL hL2 (by omega) (by omega) (fun S3 q3 => ?_)
      obtain ⟨o3, i3, r3⟩ := q3.rd h0
      rw [gI_o o3, i3, hn]
      refine tq_appI q3 hn6 hL hL2 (by omega) (by omega) (fun S4 q4 => ?_)
      exact tq_end q4 hL (by omega) (by omega) hx hy
    · rw [if_neg (show ¬ nI 21 = 0 by decide), if_neg (show ¬ nI 21 = 9 by decide), if_neg (show ¬ nI 21 = 10 by decide), if_neg (show ¬ nI 21 = 11 by decide), if_pos (show nI 21 = 21 from rfl)]
      exact TxR.done (d := 2 * 80 + 2) Ste.refl (SX.k (k := 80) (by decide)) (Nat.zero_le _) (Nat.zero_le _)
    · have hW : spl (leafI 22 n) = sB 81 ++ (dc n ++ []) := rfl
      rw [hW] at hL ⊢
      rw [if_neg (show ¬ nI 22 = 0 by decide), if_neg (show ¬ nI 22 = 9 by decide), if_neg (show ¬ nI 22 = 10 by decide), if_neg (show ¬ nI 22 = 11 by decide), if_neg (show ¬ nI 22 = 21 by decide), if_pos (show nI 22 = 22 from rfl)]
      refine tq_new Ste.refl (by omega) (by omega) (fun S1 q1 => ?_)
      refine tq_appS (k := 81) q1 (by decide) hL hL2 (by omega) (by omega) (fun S2 q2 => ?_)
      obtain ⟨o2, i2, r2⟩ := q2.rd h0
      rw [gI_o o2, i2, hn]
      refine tq_appI q2 hn6 hL hL2 (by omega) (by omega) (fun S3 q3 => ?_)
      exact tq_end q3 hL (by omega) (by omega) hx hy
  · subst h4
    have hsv : s = 9 ∨ s = 23 := by
      unfold isUn at hf
      omega
    rcases hsv with rfl | rfl
    · have hW : spl (unI 9 ++ i1) = sB 74 ++ (spl i1 ++ []) := by
        rw [spl_app, List.append_nil]
        rfl
      rw [hW] at hL ⊢
      rw [if_neg (show ¬ nI 9 = 0 by decide), if_pos (show nI 9 = 9 from rfl)]
      refine tq_new Ste.refl (by omega) (by omega) (fun S1 q1 => ?_)
      refine tq_appS (k := 74) q1 (by decide) hL hL2 (by omega) (by omega) (fun S2 q2 => ?_)
      obtain ⟨o2, j2, r2⟩ := q2.rd h0
      have t2 := q2.tx ht
      have m2 := q2.rm
      rw [gN_o o2 (by rw [r2]; exact (TX.o ht).ne0), r2]
      refine tq_rec q2 (TX.o t2) (HR _ _ _ _ _ t2 (by omega) (by omega)) (fun e3 S3 k3 q3 => ?_)
      refine tq_app q3 k3 hL hL2 (by omega) (by omega) (fun S4 q4 => ?_)
      exact tq_end q4 hL (by omega) (by omega) hx hy
    · have hW : spl (unI 23 ++ i1) = sB 82 ++ (spl i1 ++ []) := by
        rw [spl_app, List.append_nil]
        rfl
      rw [hW] at hL ⊢
      rw [if_neg (show ¬ nI 23 = 0 by decide), if_neg (show ¬ nI 23 = 9 by decide), if_neg (show ¬ nI 23 = 10 by decide), if_neg (show ¬ nI 23 = 11 by decide), if_neg (show ¬ nI 23 = 21 by decide), if_neg (show ¬ nI 23 = 22 by decide), if_pos (show nI 23 = 23 from rfl)]
      refine tq_new Ste.refl (by omega) (by omega) (fun S1 q1 => ?_)
      refine tq_appS (k := 82) q1 (by decide) hL hL2 (by omega) (by omega) (fun S2 q2 => ?_)
      obtain ⟨o2, j2, r2⟩ := q2.rd h0
      have t2 := q2.tx ht
      have m2 := q2.rm
      rw [gN_o o2 (by rw [r2]; exact (TX.o ht).ne0), r2]
      refine tq_rec q2 (TX.o t2) (HR _ _ _ _ _ t2 (by omega) (by omega)) (fun e3 S3 k3 q3 => ?_)
      refine tq_app q3 k3 hL hL2 (by omega) (by omega) (fun S4 q4 => ?_)
      exact tq_end q4 hL (by omega) (by omega) hx hy
  · subst h4
    have hsv : s = 10 ∨ s = 11 ∨ s = 12 ∨ s = 13 ∨ s = 14 ∨ s = 15 ∨ s = 16 ∨ s = 17 ∨ s = 18 ∨ s = 19 ∨ s = 20 ∨ s = 24 ∨ s = 25 := by
      unfold isBi at hf
      omega
    rcases hsv with rfl | rfl | rfl | rfl | rfl | rfl | rfl | rfl | rfl | rfl | rfl | rfl | rfl
    · have hW : spl (biL 10 ++ (i1 ++ (biM 10 ++ (i2 ++ biR 10)))) = sB 75 ++ (spl i1 ++ (sB 76 ++ (spl i2 ++ (sB 77 ++ [])))) := by
        rw [spl_app, spl_app, spl_app, spl_app, List.append_nil]
        rfl
      rw [hW] at hL ⊢
      rw [if_neg (show ¬ nI 10 = 0 by decide), if_neg (show ¬ nI 10 = 9 by decide), if_pos (show nI 10 = 10 from rfl)]
      refine tq_new Ste.refl (by omega) (by omega) (fun S1 q1 => ?_)
      refine tq_appS (k := 75) q1 (by decide) hL hL2 (by omega) (by omega) (fun S2 q2 => ?_)
      obtain ⟨o2, j2, r2⟩ := q2.rd h0
      have t2 := q2.tx ht
      have m2 := q2.rm
      rw [gN_o o2 (by rw [r2]; exact (TX.o ht).ne0), r2]
      refine tq_rec q2 (TX.o t2) (HR _ _ _ _ _ t2 (by omega) (by omega)) (fun e3 S3 k3 q3 => ?_)
      refine tq_app q3 k3 hL hL2 (by omega) (by omega) (fun S4 q4 => ?_)
      refine tq_appS (k := 76) q4 (by decide) hL hL2 (by omega) (by omega) (fun S5 q5 => ?_)
      obtain ⟨o5, j5, r5⟩ := q5.rd h0
      have t5 := q5.tx hu
      have m5 := q5.rm
      rw [gN_o o5 (by rw [r5]; exact (TX.o hu).ne0), r5]
      refine tq_rec q5 (TX.o t5) (HR _ _ _ _ _ t5 (by omega) (by omega)) (fun e6 S6 k6 q6 => ?_)
      refine tq_app q6 k6 hL hL2 (by omega) (by omega) (fun S7 q7 => ?_)
      refine tq_appS (k := 77) q7 (by decide) hL hL2 (by omega) (by omega) (fun S8 q8 => ?_)
      exact tq_end q8 hL (by omega) (by omega) hx hy
    · have hW : spl (biL 11 ++ (i1 ++ (biM 11 ++ (i2 ++ biR 11)))) = sB 78 ++ (spl i1 ++ (sB 79 ++ (spl i2 ++ (sB 77 ++ [])))) := by
        rw [spl_app, spl_app, spl_app, spl_app, List.append_nil]
        rfl
      rw [hW] at hL ⊢
      rw [if_neg (show ¬ nI 11 = 0 by decide), if_neg (show ¬ nI 11 = 9 by decide), if_neg (show ¬ nI 11 = 10 by decide), if_pos (show nI 11 = 11 from rfl)]
      refine tq_new Ste.refl (by omega) (by omega) (fun S1 q1 => ?_)
      refine tq_appS (k := 78) q1 (by decide) hL hL2 (by omega) (by omega) (fun S2 q2 => ?_)
      obtain ⟨o2, j2, r2⟩ := q2.rd h0
      have t2 := q2.tx ht
      have m2 := q2.rm
      rw [gN_o o2 (by rw [r2]; exact (TX.o ht).ne0), r2]
      refine tq_rec q2 (TX.o t2) (HR _ _ _ _ _ t2 (by omega) (by omega)) (fun e3 S3 k3 q3 => ?_)
      refine tq_app q3 k3 hL hL2 (by omega) (by omega) (fun S4 q4 => ?_)
      refine tq_appS (k := 79) q4 (by decide) hL hL2 (by omega) (by omega) (fun S5 q5 => ?_)
      obtain ⟨o5, j5, r5⟩ := q5.rd h0
      have t5 := q5.tx hu
      have m5 := q5.rm
      rw [gN_o o5 (by rw [r5]; exact (TX.o hu).ne0), r5]
      refine tq_rec q5 (TX.o t5) (HR _ _ _ _ _ t5 (by omega) (by omega)) (fun e6 S6 k6 q6 => ?_)
      refine tq_app q6 k6 hL hL2 (by omega) (by omega) (fun S7 q7 => ?_)
      refine tq_appS (k := 77) q7 (by decide) hL hL2 (by omega) (by omega) (fun S8 q8 => ?_)
      exact tq_end q8 hL (by omega) (by omega) hx hy
    · have hW : spl (biL 12 ++ (i1 ++ (biM 12 ++ (i2 ++ biR 12)))) = sB 88 ++ (spl i1 ++ (sB 47 ++ (spl i2 ++ (sB 77 ++ [])))) := by
        rw [spl_app, spl_app, spl_app, spl_app, List.append_nil]
        rfl
      rw [hW] at hL ⊢
      rw [if_neg (show ¬ nI 12 = 0 by decide), if_neg (show ¬ nI 12 = 9 by decide), if_neg (show ¬ nI 12 = 10 by decide), if_neg (show ¬ nI 12 = 11 by decide), if_neg (show ¬ nI 12 = 21 by decide), if_neg (show ¬ nI 12 = 22 by decide), if_neg (show ¬ nI 12 = 23 by decide), if_neg (show ¬ nI 12 = 24 by decide), if_neg (show ¬ nI 12 = 25 by decide)]
      unfold kX10_text_409
      rw [gI_o h0, hs, if_pos (show (4 : Int32) ≤ nI 12 by decide), gI_o h0, hs, if_pos (show (9 : Int32) ≤ nI 12 by decide), gI_o h0, hs, if_neg (show ¬ (16 : Int32) ≤ nI 12 by decide)]
      refine tq_new Ste.refl (by omega) (by omega) (fun S1 q1 => ?_)
      refine tq_appS (k := 88) q1 (by decide) hL hL2 (by omega) (by omega) (fun S2 q2 => ?_)
      obtain ⟨o2, j2, r2⟩ := q2.rd h0
      have t2 := q2.tx ht
      have m2 := q2.rm
      rw [gN_o o2 (by rw [r2]; exact (TX.o ht).ne0), r2]
      refine tq_rec q2 (TX.o t2) (HR _ _ _ _ _ t2 (by omega) (by omega)) (fun e3 S3 k3 q3 => ?_)
      refine tq_app q3 k3 hL hL2 (by omega) (by omega) (fun S4 q4 => ?_)
      obtain ⟨o4, j4, r4⟩ := q4.rd h0
      rw [gI_o o4, j4, hs, show nI 12 - 12 = nI 0 by decide, stN_n (j := 1) (by decide) (by omega)]
      refine tq_appS (k := 47) q4 (by decide) hL hL2 (by omega) (by omega) (fun S5 q5 => ?_)
      obtain ⟨o5, j5, r5⟩ := q5.rd h0
      have t5 := q5.tx hu
      have m5 := q5.rm
      rw [gN_o o5 (by rw [r5]; exact (TX.o hu).ne0), r5]
      refine tq_rec q5 (TX.o t5) (HR _ _ _ _ _ t5 (by omega) (by omega)) (fun e6 S6 k6 q6 => ?_)
      refine tq_app q6 k6 hL hL2 (by omega) (by omega) (fun S7 q7 => ?_)
      refine tq_appS (k := 77) q7 (by decide) hL hL2 (by omega) (by omega) (fun S8 q8 => ?_)
      exact tq_end q8 hL (by omega) (by omega) hx hy
    · have hW : spl (biL 13 ++ (i1 ++ (biM 13 ++ (i2 ++ biR 13)))) = sB 88 ++ (spl i1 ++ (sB 48 ++ (spl i2 ++ (sB 77 ++ [])))) := by
        rw [spl_app, spl_app, spl_app, spl_app, List.append_nil]
        rfl
      rw [hW] at hL ⊢
      rw [if_neg (show ¬ nI 13 = 0 by decide), if_neg (show ¬ nI 13 = 9 by decide), if_neg (show ¬ nI 13 = 10 by decide), if_neg (show ¬ nI 13 = 11 by decide), if_neg (show ¬ nI 13 = 21 by decide), if_neg (show ¬ nI 13 = 22 by decide), if_neg (show ¬ nI 13 = 23 by decide), if_neg (show ¬ nI 13 = 24 by decide), if_neg (show ¬ nI 13 = 25 by decide)]
      unfold kX10_text_409
      rw [gI_o h0, hs, if_pos (show (4 : Int32) ≤ nI 13 by decide), gI_o h0, hs, if_pos (show (9 : Int32) ≤ nI 13 by decide), gI_o h0, hs, if_neg (show ¬ (16 : Int32) ≤ nI 13 by decide)]
      refine tq_new Ste.refl (by omega) (by omega) (fun S1 q1 => ?_)
      refine tq_appS (k := 88) q1 (by decide) hL hL2 (by omega) (by omega) (fun S2 q2 => ?_)
      obtain ⟨o2, j2, r2⟩ := q2.rd h0
      have t2 := q2.tx ht
      have m2 := q2.rm
      rw [gN_o o2 (by rw [r2]; exact (TX.o ht).ne0), r2]
      refine tq_rec q2 (TX.o t2) (HR _ _ _ _ _ t2 (by omega) (by omega)) (fun e3 S3 k3 q3 => ?_)
      refine tq_app q3 k3 hL hL2 (by omega) (by omega) (fun S4 q4 => ?_)
      obtain ⟨o4, j4, r4⟩ := q4.rd h0
      rw [gI_o o4, j4, hs, show nI 13 - 12 = nI 1 by decide, stN_n (j := 1) (by decide) (by omega)]
      refine tq_appS (k := 48) q4 (by decide) hL hL2 (by omega) (by omega) (fun S5 q5 => ?_)
      obtain ⟨o5, j5, r5⟩ := q5.rd h0
      have t5 := q5.tx hu
      have m5 := q5.rm
      rw [gN_o o5 (by rw [r5]; exact (TX.o hu).ne0), r5]
      refine tq_rec q5 (TX.o t5) (HR _ _ _ _ _ t5 (by omega) (by omega)) (fun e6 S6 k6 q6 => ?_)
      refine tq_app q6 k6 hL hL2 (by omega) (by omega) (fun S7 q7 => ?_)
      refine tq_appS (k := 77) q7 (by decide) hL hL2 (by omega) (by omega) (fun S8 q8 => ?_)
      exact tq_end q8 hL (by omega) (by omega) hx hy
    · have hW : spl (biL 14 ++ (i1 ++ (biM 14 ++ (i2 ++ biR 14)))) = sB 88 ++ (spl i1 ++ (sB 49 ++ (spl i2 ++ (sB 77 ++ [])))) := by
        rw [spl_app, spl_app, spl_app, spl_app, List.append_nil]
        rfl
      rw [hW] at hL ⊢
      rw [if_neg (show ¬ nI 14 = 0 by decide), if_neg (show ¬ nI 14 = 9 by decide), if_neg (show ¬ nI 14 = 10 by decide), if_neg (show ¬ nI 14 = 11 by decide), if_neg (show ¬ nI 14 = 21 by decide), if_neg (show ¬ nI 14 = 22 by decide), if_neg (show ¬ nI 14 = 23 by decide), if_neg (show ¬ nI 14 = 24 by decide), if_neg (show ¬ nI 14 = 25 by decide)]
      unfold kX10_text_409
      rw [gI_o h0, hs, if_pos (show (4 : Int32) ≤ nI 14 by decide), gI_o h0, hs, if_pos (show (9 : Int32) ≤ nI 14 by decide), gI_o h0, hs, if_neg (show ¬ (16 : Int32) ≤ nI 14 by decide)]
      refine tq_new Ste.refl (by omega) (by omega) (fun S1 q1 => ?_)
      refine tq_appS (k := 88) q1 (by decide) hL hL2 (by omega) (by omega) (fun S2 q2 => ?_)
      obtain ⟨o2, j2, r2⟩ := q2.rd h0
      have t2 := q2.tx ht
      have m2 := q2.rm
      rw [gN_o o2 (by rw [r2]; exact (TX.o ht).ne0), r2]
      refine tq_rec q2 (TX.o t2) (HR _ _ _ _ _ t2 (by omega) (by omega)) (fun e3 S3 k3 q3 => ?_)
      refine tq_app q3 k3 hL hL2 (by omega) (by omega) (fun S4 q4 => ?_)
      obtain ⟨o4, j4, r4⟩ := q4.rd h0
      rw [gI_o o4, j4, hs, show nI 14 - 12 = nI 2 by decide, stN_n (j := 1) (by decide) (by omega)]
      refine tq_appS (k := 49) q4 (by decide) hL hL2 (by omega) (by omega) (fun S5 q5 => ?_)
      obtain ⟨o5, j5, r5⟩ := q5.rd h0
      have t5 := q5.tx hu
      have m5 := q5.rm
      rw [gN_o o5 (by rw [r5]; exact (TX.o hu).ne0), r5]
      refine tq_rec q5 (TX.o t5) (HR _ _ _ _ _ t5 (by omega) (by omega)) (fun e6 S6 k6 q6 => ?_)
      refine tq_app q6 k6 hL hL2 (by omega) (by omega) (fun S7 q7 => ?_)
      refine tq_appS (k := 77) q7 (by decide) hL hL2 (by omega) (by omega) (fun S8 q8 => ?_)
      exact tq_end q8 hL (by omega) (by omega) hx hy
    · have hW : spl (biL 15 ++ (i1 ++ (biM 15 ++ (i2 ++ biR 15)))) = sB 88 ++ (spl i1 ++ (sB 50 ++ (spl i2 ++ (sB 77 ++ [])))) := by
        rw [spl_app, spl_app, spl_app, spl_app, List.append_nil]
        rfl
      rw [hW] at hL ⊢
      rw [if_neg (show ¬ nI 15 = 0 by decide), if_neg (show ¬ nI 15 = 9 by decide), if_neg (show ¬ nI 15 = 10 by decide), if_neg (show ¬ nI 15 = 11 by decide), if_neg (show ¬ nI 15 = 21 by decide), if_neg (show ¬ nI 15 = 22 by decide), if_neg (show ¬ nI 15 = 23 by decide), if_neg (show ¬ nI 15 = 24 by decide), if_neg (show ¬ nI 15 = 25 by decide)]
      unfold kX10_text_409
      rw [gI_o h0, hs, if_pos (show (4 : Int32) ≤ nI 15 by decide), gI_o h0, hs, if_pos (show (9 : Int32) ≤ nI 15 by decide), gI_o h0, hs, if_neg (show ¬ (16 : Int32) ≤ nI 15 by decide)]
      refine tq_new Ste.refl (by omega) (by omega) (fun S1 q1 => ?_)
      refine tq_appS (k := 88) q1 (by decide) hL hL2 (by omega) (by omega) (fun S2 q2 => ?_)
      obtain ⟨o2, j2, r2⟩ := q2.rd h0
      have t2 := q2.tx ht
      have m2 := q2.rm
      rw [gN_o o2 (by rw [r2]; exact (TX.o ht).ne0), r2]
      refine tq_rec q2 (TX.o t2) (HR _ _ _ _ _ t2 (by omega) (by omega)) (fun e3 S3 k3 q3 => ?_)
      refine tq_app q3 k3 hL hL2 (by omega) (by omega) (fun S4 q4 => ?_)
      obtain ⟨o4, j4, r4⟩ := q4.rd h0
      rw [gI_o o4, j4, hs, show nI 15 - 12 = nI 3 by decide, stN_n (j := 1) (by decide) (by omega)]
      refine tq_appS (k := 50) q4 (by decide) hL hL2 (by omega) (by omega) (fun S5 q5 => ?_)
      obtain ⟨o5, j5, r5⟩ := q5.rd h0
      have t5 := q5.tx hu
      have m5 := q5.rm
      rw [gN_o o5 (by rw [r5]; exact (TX.o hu).ne0), r5]
      refine tq_rec q5 (TX.o t5) (HR _ _ _ _ _ t5 (by omega) (by omega)) (fun e6 S6 k6 q6 => ?_)
      refine tq_app q6 k6 hL hL2 (by omega) (by omega) (fun S7 q7 => ?_)
      refine tq_appS (k := 77) q7 (by decide) hL hL2 (by omega) (by omega) (fun S8 q8 => ?_)
      exact tq_end q8 hL (by omega) (by omega) hx hy
    · have hW : spl (biL 16 ++ (i1 ++ (biM 16 ++ (i2 ++ biR 16)))) = spl i1 ++ (sB 51 ++ (spl i2 ++ [])) := by
        rw [spl_app, spl_app, spl_app, spl_app, List.append_nil]
        rw [show spl (biR 16) = [] from rfl, List.append_nil]
        rfl
      rw [hW] at hL ⊢
      rw [if_neg (show ¬ nI 16 = 0 by decide), if_neg (show ¬ nI 16 = 9 by decide), if_neg (show ¬ nI 16 = 10 by decide), if_neg (show ¬ nI 16 = 11 by decide), if_neg (show ¬ nI 16 = 21 by decide), if_neg (show ¬ nI 16 = 22 by decide), if_neg (show ¬ nI 16 = 23 by decide), if_neg (show ¬ nI 16 = 24 by decide), if_neg (show ¬ nI 16 = 25 by decide)]
      unfold kX10_text_409
      rw [gI_o h0, hs, if_pos (show (4 : Int32) ≤ nI 16 by decide), gI_o h0, hs, if_pos (show (9 : Int32) ≤ nI 16 by decide), gI_o h0, hs, if_pos (show (16 : Int32) ≤ nI 16 by decide)]
      refine tq_new Ste.refl (by omega) (by omega) (fun S2 q2 => ?_)
      obtain ⟨o2, j2, r2⟩ := q2.rd h0
      have t2 := q2.tx ht
      have m2 := q2.rm
      rw [gN_o o2 (by rw [r2]; exact (TX.o ht).ne0), r2]
      refine tq_rec q2 (TX.o t2) (HR _ _ _ _ _ t2 (by omega) (by omega)) (fun e3 S3 k3 q3 => ?_)
      refine tq_app q3 k3 hL hL2 (by omega) (by omega) (fun S4 q4 => ?_)
      obtain ⟨o4, j4, r4⟩ := q4.rd h0
      rw [gI_o o4, j4, hs, show nI 16 - 12 = nI 4 by decide, stN_n (j := 1) (by decide) (by omega)]
      refine tq_appS (k := 51) q4 (by decide) hL hL2 (by omega) (by omega) (fun S5 q5 => ?_)
      obtain ⟨o5, j5, r5⟩ := q5.rd h0
      have t5 := q5.tx hu
      have m5 := q5.rm
      rw [gN_o o5 (by rw [r5]; exact (TX.o hu).ne0), r5]
      refine tq_rec q5 (TX.o t5) (HR _ _ _ _ _ t5 (by omega) (by omega)) (fun e6 S6 k6 q6 => ?_)
      refine tq_app q6 k6 hL hL2 (by omega) (by omega) (fun S7 q7 => ?_)
      exact tq_end q7 hL (by omega) (by omega) hx hy
    · have hW : spl (biL 17 ++ (i1 ++ (biM 17 ++ (i2 ++ biR 17)))) = spl i1 ++ (sB 52 ++ (spl i2 ++ [])) := by
        rw [spl_app, spl_app, spl_app, spl_app, List.append_nil]
        rw [show spl (biR 17) = [] from rfl, List.append_nil]
        rfl
      rw [hW] at hL ⊢
      rw [if_neg (show ¬ nI 17 = 0 by decide), if_neg (show ¬ nI 17 = 9 by decide), if_neg (show ¬ nI 17 = 10 by decide), if_neg (show ¬ nI 17 = 11 by decide), if_neg (show ¬ nI 17 = 21 by decide), if_neg (show ¬ nI 17 = 22 by decide), if_neg (show ¬ nI 17 = 23 by decide), if_neg (show ¬ nI 17 = 24 by decide), if_neg (show ¬ nI 17 = 25 by decide)]
      unfold kX10_text_409
      rw [gI_o h0, hs, if_pos (show (4 : Int32) ≤ nI 17 by decide), gI_o h0, hs, if_pos (show (9 : Int32) ≤ nI 17 by decide), gI_o h0, hs, if_pos (show (16 : Int32) ≤ nI 17 by decide)]
      refine tq_new Ste.refl (by omega) (by omega) (fun S2 q2 => ?_)
      obtain ⟨o2, j2, r2⟩ := q2.rd h0
      have t2 := q2.tx ht
      have m2 := q2.rm
      rw [gN_o o2 (by rw [r2]; exact (TX.o ht).ne0), r2]
      refine tq_rec q2 (TX.o t2) (HR _ _ _ _ _ t2 (by omega) (by omega)) (fun e3 S3 k3 q3 => ?_)
      refine tq_app q3 k3 hL hL2 (by omega) (by omega) (fun S4 q4 => ?_)
      obtain ⟨o4, j4, r4⟩ := q4.rd h0
      rw [gI_o o4, j4, hs, show nI 17 - 12 = nI 5 by decide, stN_n (j := 1) (by decide) (by omega)]
      refine tq_appS (k := 52) q4 (by decide) hL hL2 (by omega) (by omega) (fun S5 q5 => ?_)
      obtain ⟨o5, j5, r5⟩ := q5.rd h0
      have t5 := q5.tx hu
      have m5 := q5.rm
      rw [gN_o o5 (by rw [r5]; exact (TX.o hu).ne0), r5]
      refine tq_rec q5 (TX.o t5) (HR _ _ _ _ _ t5 (by omega) (by omega)) (fun e6 S6 k6 q6 => ?_)
      refine tq_app q6 k6 hL hL2 (by omega) (by omega) (fun S7 q7 => ?_)
      exact tq_end q7 hL (by omega) (by omega) hx hy
    · have hW : spl (biL 18 ++ (i1 ++ (biM 18 ++ (i2 ++ biR 18)))) = spl i1 ++ (sB 53 ++ (spl i2 ++ [])) := by
        rw [spl_app, spl_app, spl_app, spl_app, List.append_nil]
        rw [show spl (biR 18) = [] from rfl, List.append_nil]
        rfl
      rw [hW] at hL ⊢
      rw [if_neg (show ¬ nI 18 = 0 by decide), if_neg (show ¬ nI 18 = 9 by decide), if_neg (show ¬ nI 18 = 10 by decide), if_neg (show ¬ nI 18 = 11 by decide), if_neg (show ¬ nI 18 = 21 by decide), if_neg (show ¬ nI 18 = 22 by decide), if_neg (show ¬ nI 18 = 23 by decide), if_neg (show ¬ nI 18 = 24 by decide), if_neg (show ¬ nI 18 = 25 by decide)]
      unfold kX10_text_409
      rw [gI_o h0, hs, if_pos (show (4 : Int32) ≤ nI 18 by decide), gI_o h0, hs, if_pos (show (9 : Int32) ≤ nI 18 by decide), gI_o h0, hs, if_pos (show (16 : Int32) ≤ nI 18 by decide)]
      refine tq_new Ste.refl (by omega) (by omega) (fun S2 q2 => ?_)
      obtain ⟨o2, j2, r2⟩ := q2.rd h0
      have t2 := q2.tx ht
      have m2 := q2.rm
      rw [gN_o o2 (by rw [r2]; exact (TX.o ht).ne0), r2]
      refine tq_rec q2 (TX.o t2) (HR _ _ _ _ _ t2 (by omega) (by omega)) (fun e3 S3 k3 q3 => ?_)
      refine tq_app q3 k3 hL hL2 (by omega) (by omega) (fun S4 q4 => ?_)
      obtain ⟨o4, j4, r4⟩ := q4.rd h0
      rw [gI_o o4, j4, hs, show nI 18 - 12 = nI 6 by decide, stN_n (j := 1) (by decide) (by omega)]
      refine tq_appS (k := 53) q4 (by decide) hL hL2 (by omega) (by omega) (fun S5 q5 => ?_)
      obtain ⟨o5, j5, r5⟩ := q5.rd h0
      have t5 := q5.tx hu
      have m5 := q5.rm
      rw [gN_o o5 (by rw [r5]; exact (TX.o hu).ne0), r5]
      refine tq_rec q5 (TX.o t5) (HR _ _ _ _ _ t5 (by omega) (by omega)) (fun e6 S6 k6 q6 => ?_)
      refine tq_app q6 k6 hL hL2 (by omega) (by omega) (fun S7 q7 => ?_)
      exact tq_end q7 hL (by omega) (by omega) hx hy
    · have hW : spl (biL 19 ++ (i1 ++ (biM 19 ++ (i2 ++ biR 19)))) = spl i1 ++ (sB 54 ++ (spl i2 ++ [])) := by
        rw [spl_app, spl_app, spl_app, spl_app, List.append_nil]
        rw [show spl (biR 19) = [] from rfl, List.append_nil]
        rfl
      rw [hW] at hL ⊢
      rw [if_neg (show ¬ nI 19 = 0 by decide), if_neg (show ¬ nI 19 = 9 by decide), if_neg (show ¬ nI 19 = 10 by decide), if_neg (show ¬ nI 19 = 11 by decide), if_neg (show ¬ nI 19 = 21 by decide), if_neg (show ¬ nI 19 = 22 by decide), if_neg (show ¬ nI 19 = 23 by decide), if_neg (show ¬ nI 19 = 24 by decide), if_neg (show ¬ nI 19 = 25 by decide)]
      unfold kX10_text_409
      rw [gI_o h0, hs, if_pos (show (4 : Int32) ≤ nI 19 by decide), gI_o h0, hs, if_pos (show (9 : Int32) ≤ nI 19 by decide), gI_o h0, hs, if_pos (show (16 : Int32) ≤ nI 19 by decide)]
      refine tq_new Ste.refl (by omega) (by omega) (fun S2 q2 => ?_)
      obtain ⟨o2, j2, r2⟩ := q2.rd h0
      have t2 := q2.tx ht
      have m2 := q2.rm
      rw [gN_o o2 (by rw [r2]; exact (TX.o ht).ne0), r2]
      refine tq_rec q2 (TX.o t2) (HR _ _ _ _ _ t2 (by omega) (by omega)) (fun e3 S3 k3 q3 => ?_)
      refine tq_app q3 k3 hL hL2 (by omega) (by omega) (fun S4 q4 => ?_)
      obtain ⟨o4, j4, r4⟩ := q4.rd h0
      rw [gI_o o4, j4, hs, show nI 19 - 12 = nI 7 by decide, stN_n (j := 1) (by decide) (by omega)]
      refine tq_appS (k := 54) q4 (by decide) hL hL2 (by omega) (by omega) (fun S5 q5 => ?_)
      obtain ⟨o5, j5, r5⟩ := q5.rd h0
      have t5 := q5.tx hu
      have m5 := q5.rm
      rw [gN_o o5 (by rw [r5]; exact (TX.o hu).ne0), r5]
      refine tq_rec q5 (TX.o t5) (HR _ _ _ _ _ t5 (by omega) (by omega)) (fun e6 S6 k6 q6 => ?_)
      refine tq_app q6 k6 hL hL2 (by omega) (by omega) (fun S7 q7 => ?_)
      exact tq_end q7 hL (by omega) (by omega) hx hy
    · have hW : spl (biL 20 ++ (i1 ++ (biM 20 ++ (i2 ++ biR 20)))) = spl i1 ++ (sB 55 ++ (spl i2 ++ [])) := by
        rw [spl_app, spl_app, spl_app, spl_app, List.append_nil]
        rw [show spl (biR 20) = [] from rfl, List.append_nil]
        rfl
      rw [hW] at hL ⊢
      rw [if_neg (show ¬ nI 20 = 0 by decide), if_neg (show ¬ nI 20 = 9 by decide), if_neg (show ¬ nI 20 = 10 by decide), if_neg (show ¬ nI 20 = 11 by decide), if_neg (show ¬ nI 20 = 21 by decide), if_neg (show ¬ nI 20 = 22 by decide), if_neg (show ¬ nI 20 = 23 by decide), if_neg (show ¬ nI 20 = 24 by decide), if_neg (show ¬ nI 20 = 25 by decide)]
      unfold kX10_text_409
      rw [gI_o h0, hs, if_pos (show (4 : Int32) ≤ nI 20 by decide), gI_o h0, hs, if_pos (show (9 : Int32) ≤ nI 20 by decide), gI_o h0, hs, if_pos (show (16 : Int32) ≤ nI 20 by decide)]
      refine tq_new Ste.refl (by omega) (by omega) (fun S2 q2 => ?_)
      obtain ⟨o2, j2, r2⟩ := q2.rd h0
      have t2 := q2.tx ht
      have m2 := q2.rm
      rw [gN_o o2 (by rw [r2]; exact (TX.o ht).ne0), r2]
      refine tq_rec q2 (TX.o t2) (HR _ _ _ _ _ t2 (by omega) (by omega)) (fun e3 S3 k3 q3 => ?_)
      refine tq_app q3 k3 hL hL2 (by omega) (by omega) (fun S4 q4 => ?_)
      obtain ⟨o4, j4, r4⟩ := q4.rd h0
      rw [gI_o o4, j4, hs, show nI 20 - 12 = nI 8 by decide, stN_n (j := 1) (by decide) (by omega)]
      refine tq_appS (k := 55) q4 (by decide) hL hL2 (by omega) (by omega) (fun S5 q5 => ?_)
      obtain ⟨o5, j5, r5⟩ := q5.rd h0
      have t5 := q5.tx hu
      have m5 := q5.rm
      rw [gN_o o5 (by rw [r5]; exact (TX.o hu).ne0), r5]
      refine tq_rec q5 (TX.o t5) (HR _ _ _ _ _ t5 (by omega) (by omega)) (fun e6 S6 k6 q6 => ?_)
      refine tq_app q6 k6 hL hL2 (by omega) (by omega) (fun S7 q7 => ?_)
      exact tq_end q7 hL (by omega) (by omega) hx hy
    · have hW : spl (biL 24 ++ (i1 ++ (biM 24 ++ (i2 ++ biR 24)))) = sB 83 ++ (spl i1 ++ (sB 84 ++ (spl i2 ++ (sB 85 ++ [])))) := by
        rw [spl_app, spl_app, spl_app, spl_app, List.append_nil]
        rfl
      rw [hW] at hL ⊢
      rw [if_neg (show ¬ nI 24 = 0 by decide), if_neg (show ¬ nI 24 = 9 by decide), if_neg (show ¬ nI 24 = 10 by decide), if_neg (show ¬ nI 24 = 11 by decide), if_neg (show ¬ nI 24 = 21 by decide), if_neg (show ¬ nI 24 = 22 by decide), if_neg (show ¬ nI 24 = 23 by decide), if_pos (show nI 24 = 24 from rfl)]
      refine tq_new Ste.refl (by omega) (by omega) (fun S1 q1 => ?_)
      refine tq_appS (k := 83) q1 (by decide) hL hL2 (by omega) (by omega) (fun S2 q2 => ?_)
      obtain ⟨o2, j2, r2⟩ := q2.rd h0
      have t2 := q2.tx ht
      have m2 := q2.rm
      rw [gN_o o2 (by rw [r2]; exact (TX.o ht).ne0), r2]
      refine tq_rec q2 (TX.o t2) (HR _ _ _ _ _ t2 (by omega) (by omega)) (fun e3 S3 k3 q3 => ?_)
      refine tq_app q3 k3 hL hL2 (by omega) (by omega) (fun S4 q4 => ?_)
      refine tq_appS (k := 84) q4 (by decide) hL hL2 (by omega) (by omega) (fun S5 q5 => ?_)
      obtain ⟨o5, j5, r5⟩ := q5.rd h0
      have t5 := q5.tx hu
      have m5 := q5.rm
      rw [gN_o o5 (by rw [r5]; exact (TX.o hu).ne0), r5]
      refine tq_rec q5 (TX.o t5) (HR _ _ _ _ _ t5 (by omega) (by omega)) (fun e6 S6 k6 q6 => ?_)
      refine tq_app q6 k6 hL hL2 (by omega) (by omega) (fun S7 q7 => ?_)
      refine tq_appS (k := 85) q7 (by decide) hL hL2 (by omega) (by omega) (fun S8 q8 => ?_)
      exact tq_end q8 hL (by omega) (by omega) hx hy
    · have hW : spl (biL 25 ++ (i1 ++ (biM 25 ++ (i2 ++ biR 25)))) = sB 83 ++ (spl i1 ++ (sB 86 ++ (spl i2 ++ (sB 85 ++ [])))) := by
        rw [spl_app, spl_app, spl_app, spl_app, List.append_nil]
        rfl
      rw [hW] at hL ⊢
      rw [if_neg (show ¬ nI 25 = 0 by decide), if_neg (show ¬ nI 25 = 9 by decide), if_neg (show ¬ nI 25 = 10 by decide), if_neg (show ¬ nI 25 = 11 by decide), if_neg (show ¬ nI 25 = 21 by decide), if_neg (show ¬ nI 25 = 22 by decide), if_neg (show ¬ nI 25 = 23 by decide), if_neg (show ¬ nI 25 = 24 by decide), if_pos (show nI 25 = 25 from rfl)]
      refine tq_new Ste.refl (by omega) (by omega) (fun S1 q1 => ?_)
      refine tq_appS (k := 83) q1 (by decide) hL hL2 (by omega) (by omega) (fun S2 q2 => ?_)
      obtain ⟨o2, j2, r2⟩ := q2.rd h0
      have t2 := q2.tx ht
      have m2 := q2.rm
      rw [gN_o o2 (by rw [r2]; exact (TX.o ht).ne0), r2]
      refine tq_rec q2 (TX.o t2) (HR _ _ _ _ _ t2 (by omega) (by omega)) (fun e3 S3 k3 q3 => ?_)
      refine tq_app q3 k3 hL hL2 (by omega) (by omega) (fun S4 q4 => ?_)
      refine tq_appS (k := 86) q4 (by decide) hL hL2 (by omega) (by omega) (fun S5 q5 => ?_)
      obtain ⟨o5, j5, r5⟩ := q5.rd h0
      have t5 := q5.tx hu
      have m5 := q5.rm
      rw [gN_o o5 (by rw [r5]; exact (TX.o hu).ne0), r5]
      refine tq_rec q5 (TX.o t5) (HR _ _ _ _ _ t5 (by omega) (by omega)) (fun e6 S6 k6 q6 => ?_)
      refine tq_app q6 k6 hL hL2 (by omega) (by omega) (fun S7 q7 => ?_)
      refine tq_appS (k := 85) q7 (by decide) hL hL2 (by omega) (by omega) (fun S8 q8 => ?_)
      exact tq_end q8 hL (by omega) (by omega) hx hy
theorem text_ok {N : Nat} (hN : N ≤ 10) : ∀ d D b c l i S, d + 1 ≤ D → d ≤ 6 → TX N (d + 1) b S c l i → tC d ≤ S.c → tW d ≤ S.w → ∃ e S', kRX10_text D c S = some (e, S') ∧ SX S' e (spl i) ∧ Ste NO (tC d) (tW d) S S' := by
  intro d
  induction d with
  | zero =>
    intro D b c l i S hD hd h hc hw
    obtain ⟨D, rfl⟩ : ∃ z, D = z + 1 := ⟨D - 1, by omega⟩
    have hp := PX.len hN 0 _ _ _ (TX.p _ _ _ _ _ h)
    have hL : tL 0 = 16 ∧ tC 0 = 11 ∧ tW 0 = 300 := ⟨rfl, rfl, rfl⟩
    obtain ⟨e, S', k1, k2, k3, -⟩ := text_step (a := 0) (w := 0) (X := 11) (Y := 300) (L := 16) (R := kRX10_text D) h (fun b c l i S h => h.elim) (by omega) (by omega) (by omega) (by omega) (by omega) (by omega)
    exact ⟨e, S', k1, k2, k3.mono (fun _ z => z) (by omega) (by omega)⟩
  | succ d ih =>
    intro D b c l i S hD hd h hc hw
    obtain ⟨D, rfl⟩ : ∃ z, D = z + 1 := ⟨D - 1, by omega⟩
    have hp := PX.len hN (d + 1) _ _ _ (TX.p _ _ _ _ _ h)
    have e1 : tC (d + 1) = 2 * tC d + 11 := rfl
    have e2 : tW (d + 1) = 2 * tW d + 12 * tL (d + 1) + 40 := rfl
    have hl : ∀ d, d ≤ 6 → tL d ≤ 2000 := by
      intro d hd
      rcases (show d = 0 ∨ d = 1 ∨ d = 2 ∨ d = 3 ∨ d = 4 ∨ d = 5 ∨ d = 6 by omega) with rfl | rfl | rfl | rfl | rfl | rfl | rfl <;> decide
    have hl1 := hl (d + 1) hd
    obtain ⟨e, S', k1, k2, k3, -⟩ := text_step (a := tC d) (w := tW d) (X := tC (d + 1)) (Y := tW (d + 1)) (L := tL (d + 1)) (R := kRX10_text D) h (fun b c l i S h h1 h2 => ih D b c l i S (by omega) (by omega) h h1 h2) hp (by omega) (by omega) (by omega) hc hw
    exact ⟨e, S', k1, k2, k3⟩
