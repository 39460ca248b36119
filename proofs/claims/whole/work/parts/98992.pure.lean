/-! teach -/
def mrg (gc gm : G) : G := fun a => if a < 47 then gc a else gm a
theorem mrg_c {gc gm : G} {a : Nat} (h : a < 47) : mrg gc gm a = gc a := if_pos h
theorem mrg_m {gc gm : G} {a : Nat} (h : 47 ≤ a) : mrg gc gm a = gm a := if_neg (by omega)
theorem row_rel {X : G} {N : Nat} (hN : N ≤ 10) (x1 : X 22 7 = nI N) (x2 : X 54 0 = nI N) (x3 : X 22 8 = X 54 1) (x4 : X 22 9 = X 54 2) (x5 : ∀ m, m < N → (X 23 m = X 80 m ∧ X 24 m = X 81 m ∧ X 25 m = X 82 m) ∧ X 26 m = nI m ∧ X 83 m = nI m) (x6 : X 22 13 = 0) (x7 : X 22 10 = -1) (x8 : X 79 7 = 0) : RelR 22 79 N (fun m => m) X :=
  ⟨x1, x2, x3, x4, ⟨hN, fun p hp => ⟨(x5 p hp).2.1, hp⟩, fun p q _ _ h => h⟩, ⟨hN, fun p hp => ⟨(x5 p hp).2.2, hp⟩, fun p q _ _ h => h⟩, fun m hm => (x5 m hm).1, Or.inl x6, by unfold covOf; rw [x8, if_pos (by decide)]; exact x7⟩
section TK
variable {T K : Nat} {B : Nat → Int32} {kd ps sz nm : Nat → Nat}
theorem class_err {g : G} {v : Int32} {q : Nat} (hT : Toks T 0 K kd ps sz nm) (h : CT T K B kd ps sz nm g) (hq : q ≤ K) : k8_teach_37 v (nI q) g = some (v, up (up g 0 8 (nI (ps q))) 1 1 0) := by
  have hK := hT.2.1
  unfold k8_teach_37
  have e : k6_positionOf (nI q) g = some (nI (ps q)) := by
    unfold k6_positionOf
    rw [if_neg (nI_pos (by omega)), h.2.1, if_neg (by rw [nI_leI (by omega) (by omega)]; omega), ld_n (by omega) (by omega), (h.2.2.1 q hq).2]
  rw [if_pos (show (0 : Int32) ≤ nI q from (nI_leI (a := 0) (b := q) (by omega) (by omega)).mpr (Nat.zero_le _)), e, some_bind]
  unfold k8_teach_54
  rw [bd_eq, bd_eq, if_neg (nI_pos (by omega))]
theorem ref_err {g : G} {e : Int32} {q : Nat} (hK : K ≤ 400) (hq : q ≤ K) (he : e ≠ 0) (h10 : g 47 10 = e) (h11 : g 47 11 = nI q) (h51 : g 51 q = nI (ps q)) : (bd (up g 47 2 0) fun g13 => if (g13 47 10) = 0 then k11_teach_66 (-1) g13 else ld g13 51 402 (g13 47 11) fun x15 => k11_teach_66 x15 g13) = some (e, up (up g 47 2 0) 47 3 (nI (ps q))) := by
  rw [bd_eq, up_slot (show 10 ≠ 2 by decide), h10, if_neg he, up_slot (show 11 ≠ 2 by decide), h11, ld_n (by omega) (by omega), up_other (show 51 ≠ 47 by decide), h51]
  unfold k11_teach_66
  rw [bd_eq, up_slot (show 10 ≠ 3 by decide), up_slot (show 10 ≠ 2 by decide), h10, if_neg he]
theorem teach_both {gc gm : G} (hB : Bok T B) (hc : TapeC T B gc) (hm : TapeM T B gm) : ∃ (e : Int32) (gc' gm' : G), k8_teach gc = some (e, gc') ∧ k11_teach gm = some (e, gm') ∧ (∀ a, 34 < a → gc' a = gc a) ∧ (∀ a, a < 47 → gm' a = gm a) ∧ gc' 1 1 = 0 ∧ gm' 47 2 = 0 ∧ gc' 0 8 = gm' 47 3 ∧ (((∀ a, 16 ≤ a → gc' a = gc a) ∧ ∀ a, (54 ≤ a ∧ a ≤ 65) ∨ (79 ≤ a ∧ a ≤ 85) → gm' a = gm a) ∨ ∃ N, RelR 22 79 N (fun m => m) (mrg gc' gm') ∧ Rng 79 N (mrg gc' gm') ∧ RelQ 30 79 N 0 (mrg gc' gm') ∧ gc' 21 5 = gm' 79 8 ∧ gc' 30 4 = 0 ∧ RelP N (mrg gc' gm')) := by
  obtain ⟨K, kd, ps, sz, nm, hT, hcl, hml⟩ := toks2 hB
  have hK := hT.2.1
  obtain ⟨g8, e8, fr8, rc8⟩ := hcl gc hc
  obtain ⟨gs, hgs⟩ : ∃ x, x = up (up (up (up (up gm 47 0 0) 47 8 0) 47 9 0) 47 10 0) 47 12 0 := ⟨_, rfl⟩
  obtain ⟨gb, hgb⟩ : ∃ x, x = up (up (up (up (up gs 66 0 0) 66 1 60) 66 2 1000) 66 5 0) 66 12 0 := ⟨_, rfl⟩
  have fb : ∀ a, a ≠ 47 → a ≠ 66 → gb a = gm a := fun a a1 a2 => by rw [hgb, hgs, up_ne a2, up_ne a2, up_ne a2, up_ne a2, up_ne a2, up_ne a1, up_ne a1, up_ne a1, up_ne a1, up_ne a1]
  have tb : TapeM T B gb := ⟨by rw [hgb, hgs]; exact hm.1, fun p hp => by rw [fb 48 (by decide) (by decide)]; exact hm.2 p hp⟩
  obtain ⟨g11, e11, fr11, rm11⟩ := hml gb tb
  have r47 : g11 47 = gb 47 := fr11.1 47 (by omega)
  have r66 : g11 66 = gb 66 := fr11.1 66 (by omega)
  obtain ⟨G0, hG0⟩ : ∃ x, x = up (up (up (up (up (up g8 8 4 0) 8 5 0) 8 6 60) 8 7 1000) 8 8 0) 13 2 0 := ⟨_, rfl⟩
  have f0 : ∀ a, a ≠ 8 → a ≠ 13 → G0 a = g8 a := fun a a1 a2 => by rw [hG0, up_ne a2, up_ne a1, up_ne a1, up_ne a1, up_ne a1, up_ne a1]
  have ct8 : CT T K B kd ps sz nm g8 := ⟨⟨by rw [fr8.1 1 (by omega)]; exact hc.1, fun p hp => by rw [fr8.1 2 (by omega)]; exact hc.2 p hp⟩, rc8.1, fun i hi => rc8.2.1 i (Nat.zero_le _) hi, fun i hi => (rc8.2.2 i (Nat.zero_le _) hi).1⟩
  have ct0 : CT T K B kd ps sz nm G0 := ct8.fr (fun a a1 a2 => f0 a (by omega) (by omega))
  have hno0 : noErr kd nm (sameN B ps sz) 0 := fun i hi => absurd hi (by omega)
  have ln0 : LnOK T K B kd ps sz nm 0 0 0 G0 g11 := by
    refine ⟨⟨by rw [hG0, up_self]; rfl, Nat.zero_le _, ct0, by rw [hG0]; rfl, Nat.le_refl _⟩, ⟨by rw [r47, hgb, hgs]; rfl, by rw [r47, hgb, hgs]; rfl, ⟨⟨by rw [r47]; exact tb.1, fun p hp => by rw [fr11.1 48 (by omega)]; exact tb.2 p hp⟩, rm11⟩, by rw [r47, hgb, hgs]; rfl, by rw [r66, hgb, up_self]; rfl, Nat.le_refl _, Or.inl ⟨hno0, by rw [r47, hgb, hgs]; rfl, by rw [r66, hgb]; rfl, Nat.zero_le _, fun j hj => absurd hj (Nat.not_lt_zero j)⟩⟩, ⟨0, by decide, by rw [r66, hgb]; rfl⟩, fun _ => ?_⟩
    exact ⟨by rw [r66, hgb]; rfl, Nat.zero_le _, by rw [r66, hgb]; rfl, by rw [r66, hgb]; rfl, fun j hj => absurd hj (Nat.not_lt_zero j), fun _ => 0, fun _ => 0, rfl, rfl, rfl, rfl, fun k hk => absurd hk (Nat.not_lt_zero k)⟩
  have hC : k8_teach gc = (k0_firstMisfit_14 FU (nI 0) G0).bind fun u9 => bd u9.1 fun x10 => if 0 ≤ x10 then k8_teach_37 1 x10 u9.2 else (k1_firstMistake u9.2).bind fun u12 => bd u12.1 fun x13 => bd (u12.2 14 4) fun x14 => k8_teach_37 x14 x13 u12.2 := by
    unfold k8_teach
    rw [e8, some_bind, hG0]
    rfl
  have hM : k11_teach gm = (k11_train_0 FU g11).bind fun g12 => bd (up g12 47 2 0) fun g13 => if (g13 47 10) = 0 then k11_teach_66 (-1) g13 else ld g13 51 402 (g13 47 11) fun x15 => k11_teach_66 x15 g13 := by
    unfold k11_teach
    rw [bd_eq, bd_eq, bd_eq, bd_eq, bd_eq, ← hgs, show k10_begin 66 gs = some gb from by rw [hgb]; rfl, some_bind, e11, some_bind]
    rfl
  have fM : ∀ gm', lG g11 gm' → ∀ a, a < 47 ∨ (54 ≤ a ∧ a ≤ 65) ∨ (79 ≤ a ∧ a ≤ 85) → gm' a = gm a := fun gm' h a ha => by rw [h.1 a (by omega) (by omega) (by omega), fr11.1 a (by omega), fb a (by omega) (by omega)]
  have fC : ∀ gG', lC G0 gG' → ∀ a, 16 ≤ a → gG' a = gc a := fun gG' h a ha => by rw [h.1 a (by omega) (by omega) (by omega) (by omega), f0 a (by omega) (by omega), fr8.1 a (by omega)]
  have p51 : ∀ gm', lG g11 gm' → ∀ q, q ≤ K → gm' 51 q = nI (ps q) := fun gm' h q hq => by rw [h.1 51 (by decide) (by decide) (by omega)]; exact (rm11.1 q (Nat.zero_le _) hq).2
  rw [hC, hM]
  rcases train_loop hB hT K 0 (by omega) FU FU 0 0 0 G0 g11 (by unfold FU; omega) (by unfold FU; omega) (by omega) ln0 with ⟨gG, gm1, L, n, a1, a2, k33, hln, hlC, hlG⟩ | ⟨gG, gm1, q, a1, a2, qK, hw, hlC, hlG⟩
  · have hq := quiet (B := B) (ps := ps) (sz := sz) (nm := nm) (kd := kd) (p := K) (by omega) (by omega) (by rw [k33]; rfl)
    obtain ⟨hG, hMm, -, hL⟩ := hln
    have c8 : ∀ k, k ≠ 8 → gG 8 k = G0 8 k := hlC.2.1
    have mr0 : MR T K B kd ps sz nm 0 gG := by
      refine ⟨hG.2.2.1, by rw [c8 4 (by decide), hG0]; rfl, Nat.zero_le _, fun j hj => absurd hj (Nat.not_lt_zero j), by rw [c8 5 (by decide), hG0]; rfl, Nat.zero_le _, by rw [c8 6 (by decide), hG0]; rfl, by rw [c8 7 (by decide), hG0]; rfl, fun j v z => ?_, fun j v z => ?_, fun t ht h31 => ?_, fun t ht => absurd ht (Nat.not_lt_zero t)⟩
      · exact absurd z (by intro z; cases z)
      · exact absurd z (by intro z; cases z)
      · rw [hlC.1 7 (by decide) (by decide) (by decide) (by decide), f0 7 (by decide) (by decide), (rc8.2.2 t (Nat.zero_le _) ht).2, if_pos h31]
    rw [a1, a2, some_bind, some_bind]
    dsimp only
    rw [bd_eq, if_neg (show ¬ (0 : Int32) ≤ -1 by decide)]
    rcases meaning_c hB hT mr0 with ⟨q, g', qK, q1, q2, q3, q4, q5⟩ | ⟨hno, g', q1, q2, q3⟩
    · have qlt : q < K := by
        rcases Nat.lt_or_ge q K with z | z
        · exact z
        · obtain rfl : q = K := by omega
          exact absurd hq.1 q2
      rw [q3, some_bind]
      dsimp only
      rw [bd_eq, bd_eq, q4, class_err hT (hG.2.2.1.fr (fun a b1 b2 => q5.1 a (by
        intro z
        subst z
        omega) (by omega) (by omega) (by omega) (by omega) (by omega))) qK]
      rcases hMm.2.2.2.2.2.2 with ⟨z, -⟩ | ⟨q', w1, w2, w3, w4, w5, -⟩
      · exact absurd (z q qlt) q2
      · obtain rfl : q = q' := by
          rcases Nat.lt_trichotomy q q' with z | z | z
          · exact absurd (w2 q z) q2
          · exact z
          · exact absurd (q1 q' z) w3
        have hle := errT_le (kd := kd) (nm := nm) (sm := sameN B ps sz) (st := ms kd nm q) (i := q)
        rw [ref_err hK qK (nI_ne0 (by omega) (by omega)) w4 w5 (p51 _ hlG q qK)]
        refine ⟨_, _, _, rfl, rfl, fun a ha => ?_, fun a ha => ?_, ?_, ?_, ?_, Or.inl ⟨fun a ha => ?_, fun a ha => ?_⟩⟩
        · rw [up_ne (by omega), up_ne (by omega), q5.1 a (by omega) (by omega) (by omega) (by omega) (by omega) (by omega), fC _ hlC a (by omega)]
        · rw [up_ne (by omega), up_ne (by omega), fM _ hlG a (by omega)]
        · rw [up_self]
        · rw [up_slot (by decide), up_self]
        · rw [up_other (by decide), up_self, up_self]
        · rw [up_ne (by omega), up_ne (by omega), q5.1 a (by omega) (by omega) (by omega) (by omega) (by omega) (by omega), fC _ hlC a (by omega)]
        · rw [up_ne (by omega), up_ne (by omega), fM _ hlG a (by omega)]
    · have hnoK : noErr kd nm (sameN B ps sz) K := fun i hi => hno i (by omega)
      have hlin := hL hnoK
      obtain ⟨r1, r2, r3, r4, r5, r6, r7, r8, r9, r10, r11, r12⟩ := id q3
      rw [hq.2] at r2 r3 r4 r5 r7 r8 r9 r10
      obtain ⟨C, c1, c2, c3, c4, c5, c6, c7, ⟨c8a, c8b, c8c, c8d, c8e⟩, c9, c10, c11, c12, c13⟩ := class_end (v := g' 14 4) (K := K) r2 r3 (by rw [q2.2 8 (by omega)]; exact hG.2.2.2.1) (by have := hG.2.2.2.2; omega) r1.2.1 hK
      rw [q1, some_bind]
      dsimp only
      rw [bd_eq, bd_eq, c1]
      have hL5 := hG.2.2.2.2
      rcases hMm.2.2.2.2.2.2 with ⟨-, w1, w2, w3, -⟩ | ⟨q', w1, w2, w3, -⟩
      · obtain ⟨M, m1, m2, m3, m4, ⟨m5a, m5b, m5c, m5d⟩, m6, m7, m8, m9, m10, m11, m12⟩ := ref_end (g := up gm1 47 2 0) (N := (ms kd nm K).1) (by rw [up_slot (by decide)]; exact w1) (by rw [up_other (by decide)]; exact w2) w3
        rw [bd_eq, up_slot (show 10 ≠ 2 by decide), w1, if_pos rfl, m1]
        have u0 : ∀ a k, a ≠ 47 → up gm1 47 2 0 a k = gm1 a k := fun a k h => up_other h
        obtain ⟨l1, l2, l3, l4, l5, -⟩ := id hlin
        have row : ∀ m, m < (ms kd nm K).1 → C 23 m = M 80 m ∧ C 25 m = M 82 m ∧ M 80 m = gm1 67 m ∧ M 82 m = gm1 68 m := by
          intro m hm'
          obtain ⟨y1, y2, y3, y4⟩ := c9 m hm'
          obtain ⟨z1, z2, z3, z4⟩ := m8 m hm'
          obtain ⟨v1, v2, -, -⟩ := l5 m hm'
          rw [u0 67 m (by decide)] at z1
          rw [u0 68 m (by decide)] at z3
          exact ⟨y1.trans ((r9 m _ v1).trans z1.symm), y3.trans ((r10 m _ v2).trans z3.symm), z1, z3⟩
        refine ⟨0, C, M, rfl, rfl, fun a ha => ?_, fun a ha => ?_, c3, ?_, c4.trans m3.symm, Or.inr ⟨(ms kd nm K).1, ?_, fun m hm' => ?_, ?_, c13.trans m11.symm, c12, ?_⟩⟩
        · rw [c2 a ha, q2.1 a (by omega) (by omega) (by omega) (by omega) (by omega) (by omega), fC _ hlC a (by omega)]
        · rw [m2 a ha, up_ne (by omega), fM _ hlG a (by omega)]
        · rw [m4, up_self]
        · have x : ∀ a k, a < 47 → mrg C M a k = C a k := fun a k h => by rw [mrg_c h]
          have y : ∀ a k, 47 ≤ a → mrg C M a k = M a k := fun a k h => by rw [mrg_m h]
          refine row_rel r3 ?_ ?_ ?_ ?_ (fun m hm' => ⟨⟨?_, ?_, ?_⟩, ?_, ?_⟩) ?_ ?_ ?_
          · rw [x 22 7 (by decide)]; exact c8a
          · rw [y 54 0 (by decide)]; exact m5a
          · rw [x 22 8 (by decide), y 54 1 (by decide), c8b, m5b, r7, u0 66 1 (by decide), l3]
          · rw [x 22 9 (by decide), y 54 2 (by decide), c8c, m5c, r8, u0 66 2 (by decide), l4]
          · rw [x 23 m (by decide), y 80 m (by decide)]; exact (row m hm').1
          · rw [x 24 m (by decide), y 81 m (by decide), (c9 m hm').2.1, (m8 m hm').2.1]
          · rw [x 25 m (by decide), y 82 m (by decide)]; exact (row m hm').2.1
          · rw [x 26 m (by decide)]; exact (c9 m hm').2.2.2
          · rw [y 83 m (by decide)]; exact (m8 m hm').2.2.2
          · rw [x 22 13 (by decide)]; exact c8e
          · rw [x 22 10 (by decide)]; exact c8d
          · rw [y 79 7 (by decide)]; exact m10
        · rw [mrg_m (show 47 ≤ 79 + 1 by decide), mrg_m (show 47 ≤ 79 + 2 by decide), mrg_m (show 47 ≤ 79 + 3 by decide)]
          obtain ⟨-, -, e1, e2⟩ := row m hm'
          obtain ⟨-, -, v3, v4⟩ := l5 m hm'
          refine ⟨?_, ?_, ?_⟩
          · rw [show M (79 + 1) m = gm1 67 m from e1]; exact v3
          · rw [show M (79 + 2) m = 100 from (m8 m hm').2.1]; decide
          · rw [show M (79 + 3) m = gm1 68 m from e2]; exact v4
        · refine ⟨by decide, ?_, ?_, ?_, ?_, fun k hk => absurd hk (Nat.not_lt_zero k), ?_, fun _ => ?_⟩
          · rw [mrg_c (by decide)]; exact c10
          · rw [mrg_m (by decide)]; exact m9
          · rw [mrg_c (by decide), mrg_m (by decide)]; exact c11.trans m10.symm
          · rw [mrg_c (by decide), mrg_m (by decide)]; exact c12.trans m12.symm
          · rw [mrg_m (by decide), m10]; decide
          · rw [mrg_m (by decide)]; exact m10
        · refine plan_rel (gG := gG) (gm := gm1) (g7 := g') (L := L) (n := n) hT hno q3 hq.2 hlin hG.2.2.2.2 hMm.2.2.2.2.2.1 (fun i hi => ?_) (fun i hi tok t1 t2 => ?_) (fun a i a1 a2 hi => ?_) (fun a i a1 a2 hi => ?_) ?_ ?_ ?_
          · rw [mrg_c (by decide), (c7 i hi).1, q2.1 11 (by decide) (by decide) (by decide) (by decide) (by decide) (by decide)]
          · rw [mrg_c (by decide)]
            exact (c7 i hi).2 tok t1 (by rw [q2.1 12 (by decide) (by decide) (by decide) (by decide) (by decide) (by decide)]; exact t2)
          · rw [mrg_m (by omega), m6 a i a1 a2 hi, u0 _ i (by omega)]
          · rw [mrg_m (by omega), m7 a i a1 a2 hi, u0 _ i (by omega)]
          · rw [mrg_m (by decide), m5d, u0 66 5 (by decide)]
          · rw [mrg_c (by decide)]; exact c5
          · rw [mrg_c (by decide)]; exact c6
      · exact absurd (hno q' (by omega)) w3
  · rw [a1, a2, some_bind, some_bind]
    dsimp only
    have ctG : CT T K B kd ps sz nm gG := ct0.fr (fun a b1 b2 => hlC.1 a (by omega) (by omega) (by omega) (by omega))
    rw [bd_eq, if_pos (show (0 : Int32) ≤ nI q from (nI_leI (a := 0) (b := q) (by omega) (by omega)).mpr (Nat.zero_le _)), class_err hT ctG qK, ref_err hK qK (by decide) hw.2.2.1 hw.2.2.2 (p51 _ hlG q qK)]
    refine ⟨_, _, _, rfl, rfl, fun a ha => ?_, fun a ha => ?_, ?_, ?_, ?_, Or.inl ⟨fun a ha => ?_, fun a ha => ?_⟩⟩
    · rw [up_ne (by omega), up_ne (by omega), fC _ hlC a (by omega)]
    · rw [up_ne (by omega), up_ne (by omega), fM _ hlG a (by omega)]
    · rw [up_self]
    · rw [up_slot (by decide), up_self]
    · rw [up_other (by decide), up_self, up_self]
    · rw [up_ne (by omega), up_ne (by omega), fC _ hlC a (by omega)]
    · rw [up_ne (by omega), up_ne (by omega), fM _ hlG a (by omega)]
end TK
theorem InvC.told {n N J : Nat} {rw : Nat → Nat} {g g' : G} (h : InvC n N J rw g) (hf : ∀ a, (16 ≤ a ∧ a ≤ 32) ∨ (54 ≤ a ∧ a ≤ 65) ∨ (79 ≤ a ∧ a ≤ 85) → g' a = g a) (h0 : g' 0 8 = g' 47 3) (hT : RelT g') : InvC n N J rw g' := by
  obtain ⟨a1, a2, a3, a4, a5, a6, ⟨d, d1, d2⟩, a7⟩ := h
  exact ⟨hT, h0, a3.frame (fun a ha => hf a (by unfold cR at ha; omega)), a4.frame (hf 80 (by omega)) (hf 81 (by omega)) (hf 82 (by omega)), a5.frame (fun a ha => hf a (by omega)), by rw [hf 21 (by omega), hf 79 (by omega)]; exact a6, ⟨d, d1, by rw [hf 30 (by omega)]; exact d2⟩, a7.frame (fun a ha => hf a (by omega))⟩
theorem p_teach : S_teach Inv := by
  intro n g h
  obtain ⟨N, J, rw, h⟩ := h
  obtain ⟨T, B, hB, hc, hm⟩ := h.1.tape
  obtain ⟨e1, gC, x1, a1, -, a3, -⟩ := teach_both hB hc hm
  have hm' : TapeM T B gC := ⟨by rw [a3 47 (by decide)]; exact hm.1, fun p hp => by rw [a3 48 (by decide)]; exact hm.2 p hp⟩
  obtain ⟨e, gC', gM, b1, b2, b3, b4, b5, b6, b7, b8⟩ := teach_both hB hc hm'
  rw [a1] at b1
  obtain ⟨rfl, rfl⟩ := Prod.mk.inj (Option.some.inj b1)
  have hmrg : mrg gC gM = gM := by
    funext a
    by_cases z : a < 47
    · rw [mrg_c z, b4 a z]
    · rw [mrg_m (by omega)]
  have ht : RelT gM := ⟨0, by decide, by rw [b4 1 (by decide)]; exact b5, b6, fun j hj => absurd hj (Nat.not_lt_zero j)⟩
  have h0 : gM 0 8 = gM 47 3 := by rw [b4 0 (by decide)]; exact b7
  refine ⟨(e1, gC), (e1, gM), a1, b2, rfl, ?_⟩
  rcases b8 with ⟨z1, z2⟩ | ⟨N', z1, z2, z3, z4, z5, z6⟩
  · refine InvC.next (N := N) (J := J) (rw := rw) (h.told (fun a ha => ?_) h0 ht)
    rcases (show a < 47 ∨ 47 ≤ a by omega) with q | q
    · exact (b4 a q).trans (z1 a (by omega))
    · exact (z2 a (by omega)).trans (a3 a (by omega))
  · rw [hmrg] at z1 z2 z3 z6
    exact ⟨N', 0, fun m => m, ht, h0, z1, z2, z3, (congrFun (b4 21 (by decide)) 5).trans z4, ⟨0, Nat.zero_le _, (congrFun (b4 30 (by decide)) 4).trans z5⟩, z6⟩
