/-! a builder is made, tells its String -/
theorem sb_new {S : ZS} (hc : 2 ≤ S.c) (hw : 20 ≤ S.w) : ∃ S', kJ4_init_da8c8 (2 * S.n + 1) (S.new 1 4 z0) = some S' ∧ BX S' (2 * S.n + 1) [] 16 ∧ Ste NO 2 20 S S' ∧ S'.c ≤ (S.new 1 4 z0).c ∧ S'.w ≤ (S.new 1 4 z0).w ∧ S.n ≤ S'.r ((2 * S.n + 1) / 2) 0 / 2 := by
  obtain ⟨S1, eS1⟩ : ∃ z, z = S.new 1 4 z0 := ⟨_, rfl⟩
  have c1 : S1.c = S.c - 1 ∧ S1.w = S.w - 4 ∧ S1.n = S.n + 1 := by rw [eS1]; exact ⟨rfl, rfl, rfl⟩
  have o1 : OB S1 (2 * S.n + 1) 1 := by rw [eS1]; exact OB.mk (S := S) (sl := 4) (f := z0)
  have hd : (2 * S.n + 1) / 2 = S.n := (nw_o _).2
  have s1 : Ste NO 1 4 S S1 := by rw [eS1]; exact Ste.new (by omega) (by omega)
  have s2 : Ste NO 1 16 S1 (S1.new (200000 + 16) 16 z0) := Ste.new (by omega) (by omega)
  obtain ⟨S2, eS2⟩ : ∃ z, z = S1.new (200000 + 16) 16 z0 := ⟨_, rfl⟩
  have a2 : AR S2 (2 * S1.n + 1) 200000 16 := by rw [eS2]; exact AR.mk (S := S1) (sl := 16) (f := z0) (by omega)
  have o2 : OB S2 (2 * S.n + 1) 1 := by rw [eS2]; exact o1.new (sl := 16) (f := z0)
  rw [← eS2] at s2
  obtain ⟨S3, eS3⟩ : ∃ z, z = S2.wr ((2 * S.n + 1) / 2) 0 (2 * S1.n + 1) := ⟨_, rfl⟩
  have o3 : OB S3 (2 * S.n + 1) 1 := by rw [eS3]; exact o2
  obtain ⟨S4, eS4⟩ : ∃ z, z = S3.wi ((2 * S.n + 1) / 2) 1 0 := ⟨_, rfl⟩
  have o4 : OB S4 (2 * S.n + 1) 1 := by rw [eS4]; exact o3
  have n4 : S4.n = S2.n ∧ S4.c = S2.c ∧ S4.w = S2.w ∧ S4.g = S2.g ∧ S4.K = S2.K := by rw [eS4, eS3]; exact ⟨rfl, rfl, rfl, rfl, rfl⟩
  have r4 : S4.r ((2 * S.n + 1) / 2) 0 = 2 * S1.n + 1 := by
    rw [eS4, eS3]
    exact ur_self
  have i2 : S2.i S.n = z0 := by
    rw [eS2]
    refine (nwI (S := S1) (f := z0) (sl := 16) (kind := 200000 + 16) (o := S.n) (by omega)).trans ?_
    rw [eS1]
    exact nwI0
  have i2n : S2.i S1.n = z0 := by rw [eS2]; exact nwI0
  have i4 : ∀ k, S4.i S.n k = 0 := fun k => by
    have e9 : S4.i S.n k = up S3.i S.n 1 0 S.n k := by rw [eS4, hd]; rfl
    rw [e9]
    have e8 : S3.i = S2.i := by rw [eS3]; rfl
    by_cases z : k = 1
    · rw [z, up_self]
    · rw [up_slot z, e8, i2]
      rfl
  have i4n : S4.i S1.n = z0 := by
    have e9 : S4.i = up S3.i S.n 1 0 := by rw [eS4, hd]; rfl
    have e8 : S3.i = S2.i := by rw [eS3]; rfl
    rw [e9, up_ne (by omega), e8]
    exact i2n
  have hd1 : (2 * S1.n + 1) / 2 = S1.n := (nw_o _).2
  have s4 : Ste NO 0 0 S2 S4 → True := fun _ => trivial
  refine ⟨S4, ?_, ⟨o4, by rw [hd]; exact i4 1, by rw [hd, i4 3]; rfl, by rw [r4]; exact ⟨a2.1, by rw [n4.1]; exact a2.2.1, by rw [n4.2.2.2.2]; exact a2.2.2.1, a2.2.2.2⟩, Nat.zero_le _, byT.nil, (fun j hj => by cases hj), fun j _ => by rw [r4, hd1, i4n]; exact z0_fit j⟩, ?_, by rw [n4.2.1]; rw [← eS1]; exact s2.2.2.2.1, by rw [n4.2.2.1]; rw [← eS1]; exact s2.2.2.2.2.2.1, by rw [r4, hd1]; omega⟩
  · unfold kJ4_init_da8c8 kJ5_init_d00df
    rw [← eS1]
    have hle : S4.c ≤ S1.c ∧ S4.w ≤ S1.w := ⟨by rw [n4.2.1]; exact s2.2.2.2.1, by rw [n4.2.2.1]; exact s2.2.2.2.2.2.1⟩
    refine chk_of ?_ hle.1 hle.2
    have e : chk id S1 (nA id S1 200000 16 fun c1 S2 => pR S2 (2 * S.n + 1) 1 0 c1 fun S4 => pI S4 (2 * S.n + 1) 1 1 0 fun S5 => some S5) = some S4 := by
      refine chk_of ?_ hle.1 hle.2
      have e16 : (16 : Int32) = nI 16 := rfl
      rw [e16, nA_n (by omega) (by omega) (by omega), ← eS2, pR_o o2, ← eS3, pI_o o3, ← eS4]
      exact chk_of rfl (show S4.c ≤ S2.c by rw [n4.2.1]; exact Nat.le_refl _) (show S4.w ≤ S2.w by rw [n4.2.2.1]; exact Nat.le_refl _)
    rw [e, b1_s]
    exact chk_of rfl (Nat.le_refl _) (Nat.le_refl _)
  · have s3 := s1.trans s2
    refine ⟨by rw [n4.2.2.2.1]; exact s3.1, by rw [n4.1]; exact s3.2.1, fun o ho => ⟨by rw [n4.2.2.2.2]; exact (s3.2.2.1 o ho).1, fun z => ?_⟩, by rw [n4.2.1]; exact s3.2.2.2.1, by rw [n4.2.1]; exact s3.2.2.2.2.1, by rw [n4.2.2.1]; exact s3.2.2.2.2.2.1, by rw [n4.2.2.1]; exact s3.2.2.2.2.2.2⟩
    obtain ⟨q1, q2⟩ := (s3.2.2.1 o ho).2 z
    have e8 : S3.i = S2.i := by rw [eS3]; rfl
    have e9 : S4.i = up S3.i S.n 1 0 := by rw [eS4, hd]; rfl
    have e7 : S4.r o = S2.r o := by
      rw [eS4, eS3]
      exact wr_ne (by omega)
    exact ⟨by rw [e9, up_ne (by omega), e8]; exact q1, by rw [e7]; exact q2⟩
/-- the bytes, made again -/
theorem copyR0 {S : ZS} {a cap n : Nat} {w : List Int32} (h : AR S a 200000 cap) (hn : w.length = n) (hl : n ≤ cap) (hby : byT w) (hco : ∀ j, j < n → S.i (a / 2) j = w.getD j 0) (hfit : ∀ j, j < cap → fitB (S.i (a / 2) j) = true) (hc : 1 ≤ S.c) (hw : n ≤ S.w) : ∃ d S', kJ7_copyOfRange_39247 a 0 (nI n) S = some (d, S') ∧ d / 2 = S.n ∧ AR S' d 200000 n ∧ (∀ j, j < n → S'.i (d / 2) j = w.getD j 0) ∧ Ste NO 1 n S S' := by
  have hcap := h.2.2.2
  have hd : (2 * S.n + 1) / 2 = S.n := (nw_o _).2
  by_cases e : n = cap
  · subst e
    refine ⟨2 * S.n + 1, S.new (200000 + n) n (S.i (a / 2)), ?_, hd, AR.mk hcap, fun j hj => ?_, Ste.new hc hw⟩
    · unfold kJ7_copyOfRange_39247
      refine chk_of ?_ (Nat.sub_le _ _) (Nat.sub_le _ _)
      rw [if_pos rfl, aL_n h, if_pos rfl]
      unfold clB
      have hk : S.K (a / 2) = 200000 + n := h.2.2.1
      rw [hk, Nat.add_sub_cancel_left, if_pos]
      · refine chk_of ?_ (Nat.le_refl _) (Nat.le_refl _)
        have ha : AR (S.new (200000 + n) n (S.i (a / 2))) (2 * S.n + 1) 200000 n := AR.mk hcap
        exact if_pos ha.ok
      · refine ⟨h.ok, ⟨hc, hw⟩, ?_⟩
        unfold fitR
        refine List.all_eq_true.mpr (fun i hi => ?_)
        rw [Nat.zero_add]
        exact hfit i (List.mem_range.mp hi)
    · rw [hd, nwI0]
      exact hco j hj
  · have ha : AR (S.new (200000 + n) n z0) (2 * S.n + 1) 200000 n := AR.mk (by omega)
    have h1 : AR (S.new (200000 + n) n z0) a 200000 cap := h.new
    have s1 : Ste NO 1 n S (S.new (200000 + n) n z0) := Ste.new hc hw
    have s2 : Ste NO 1 n S ((S.new (200000 + n) n z0).wa S.n (va_cpy (S.i (a / 2)) z0 0 0 n)) := by
      refine ⟨s1.1, s1.2.1, fun o ho => ⟨(s1.2.2.1 o ho).1, fun z => ⟨?_, ((s1.2.2.1 o ho).2 z).2⟩⟩, s1.2.2.2⟩
      exact (wa_ne (by omega)).trans ((s1.2.2.1 o ho).2 z).1
    refine ⟨2 * S.n + 1, (S.new (200000 + n) n z0).wa S.n (va_cpy (S.i (a / 2)) z0 0 0 n), ?_, hd, ha, fun j hj => ?_, s2⟩
    · unfold kJ7_copyOfRange_39247 kJ7_copyOfRange_39247_10 kJ7_copyOfRangeByte_39247 kJ7_checkLength_df160
      have hle := s2.2.2.2
      refine chk_of ?_ hle.1 hle.2.2.1
      rw [if_pos rfl, aL_n h, if_neg (by rw [nI_eq (by omega) (by omega)]; exact e)]
      have e1 : chk id S (if (0 : Int32) ≤ nI n then some S else none) = some S := chk_of (if_pos (nI_pos' (by omega))) (Nat.le_refl _) (Nat.le_refl _)
      have e0 : nI n - 0 = nI n := Int32.sub_zero _
      have e0' : nI cap - 0 = nI cap := Int32.sub_zero _
      have e2 : chk Prod.snd S (b1 Prod.snd (chk id S (if (0 : Int32) ≤ nI n then some S else none)) fun S1 => bd (nI n - 0) fun x3 => nA Prod.snd S1 200000 x3 fun c4 S5 => aL S5 a 200000 fun x7 => bd (if x3 < x7 - 0 then x3 else x7 - 0) fun x8 => cpB S5 a 0 c4 0 x8 fun S9 => some (c4, S9)) = some (2 * S.n + 1, (S.new (200000 + n) n z0).wa S.n (va_cpy (S.i (a / 2)) z0 0 0 n)) := by
        refine chk_of ?_ hle.1 hle.2.2.1
        rw [e1, b1_s]
        refine chk_of ?_ hle.1 hle.2.2.1
        rw [bd_eq, e0, nA_n (by omega) hc hw]
        refine chk_of ?_ (Nat.le_refl _) (Nat.le_refl _)
        rw [aL_n h1, bd_eq, e0', if_pos ((nI_ltI (by omega) (by omega)).mpr (by omega))]
        unfold cpB
        have ez : (0 : Int32).toNatClampNeg = 0 := rfl
        have eq : (nI n).toNatClampNeg = n := nI_clamp (by omega)
        rw [ez, eq, hd, if_pos]
        · rw [nwI0, nwI h.2.1]
        · refine ⟨⟨h1.ok, ha.ok⟩, ⟨by decide, by decide, nI_pos (by omega)⟩, ⟨?_, ?_⟩, ?_⟩
          · rw [h1.2.2.1]; omega
          · have := ha.2.2.1
            rw [hd] at this
            rw [this]; omega
          · unfold fitR
            refine List.all_eq_true.mpr (fun i hi => ?_)
            rw [nwI h.2.1, Nat.zero_add]
            exact hfit i (by have := List.mem_range.mp hi; omega)
      rw [e2, b2_s]
      exact chk_of rfl (Nat.le_refl _) (Nat.le_refl _)
    · rw [hd, wa_eq]
      show (if 0 ≤ j ∧ j < 0 + n then _ else _) = _
      rw [if_pos (by omega), Nat.zero_add, Nat.sub_zero]
      exact hco j hj
/-- a String of the heap -/
def SO (S : ZS) (c : Nat) (w : List Int32) : Prop := byT w ∧ OB S c 0 ∧ S.i (c / 2) 1 = 0 ∧ AR S (S.r (c / 2) 0) 200000 w.length ∧ ∀ j, j < w.length → S.i (S.r (c / 2) 0 / 2) j = w.getD j 0
theorem SO.sx {S : ZS} {c : Nat} {w : List Int32} (h : SO S c w) : SX S c w := ⟨h.1, Or.inl ⟨h.2.1.1, h.2⟩⟩
theorem k_toString {S : ZS} {c cap : Nat} {w : List Int32} (h : BX S c w cap) (hc : 2 ≤ S.c) (hw : w.length + 4 ≤ S.w) : ∃ d S', kJ4_toString_0e30d c S = some (d, S') ∧ SO S' d w ∧ Ste NO 2 (w.length + 4) S S' := by
  obtain ⟨S1, eS1⟩ : ∃ z, z = S.new 0 4 z0 := ⟨_, rfl⟩
  have c1 : S1.c = S.c - 1 ∧ S1.w = S.w - 4 ∧ S1.n = S.n + 1 := by rw [eS1]; exact ⟨rfl, rfl, rfl⟩
  have hd : (2 * S.n + 1) / 2 = S.n := (nw_o _).2
  have s1 : Ste NO 1 4 S S1 := by rw [eS1]; exact Ste.new (by omega) (by omega)
  have o1 : OB S1 (2 * S.n + 1) 0 := by rw [eS1]; exact OB.mk (S := S) (sl := 4) (f := z0)
  obtain ⟨b1', -⟩ := h.no s1
  obtain ⟨a1, a2, a3, a4, a5, a6, a7, a8⟩ := id b1'
  have hcn := a1.2.1
  have hcne : c / 2 ≠ S.n := by have := h.o.2.1; omega
  obtain ⟨S2, eS2⟩ : ∃ z, z = S1.wi ((2 * S.n + 1) / 2) 1 0 := ⟨_, rfl⟩
  have s2 : Ste NO 1 4 S S2 := by
    rw [eS2]
    exact s1.fillI (by omega)
  have o2 : OB S2 (2 * S.n + 1) 0 := by rw [eS2]; exact o1
  have n2 : S2.n = S1.n ∧ S2.c = S1.c ∧ S2.w = S1.w := by rw [eS2]; exact ⟨rfl, rfl, rfl⟩
  obtain ⟨b2', rb2⟩ := h.no s2
  obtain ⟨q1, q2, q3, q4, q5, q6, q7, q8⟩ := id b2'
  obtain ⟨d, S3, e3, d1, d2, d3, s3⟩ := copyR0 (n := w.length) q4 rfl q5 q6 q7 q8 (by omega) (by omega)
  have o3 : OB S3 (2 * S.n + 1) 0 := o2.ste s3
  obtain ⟨S4, eS4⟩ : ∃ z, z = S3.wr ((2 * S.n + 1) / 2) 0 d := ⟨_, rfl⟩
  have s4 : Ste NO 2 (w.length + 4) S S4 := by
    rw [eS4]
    exact ((s2.trans s3).fill (by omega)).mono (fun _ z => z) (by omega) (by omega)
  have n4 : S4.n = S3.n ∧ S4.c = S3.c ∧ S4.w = S3.w ∧ S4.K = S3.K ∧ S4.i = S3.i := by rw [eS4]; exact ⟨rfl, rfl, rfl, rfl, rfl⟩
  have r4 : S4.r ((2 * S.n + 1) / 2) 0 = d := by rw [eS4]; exact ur_self
  have i4 : S4.i ((2 * S.n + 1) / 2) 1 = 0 := by
    rw [n4.2.2.2.2, (s3.old o2.2.1).1, eS2]
    exact up_self
  have hle : S4.c ≤ S1.c ∧ S4.w ≤ S1.w := by
    have := s3.2.2.2
    exact ⟨by rw [n4.2.1]; omega, by rw [n4.2.2.1]; omega⟩
  have hle2 : S4.c ≤ S2.c ∧ S4.w ≤ S2.w := ⟨by rw [n2.2.1]; exact hle.1, by rw [n2.2.2]; exact hle.2⟩
  have hle3 : S4.c ≤ S3.c ∧ S4.w ≤ S3.w := ⟨by rw [n4.2.1]; exact Nat.le_refl _, by rw [n4.2.2.1]; exact Nat.le_refl _⟩
  refine ⟨2 * S.n + 1, S4, ?_, ⟨a6, by rw [eS4]; exact o3, i4, by rw [r4]; exact ⟨d2.1, by rw [n4.1]; exact d2.2.1, by rw [n4.2.2.2.1]; exact d2.2.2.1, d2.2.2.2⟩, fun j hj => by rw [r4, n4.2.2.2.2]; exact d3 j hj⟩, s4⟩
  unfold kJ4_toString_0e30d kNJ0_init_81219 kNJ0_init_db425_Z
  have hs4 := s4.2.2.2
  refine chk_of ?_ hs4.1 hs4.2.2.1
  have g1 : kJ5_getValue_6d5f1 c S1 = some (S1.r (c / 2) 0, S1) := by
    unfold kJ5_getValue_6d5f1
    refine chk_of ?_ (Nat.le_refl _) (Nat.le_refl _)
    rw [gN_o a1 a4.ne0]
  have g2 : kJ4_length_8abf5 c S1 = some (nI w.length, S1) := by
    unfold kJ4_length_8abf5 kJ5_length_8abf5
    refine chk_of ?_ (Nat.le_refl _) (Nat.le_refl _)
    have e : chk Prod.snd S1 (gI S1 c 1 3 fun x1 => some (x1, S1)) = some (nI w.length, S1) := by
      refine chk_of ?_ (Nat.le_refl _) (Nat.le_refl _)
      rw [gI_o a1, a3]
    rw [rcv_o a1, e, b2_s]
    exact chk_of rfl (Nat.le_refl _) (Nat.le_refl _)
  have g3 : kJ5_isLatin1_aae02 c S1 = some (1, S1) := by
    unfold kJ5_isLatin1_aae02
    refine chk_of ?_ (Nat.le_refl _) (Nat.le_refl _)
    rw [gI_o a1, a2, if_pos rfl]
  rw [nO_n (by omega) (by omega), ← eS1]
  refine chk_of ?_ hle.1 hle.2
  have e5 : chk id S1 (rcv S1 c 1 <| b2 id (kJ5_getValue_6d5f1 c S1) fun c8 S6 => rcv S6 c 1 <| b2 id (kJ4_length_8abf5 c S6) fun x11 S9 => rcv S9 c 1 <| b2 id (kJ5_isLatin1_aae02 c S9) fun x14 S12 => if x14 = 0 then gI S12 c 1 2 fun x16 => if x16 = 0 then kNJ0_init_db425_Z_79 (2 * S.n + 1) c8 x11 S12 else none else pI S12 (2 * S.n + 1) 0 1 0 fun S18 => b2 id (kJ7_copyOfRange_39247 c8 0 x11 S18) fun c21 S19 => pR S19 (2 * S.n + 1) 0 0 c21 fun S22 => some S22) = some S4 := by
    refine chk_of ?_ hle.1 hle.2
    rw [rcv_o a1, g1, b2_s]
    refine chk_of ?_ hle.1 hle.2
    rw [rcv_o a1, g2, b2_s]
    refine chk_of ?_ hle.1 hle.2
    rw [rcv_o a1, g3, b2_s]
    refine chk_of ?_ hle.1 hle.2
    rw [if_neg (by decide), pI_o o1, ← eS2]
    have er : S1.r (c / 2) 0 = S2.r (c / 2) 0 := by rw [eS2]; rfl
    rw [er, e3, b2_s, pR_o o3, ← eS4]
    exact chk_of rfl hle3.1 hle3.2
  rw [e5, b1_s]
  have e6 : chk id S4 (some S4) = some S4 := chk_of rfl (Nat.le_refl _) (Nat.le_refl _)
  rw [e6]
  have e7 : chk id S1 (some S4) = some S4 := chk_of rfl hle.1 hle.2
  rw [e7, b1_s]
  exact chk_of rfl (Nat.le_refl _) (Nat.le_refl _)
