def kL_taught_79 (K36 : Nat → Nat → Int32 → Int32 → Int32 → ZS → Option (Int32 × ZS)) (v1 : Nat) (v2 : Nat) (v3 : Int32) (v4 : Int32) (v5 : Int32) (vt0 : Int32) (vt1 : Int32) (vt2 : Int32) (vt3 : Nat) (S : ZS) : Option (Int32 × ZS) :=
      aP S vt3 100000 vt2 (vt1 ||| vt0) fun S1 =>
      bd (v5 + 1) fun x2 =>
      K36 v1 v2 v3 v4 x2 S1
def kL_taught_36 (K17 : Nat → Nat → Int32 → Int32 → ZS → Option (Int32 × ZS)) : Nat → Nat → Nat → Int32 → Int32 → Int32 → ZS → Option (Int32 × ZS)
  | 0, _, _, _, _, _, _ => none
  | f + 1, v1, v2, v3, v4, v5, S =>
        if ((v3 + (4 * v4)) + 4) ≤ v5 then
          bd (v4 + 1) fun x4 =>
          K17 v1 v2 v3 x4 S
        else
          aG S v2 100000 v4 fun x5 =>
          rcv S v1 0 <| b2 Prod.snd (kNJ0_length_8abf5 v1 S) fun x8 S6 =>
          if x8 ≤ v5 then
            kL_taught_79 (kL_taught_36 K17 f) v1 v2 v3 v4 v5 32 (x5 <<< (8 &&& 31)) v4 v2 S6
          else
            rcv S6 v1 0 <| b2 Prod.snd (kNJ0_charAt_5068e v1 v5 S6) fun x12 S10 =>
            kL_taught_79 (kL_taught_36 K17 f) v1 v2 v3 v4 v5 x12 (x5 <<< (8 &&& 31)) v4 v2 S10
def kL_taught_17 (K6 : Nat → Nat → Int32 → ZS → Option (Int32 × ZS)) : Nat → Nat → Nat → Int32 → Int32 → ZS → Option (Int32 × ZS)
  | 0, _, _, _, _, _ => none
  | f + 1, v1, v2, v3, v4, S =>
        if 5 ≤ v4 then
          aG S v2 100000 0 fun x14 =>
          aG S v2 100000 1 fun x15 =>
          aG S v2 100000 2 fun x16 =>
          aG S v2 100000 3 fun x17 =>
          aG S v2 100000 4 fun x18 =>
          clR Prod.snd S 3 18 (k8_feed x14 x15 x16 x17 x18 S.g) fun x19 S20 =>
          bd (v3 + 20) fun x21 =>
          K6 v1 v2 x21 S20
        else
          aP S v2 100000 v4 0 fun S22 =>
          bd (v3 + (4 * v4)) fun x23 =>
          kL_taught_36 (kL_taught_17 K6 f) FU v1 v2 v3 v4 x23 S22
def kL_taught_6  : Nat → Nat → Nat → Int32 → ZS → Option (Int32 × ZS)
  | 0, _, _, _, _ => none
  | f + 1, v1, v2, v3, S =>
        rcv S v1 0 <| b2 Prod.snd (kNJ0_length_8abf5 v1 S) fun x26 S24 =>
        if x26 ≤ v3 then
          rcv S24 v1 0 <| b2 Prod.snd (kNJ0_length_8abf5 v1 S24) fun x30 S28 =>
          clR Prod.snd S28 3 18 (k8_trim x30 S28.g) fun x31 S32 =>
          clI S32 (k8_teach S32.g) fun x33 S34 =>
          some (x33, S34)
        else
          kL_taught_17 (kL_taught_6 f) FU v1 v2 v3 0 S24
def kL_taught (c1 : Nat) (S0 : ZS) : Option (Int32 × ZS) :=
  chk Prod.snd S0 <|
  nA Prod.snd S0 100000 5 fun c35 S36 =>
  kL_taught_6 FU c1 c35 0 S36
set_option maxRecDepth 100000 in
set_option maxHeartbeats 8000000 in
theorem mL_taught (E : EV) (l : Launch) (hst : l.stackTraces = false) (c1 : Nat) (S0 : ZS) (q1 : c1 ≠ 0 ∧ rk S0.n c1) : ∀ u, kL_taught c1 S0 = some u → MIL E l yL_taught cL_taught 6 (Option.some Jvm.ClassFile.FieldType.int) 107 (fun ad => [.ref (E.ad 0), .ref (rA E ad c1)]) S0 u := by
  intro u h
  unfold kL_taught at h
  obtain ⟨hcw, h⟩ := chk_inv h
  refine ML2.of (by decide +kernel) (fun ad => Nat.le_of_ble_eq_true rfl) hcw ?_
  intro p e s m args below meth c ad F hF C hA hr hnm ls hl hG
  have C : Cx p s m args meth c cL_taught 6 RL E := C
  have hx := C.1
  have hb := C.2.1
  have hU : F.uc = (u.2).c ∧ F.uw = (u.2).w := ⟨hF.2.2.2.2.1, hF.2.2.2.2.2⟩
  have hl : lv_has ls 6 [(0, .ref (E.ad 0)), (1, .ref (rA E ad c1))] := hl
  obtain ⟨b1, h1, e1⟩ : ∃ b, RA E ad S0.n c1 b ∧ b = rA E ad c1 := ⟨_, RA.of q1.1 q1.2, rfl⟩
  rw [← e1] at hl
  have j79 : ∀ (K36 : Nat → Nat → Int32 → Int32 → Int32 → ZS → Option (Int32 × ZS)), (∀ (v1 : Nat) (v2 : Nat) (v3 : Int32) (v4 : Int32) (v5 : Int32) (S : ZS) (ad : Nat → Nat) (N : Nat) (bv1 : Nat) (bv2 : Nat) (H : Heap) (locs : List Loc) (ls : Array Slot) (cells slots : Nat), GL E s F H locs ad N S cells slots → RA E ad N v1 bv1 → RA E ad N v2 bv2 → lv_has ls 6 [(0, .ref (E.ad 0)), (1, .ref bv1), (2, .ref bv2), (3, .int v3), (4, .int v4), (5, .int v5)] → K36 v1 v2 v3 v4 v5 S = some u → W p l e (F.R 107) s m args below meth c H locs cells slots (MQ below (QIL E s.heap.size F.ad S0 u) args s (F.c - F.uc) (F.w - F.uw) F.A) (F0 m 36 ls [])) → ∀ (v1 : Nat) (v2 : Nat) (v3 : Int32) (v4 : Int32) (v5 : Int32) (vt0 : Int32) (vt1 : Int32) (vt2 : Int32) (vt3 : Nat) (S : ZS) (ad : Nat → Nat) (N : Nat) (bv1 : Nat) (bv2 : Nat) (bvt3 : Nat) (H : Heap) (locs : List Loc) (ls : Array Slot) (cells slots : Nat), GL E s F H locs ad N S cells slots → RA E ad N v1 bv1 → RA E ad N v2 bv2 → RA E ad N vt3 bvt3 → lv_has ls 6 [(0, .ref (E.ad 0)), (1, .ref bv1), (2, .ref bv2), (3, .int v3), (4, .int v4), (5, .int v5)] → kL_taught_79 K36 v1 v2 v3 v4 v5 vt0 vt1 vt2 vt3 S = some u → W p l e (F.R 107) s m args below meth c H locs cells slots (MQ below (QIL E s.heap.size F.ad S0 u) args s (F.c - F.uc) (F.w - F.uw) F.A) (F0 m 79 ls [.int vt0, .int vt1, .int vt2, .ref bvt3]) := by
    intro K36 hK36 v1 v2 v3 v4 v5 vt0 vt1 vt2 vt3 S ad N bv1 bv2 bvt3 H locs ls cells slots hG hv1 hv2 hvt3 hl h
    unfold kL_taught_79 at h
    refine lv_ior hx hb dL_taught_79 ?_
    refine r2_pAI C hG hvt3 dL_taught_80 h (fun H locs S1 hG h => ?_)
    refine r_iinc (w := 1) (lv' := fun x2 => [(5, .int x2), (0, .ref (E.ad 0)), (1, .ref bv1), (2, .ref bv2), (3, .int v3), (4, .int v4)]) C dL_taught_81 hl (k := 5) rfl (by decide) (by decide) (fun _ => rfl) h (fun x2 ls hl h => ?_)
    refine lv_goto (tgt := 36) hx hb dL_taught_84 (by decide) ?_
    exact hK36 v1 v2 v3 v4 x2 S1 _ _ _ _ _ _ _ _ _ hG hv1 hv2 (lv_sub hl [1, 2, 3, 4, 5, 0] rfl) h
  have j36 : ∀ (K17 : Nat → Nat → Int32 → Int32 → ZS → Option (Int32 × ZS)), (∀ (v1 : Nat) (v2 : Nat) (v3 : Int32) (v4 : Int32) (S : ZS) (ad : Nat → Nat) (N : Nat) (bv1 : Nat) (bv2 : Nat) (H : Heap) (locs : List Loc) (ls : Array Slot) (cells slots : Nat), GL E s F H locs ad N S cells slots → RA E ad N v1 bv1 → RA E ad N v2 bv2 → lv_has ls 6 [(0, .ref (E.ad 0)), (1, .ref bv1), (2, .ref bv2), (3, .int v3), (4, .int v4)] → K17 v1 v2 v3 v4 S = some u → W p l e (F.R 107) s m args below meth c H locs cells slots (MQ below (QIL E s.heap.size F.ad S0 u) args s (F.c - F.uc) (F.w - F.uw) F.A) (F0 m 17 ls [])) → ∀ f : Nat, ∀ (v1 : Nat) (v2 : Nat) (v3 : Int32) (v4 : Int32) (v5 : Int32) (S : ZS) (ad : Nat → Nat) (N : Nat) (bv1 : Nat) (bv2 : Nat) (H : Heap) (locs : List Loc) (ls : Array Slot) (cells slots : Nat), GL E s F H locs ad N S cells slots → RA E ad N v1 bv1 → RA E ad N v2 bv2 → lv_has ls 6 [(0, .ref (E.ad 0)), (1, .ref bv1), (2, .ref bv2), (3, .int v3), (4, .int v4), (5, .int v5)] → kL_taught_36 K17 f v1 v2 v3 v4 v5 S = some u → W p l e (F.R 107) s m args below meth c H locs cells slots (MQ below (QIL E s.heap.size F.ad S0 u) args s (F.c - F.uc) (F.w - F.uw) F.A) (F0 m 36 ls []) := by
    intro K17 hK17 f
    induction f with
    | zero =>
      intro v1 v2 v3 v4 v5 S ad N bv1 bv2 H locs ls cells slots hG hv1 hv2 hl h
      unfold kL_taught_36 at h
      cases h
    | succ f ih =>
      intro v1 v2 v3 v4 v5 S ad N bv1 bv2 H locs ls cells slots hG hv1 hv2 hl h
      unfold kL_taught_36 at h
      refine lv_iload hx hb dL_taught_36 (lv_at hl 5 rfl) ?_
      refine lv_iload_n hx hb dL_taught_38 rfl (lv_at hl 3 rfl) ?_
      refine lv_iconst (v := 4) hx hb dL_taught_39 (by decide) ?_
      refine lv_iload hx hb dL_taught_40 (lv_at hl 4 rfl) ?_
      refine lv_imul hx hb dL_taught_42 ?_
      refine lv_iadd hx hb dL_taught_43 ?_
      refine lv_iconst (v := 4) hx hb dL_taught_44 (by decide) ?_
      refine lv_iadd hx hb dL_taught_45 ?_
      refine lv_icmp_ge (tgt := 87) hx hb dL_taught_46 (by decide) (fun g3 => ?_) (fun g3 => ?_)
      · have h := (if_inv h).1 g3
        refine r_iinc (w := 1) (lv' := fun x4 => [(4, .int x4), (0, .ref (E.ad 0)), (1, .ref bv1), (2, .ref bv2), (3, .int v3), (5, .int v5)]) C dL_taught_87 hl (k := 4) rfl (by decide) (by decide) (fun _ => rfl) h (fun x4 ls hl h => ?_)
        refine lv_goto (tgt := 17) hx hb dL_taught_90 (by decide) ?_
        exact hK17 v1 v2 v3 x4 S _ _ _ _ _ _ _ _ _ hG hv1 hv2 (lv_sub hl [1, 2, 3, 4, 0] rfl) h
      · have h := (if_inv h).2 g3
        refine lv_aload_n hx hb dL_taught_49 rfl (lv_at hl 2 rfl) ?_
        refine lv_iload hx hb dL_taught_50 (lv_at hl 4 rfl) ?_
        refine lv_aload_n hx hb dL_taught_52 rfl (lv_at hl 2 rfl) ?_
        refine lv_iload hx hb dL_taught_53 (lv_at hl 4 rfl) ?_
        refine r2_gAI C hG hv2 dL_taught_55 h (fun x5 h => ?_)
        refine lv_bipush (v := 8) hx hb dL_taught_56 (by decide) ?_
        refine lv_ishl hx hb dL_taught_58 ?_
        refine lv_iload hx hb dL_taught_59 (lv_at hl 5 rfl) ?_
        refine lv_aload_n hx hb dL_taught_61 rfl (lv_at hl 1 rfl) ?_
        refine r2_cVI C hA hl.1 hG hv1 [] [.int v5, .int (x5 <<< (8 &&& 31)), .int v4, .ref bv2] (mNJ0_length_8abf5 E l v1 S (RAq hG hv1)) (by rw [hv1.1]) QLL_9 KP0 rfl (rm2 (by decide) (by decide)) (Nat.le_of_ble_eq_true rfl) rfl dL_taught_62 hU h (fun x8 S6 H locs ad7 cells slots hG hx9 h => ?_)
        have hv1 := hv1.up hx9
        have hv2 := hv2.up hx9
        refine lv_icmp_ge (tgt := 77) hx hb dL_taught_65 (by decide) (fun g9 => ?_) (fun g9 => ?_)
        · have h := (if_inv h).1 g9
          refine lv_bipush (v := 32) hx hb dL_taught_77 (by decide) ?_
          exact j79 (kL_taught_36 K17 f) ih v1 v2 v3 v4 v5 32 (x5 <<< (8 &&& 31)) v4 v2 S6 _ _ _ _ _ _ _ _ _ _ hG hv1 hv2 hv2 (lv_sub hl [0, 1, 2, 3, 4, 5] rfl) h
        · have h := (if_inv h).2 g9
          refine lv_aload_n hx hb dL_taught_68 rfl (lv_at hl 1 rfl) ?_
          refine lv_iload hx hb dL_taught_69 (lv_at hl 5 rfl) ?_
          refine r2_cVI C hA hl.1 hG hv1 [.int v5] [.int (x5 <<< (8 &&& 31)), .int v4, .ref bv2] (mNJ0_charAt_5068e E l v1 v5 S6 (RAq hG hv1)) (by rw [hv1.1]) QLL_15 KP0 rfl (rm2 (by decide) (by decide)) (Nat.le_of_ble_eq_true rfl) rfl dL_taught_71 hU h (fun x12 S10 H locs ad11 cells slots hG hx9 h => ?_)
          have hv1 := hv1.up hx9
          have hv2 := hv2.up hx9
          refine lv_goto (tgt := 79) hx hb dL_taught_74 (by decide) ?_
          exact j79 (kL_taught_36 K17 f) ih v1 v2 v3 v4 v5 x12 (x5 <<< (8 &&& 31)) v4 v2 S10 _ _ _ _ _ _ _ _ _ _ hG hv1 hv2 hv2 (lv_sub hl [0, 1, 2, 3, 4, 5] rfl) h
  have j17 : ∀ (K6 : Nat → Nat → Int32 → ZS → Option (Int32 × ZS)), (∀ (v1 : Nat) (v2 : Nat) (v3 : Int32) (S : ZS) (ad : Nat → Nat) (N : Nat) (bv1 : Nat) (bv2 : Nat) (H : Heap) (locs : List Loc) (ls : Array Slot) (cells slots : Nat), GL E s F H locs ad N S cells slots → RA E ad N v1 bv1 → RA E ad N v2 bv2 → lv_has ls 6 [(0, .ref (E.ad 0)), (1, .ref bv1), (2, .ref bv2), (3, .int v3)] → K6 v1 v2 v3 S = some u → W p l e (F.R 107) s m args below meth c H locs cells slots (MQ below (QIL E s.heap.size F.ad S0 u) args s (F.c - F.uc) (F.w - F.uw) F.A) (F0 m 6 ls [])) → ∀ f : Nat, ∀ (v1 : Nat) (v2 : Nat) (v3 : Int32) (v4 : Int32) (S : ZS) (ad : Nat → Nat) (N : Nat) (bv1 : Nat) (bv2 : Nat) (H : Heap) (locs : List Loc) (ls : Array Slot) (cells slots : Nat), GL E s F H locs ad N S cells slots → RA E ad N v1 bv1 → RA E ad N v2 bv2 → lv_has ls 6 [(0, .ref (E.ad 0)), (1, .ref bv1), (2, .ref bv2), (3, .int v3), (4, .int v4)] → kL_taught_17 K6 f v1 v2 v3 v4 S = some u → W p l e (F.R 107) s m args below meth c H locs cells slots (MQ below (QIL E s.heap.size F.ad S0 u) args s (F.c - F.uc) (F.w - F.uw) F.A) (F0 m 17 ls []) := by
    intro K6 hK6 f
    induction f with
    | zero =>
      intro v1 v2 v3 v4 S ad N bv1 bv2 H locs ls cells slots hG hv1 hv2 hl h
      unfold kL_taught_17 at h
      cases h
    | succ f ih =>
      intro v1 v2 v3 v4 S ad N bv1 bv2 H locs ls cells slots hG hv1 hv2 hl h
      unfold kL_taught_17 at h
      refine lv_iload hx hb dL_taught_17 (lv_at hl 4 rfl) ?_
      refine lv_iconst (v := 5) hx hb dL_taught_19 (by decide) ?_
      refine lv_icmp_ge (tgt := 93) hx hb dL_taught_20 (by decide) (fun g13 => ?_) (fun g13 => ?_)
      · have h := (if_inv h).1 g13
        refine lv_aload_n hx hb dL_taught_93 rfl (lv_at hl 0 rfl) ?_
        refine lv_aload_n hx hb dL_taught_94 rfl (lv_at hl 2 rfl) ?_
        refine lv_iconst (v := 0) hx hb dL_taught_95 (by decide) ?_
        refine r2_gAI C hG hv2 dL_taught_96 h (fun x14 h => ?_)
        refine lv_aload_n hx hb dL_taught_97 rfl (lv_at hl 2 rfl) ?_
        refine lv_iconst (v := 1) hx hb dL_taught_98 (by decide) ?_
        refine r2_gAI C hG hv2 dL_taught_99 h (fun x15 h => ?_)
        refine lv_aload_n hx hb dL_taught_100 rfl (lv_at hl 2 rfl) ?_
        refine lv_iconst (v := 2) hx hb dL_taught_101 (by decide) ?_
        refine r2_gAI C hG hv2 dL_taught_102 h (fun x16 h => ?_)
        refine lv_aload_n hx hb dL_taught_103 rfl (lv_at hl 2 rfl) ?_
        refine lv_iconst (v := 3) hx hb dL_taught_104 (by decide) ?_
        refine r2_gAI C hG hv2 dL_taught_105 h (fun x17 h => ?_)
        refine lv_aload_n hx hb dL_taught_106 rfl (lv_at hl 2 rfl) ?_
        refine lv_iconst (v := 4) hx hb dL_taught_107 (by decide) ?_
        refine r2_gAI C hG hv2 dL_taught_108 h (fun x18 h => ?_)
        refine r2_clR C hA hl.1 hG [.int x14, .int x15, .int x16, .int x17, .int x18] [] (m8_feed E l hst x14 x15 x16 x17 x18 S.g) QCL_19.1 QCL_19.2 KC8 rfl (rm2 (by decide) (by decide)) (Nat.le_of_ble_eq_true rfl) rfl dL_taught_109 hU h (fun x19 S20 H locs cells slots hG h => ?_)
        refine lv_pop hx hb dL_taught_112 rfl ?_
        refine r_iinc (w := 20) (lv' := fun x21 => [(3, .int x21), (0, .ref (E.ad 0)), (1, .ref bv1), (2, .ref bv2), (4, .int v4)]) C dL_taught_113 hl (k := 3) rfl (by decide) (by decide) (fun _ => rfl) h (fun x21 ls hl h => ?_)
        refine lv_goto (tgt := 6) hx hb dL_taught_116 (by decide) ?_
        exact hK6 v1 v2 x21 S20 _ _ _ _ _ _ _ _ _ hG hv1 hv2 (lv_sub hl [1, 2, 3, 0] rfl) h
      · have h := (if_inv h).2 g13
        refine lv_aload_n hx hb dL_taught_23 rfl (lv_at hl 2 rfl) ?_
        refine lv_iload hx hb dL_taught_24 (lv_at hl 4 rfl) ?_
        refine lv_iconst (v := 0) hx hb dL_taught_26 (by decide) ?_
        refine r2_pAI C hG hv2 dL_taught_27 h (fun H locs S22 hG h => ?_)
        refine lv_iload_n hx hb dL_taught_28 rfl (lv_at hl 3 rfl) ?_
        refine lv_iconst (v := 4) hx hb dL_taught_29 (by decide) ?_
        refine lv_iload hx hb dL_taught_30 (lv_at hl 4 rfl) ?_
        refine lv_imul hx hb dL_taught_32 ?_
        refine lv_iadd hx hb dL_taught_33 ?_
        refine r_nm h (fun x23 h => ?_)
        refine lv_istore (lv' := [(5, .int x23), (0, .ref (E.ad 0)), (1, .ref bv1), (2, .ref bv2), (3, .int v3), (4, .int v4)]) hx hb dL_taught_34 hl (by decide) rfl (fun ls hl => ?_)
        exact j36 (kL_taught_17 K6 f) ih FU v1 v2 v3 v4 x23 S22 _ _ _ _ _ _ _ _ _ hG hv1 hv2 (lv_sub hl [1, 2, 3, 4, 5, 0] rfl) h
  have j6 : ∀ f : Nat, ∀ (v1 : Nat) (v2 : Nat) (v3 : Int32) (S : ZS) (ad : Nat → Nat) (N : Nat) (bv1 : Nat) (bv2 : Nat) (H : Heap) (locs : List Loc) (ls : Array Slot) (cells slots : Nat), GL E s F H locs ad N S cells slots → RA E ad N v1 bv1 → RA E ad N v2 bv2 → lv_has ls 6 [(0, .ref (E.ad 0)), (1, .ref bv1), (2, .ref bv2), (3, .int v3)] → kL_taught_6 f v1 v2 v3 S = some u → W p l e (F.R 107) s m args below meth c H locs cells slots (MQ below (QIL E s.heap.size F.ad S0 u) args s (F.c - F.uc) (F.w - F.uw) F.A) (F0 m 6 ls []) := by
    intro f
    induction f with
    | zero =>
      intro v1 v2 v3 S ad N bv1 bv2 H locs ls cells slots hG hv1 hv2 hl h
      unfold kL_taught_6 at h
      cases h
    | succ f ih =>
      intro v1 v2 v3 S ad N bv1 bv2 H locs ls cells slots hG hv1 hv2 hl h
      unfold kL_taught_6 at h
      refine lv_iload_n hx hb dL_taught_6 rfl (lv_at hl 3 rfl) ?_
      refine lv_aload_n hx hb dL_taught_7 rfl (lv_at hl 1 rfl) ?_
      refine r2_cVI C hA hl.1 hG hv1 [] [.int v3] (mNJ0_length_8abf5 E l v1 S (RAq hG hv1)) (by rw [hv1.1]) QLL_9 KP0 rfl (rm2 (by decide) (by decide)) (Nat.le_of_ble_eq_true rfl) rfl dL_taught_8 hU h (fun x26 S24 H locs ad25 cells slots hG hx9 h => ?_)
      have hv1 := hv1.up hx9
      have hv2 := hv2.up hx9
      refine lv_icmp_ge (tgt := 119) hx hb dL_taught_11 (by decide) (fun g27 => ?_) (fun g27 => ?_)
      · have h := (if_inv h).1 g27
        refine lv_aload_n hx hb dL_taught_119 rfl (lv_at hl 0 rfl) ?_
        refine lv_aload_n hx hb dL_taught_120 rfl (lv_at hl 1 rfl) ?_
        refine r2_cVI C hA hl.1 hG hv1 [] [.ref (E.ad 0)] (mNJ0_length_8abf5 E l v1 S24 (RAq hG hv1)) (by rw [hv1.1]) QLL_9 KP0 rfl (rm2 (by decide) (by decide)) (Nat.le_of_ble_eq_true rfl) rfl dL_taught_121 hU h (fun x30 S28 H locs ad29 cells slots hG hx9 h => ?_)
        have hv1 := hv1.up hx9
        have hv2 := hv2.up hx9
        refine r2_clR C hA hl.1 hG [.int x30] [] (m8_trim E l hst x30 S28.g) QCL_25.1 QCL_25.2 KC8 rfl (rm2 (by decide) (by decide)) (Nat.le_of_ble_eq_true rfl) rfl dL_taught_124 hU h (fun x31 S32 H locs cells slots hG h => ?_)
        refine lv_pop hx hb dL_taught_127 rfl ?_
        refine lv_aload_n hx hb dL_taught_128 rfl (lv_at hl 0 rfl) ?_
        refine r2_clI C hA hl.1 hG [] [] (m8_teach E l S32.g) QCL_29.1 QCL_29.2 KC8 rfl (rm2 (by decide) (by decide)) (Nat.le_of_ble_eq_true rfl) rfl dL_taught_129 h (fun x33 S34 H locs hG h => ?_)
        exact r2_iret C hF hG hr rfl dL_taught_132 h
      · have h := (if_inv h).2 g27
        refine lv_iconst (v := 0) hx hb dL_taught_14 (by decide) ?_
        refine lv_istore (lv' := [(4, .int 0), (0, .ref (E.ad 0)), (1, .ref bv1), (2, .ref bv2), (3, .int v3)]) hx hb dL_taught_15 hl (by decide) rfl (fun ls hl => ?_)
        exact j17 (kL_taught_6 f) ih FU v1 v2 v3 0 S24 _ _ _ _ _ _ _ _ _ hG hv1 hv2 (lv_sub hl [1, 2, 3, 4, 0] rfl) h
  refine lv_iconst (v := 5) hx hb dL_taught_0 (by decide) ?_
  refine r2_newI C hA hG LAAI dL_taught_1 hU h (fun bc35 c35 H ad37 S36 cells slots hG hx9 h_c35 h => ?_)
  have h1 := h1.up hx9
  refine lv_astore_n (lv' := [(2, .ref bc35), (0, .ref (E.ad 0)), (1, .ref b1)]) hx hb dL_taught_3 rfl hl (by decide) rfl (fun ls hl => ?_)
  refine lv_iconst (v := 0) hx hb dL_taught_4 (by decide) ?_
  refine lv_istore_n (lv' := [(3, .int 0), (2, .ref bc35), (0, .ref (E.ad 0)), (1, .ref b1)]) hx hb dL_taught_5 rfl hl (by decide) rfl (fun ls hl => ?_)
  exact j6 FU c1 c35 0 S36 _ _ _ _ _ _ _ _ _ hG h1 h_c35 (lv_sub hl [2, 3, 1, 0] rfl) h
def kL_drawn_240 (K118 : Nat → Nat → Int32 → Nat → Int32 → Int32 → ZS → Option (Nat × ZS)) (v0 : Nat) (v1 : Nat) (v3 : Int32) (v4 : Nat) (v5 : Int32) (v6 : Int32) (v8 : Int32) (vt0 : Nat) (vt1 : Nat) (S : ZS) : Option (Nat × ZS) :=
      rcv S vt1 1 <| b2 Prod.snd (kJ4_append_15ec4_S vt1 vt0 S) fun c3 S1 =>
      bd (if 0 ≤ v8 then v8 else 0 - v8) fun x4 =>
      rcv S1 c3 1 <| b2 Prod.snd (kJ4_append_bf812 c3 x4 S1) fun c7 S5 =>
      rcv S5 c7 1 <| b2 Prod.snd (kJ4_append_15ec4_S c7 69 S5) fun c10 S8 =>
      bd (v6 + 1) fun x11 =>
      K118 v0 v1 v3 v4 v5 x11 S8
def kL_drawn_193 (K118 : Nat → Nat → Int32 → Nat → Int32 → Int32 → ZS → Option (Nat × ZS)) (v0 : Nat) (v1 : Nat) (v3 : Int32) (v4 : Nat) (v5 : Int32) (v6 : Int32) (v7 : Int32) (v8 : Int32) (S : ZS) : Option (Nat × ZS) :=
      rcv S v4 14 <| b1 Prod.snd (kX12_add v4 v7 v8 S) fun S12 =>
      rcv S12 v1 1 <| b2 Prod.snd (kJ4_append_15ec4_S v1 65 S12) fun c16 S14 =>
      rcv S14 c16 1 <| b2 Prod.snd (kJ4_append_bf812 c16 v6 S14) fun c19 S17 =>
      rcv S17 c19 1 <| b2 Prod.snd (kJ4_append_15ec4_S c19 66 S17) fun c22 S20 =>
      rcv S20 c22 1 <| b2 Prod.snd (kJ4_append_bf812 c22 v7 S20) fun c25 S23 =>
      rcv S23 c25 1 <| b2 Prod.snd (kJ4_append_15ec4_S c25 67 S23) fun c28 S26 =>
      if 0 ≤ v8 then
        kL_drawn_240 K118 v0 v1 v3 v4 v5 v6 v8 68 c28 S26
      else
        kL_drawn_240 K118 v0 v1 v3 v4 v5 v6 v8 48 c28 S26
def kL_drawn_180 (K118 : Nat → Nat → Int32 → Nat → Int32 → Int32 → ZS → Option (Nat × ZS)) (v0 : Nat) (v1 : Nat) (v3 : Int32) (v4 : Nat) (v5 : Int32) (v6 : Int32) (v7 : Int32) (vt0 : Int32) (S : ZS) : Option (Nat × ZS) :=
      bd vt0 fun x30 =>
      rcv S v0 11 <| b2 Prod.snd (kX9_next v0 3 S) fun x33 S31 =>
      if x33 = 0 then
        kL_drawn_193 K118 v0 v1 v3 v4 v5 v6 v7 0 S31
      else
        kL_drawn_193 K118 v0 v1 v3 v4 v5 v6 v7 x30 S31
def kL_drawn_151 (K118 : Nat → Nat → Int32 → Nat → Int32 → Int32 → ZS → Option (Nat × ZS)) (v0 : Nat) (v1 : Nat) (v3 : Int32) (v4 : Nat) (v5 : Int32) (v6 : Int32) (vt0 : Int32) (S : ZS) : Option (Nat × ZS) :=
      bd vt0 fun x35 =>
      rcv S v0 11 <| b2 Prod.snd (kX9_next v0 2 S) fun x38 S36 =>
      if x38 = 0 then
        rcv S36 v0 11 <| b2 Prod.snd (kX9_next v0 10 S36) fun x45 S43 =>
        kL_drawn_180 K118 v0 v1 v3 v4 v5 v6 x35 x45 S43
      else
        rcv S36 v0 11 <| b2 Prod.snd (kX9_next v0 181 S36) fun x42 S40 =>
        kL_drawn_180 K118 v0 v1 v3 v4 v5 v6 x35 (x42 - 90) S40
def kL_drawn_294  : Nat → Nat → Nat → Nat → Int32 → Int32 → Int32 → ZS → Option (Nat × ZS)
  | 0, _, _, _, _, _, _, _ => none
  | f + 1, v0, v1, v4, v5, v6, v7, S =>
        if v6 ≤ v7 then
          some (v4, S)
        else
          gN S v4 14 8 fun c47 =>
          nO Prod.snd S 13 4 fun c48 S49 =>
          b1 Prod.snd (kX11_init c48 v0 v5 S49) fun S51 =>
          aR S51 c47 500000 13 v7 c48 fun S53 =>
          gN S53 v4 14 8 fun c54 =>
          aN S53 c54 500000 v7 fun c55 =>
          rcv S53 c55 13 <| b2 Prod.snd (kX11_text c55 S53) fun c58 S56 =>
          rcv S56 v1 1 <| b2 Prod.snd (kJ4_append_15ec4_C v1 c58 S56) fun c61 S59 =>
          bd (v7 + 1) fun x62 =>
          kL_drawn_294 f v0 v1 v4 v5 v6 x62 S59
def kL_drawn_279  (v0 : Nat) (v1 : Nat) (v4 : Nat) (v5 : Int32) (vt0 : Int32) (S : ZS) : Option (Nat × ZS) :=
      bd vt0 fun x63 =>
      nA Prod.snd S 500000 x63 fun c64 S65 =>
      pR S65 v4 14 8 c64 fun S67 =>
      kL_drawn_294 FU v0 v1 v4 v5 x63 0 S67
def kL_drawn_118  : Nat → Nat → Nat → Int32 → Nat → Int32 → Int32 → ZS → Option (Nat × ZS)
  | 0, _, _, _, _, _, _, _ => none
  | f + 1, v0, v1, v3, v4, v5, v6, S =>
        if v5 ≤ v6 then
          if v5 = 0 then
            kL_drawn_279 v0 v1 v4 v5 0 S
          else
            rcv S v0 11 <| b2 Prod.snd (kX9_next v0 (v3 + 1) S) fun x72 S70 =>
            kL_drawn_279 v0 v1 v4 v5 x72 S70
        else
          rcv S v0 11 <| b2 Prod.snd (kX9_next v0 3 S) fun x75 S73 =>
          if x75 = 0 then
            rcv S73 v0 11 <| b2 Prod.snd (kX9_next v0 101 S73) fun x82 S80 =>
            kL_drawn_151 (kL_drawn_118 f) v0 v1 v3 v4 v5 v6 x82 S80
          else
            rcv S73 v0 11 <| b2 Prod.snd (kX9_next v0 21 S73) fun x79 S77 =>
            kL_drawn_151 (kL_drawn_118 f) v0 v1 v3 v4 v5 v6 (80 + x79) S77
def kL_drawn_103  (v0 : Nat) (v1 : Nat) (v2 : Int32) (v3 : Int32) (v4 : Nat) (S : ZS) : Option (Nat × ZS) :=
      rcv S v0 11 <| b2 Prod.snd (kX9_next v0 (8 - v2) S) fun x85 S83 =>
      bd (v2 + x85) fun x86 =>
      kL_drawn_118 FU v0 v1 v3 v4 x86 0 S83
def kL_drawn_77  (v0 : Nat) (v1 : Nat) (v2 : Int32) (v3 : Int32) (v4 : Nat) (vt0 : Int32) (vt1 : Nat) (vt2 : Nat) (S : ZS) : Option (Nat × ZS) :=
      rcv S vt1 11 <| b2 Prod.snd (kX9_next vt1 vt0 S) fun x89 S87 =>
      pI S87 vt2 14 1 x89 fun S90 =>
      rcv S90 v1 1 <| b2 Prod.snd (kJ4_append_15ec4_S v1 63 S90) fun c93 S91 =>
      gI S91 v4 14 1 fun x94 =>
      rcv S91 c93 1 <| b2 Prod.snd (kJ4_append_bf812 c93 x94 S91) fun c97 S95 =>
      rcv S95 c97 1 <| b2 Prod.snd (kJ4_append_15ec4_S c97 64 S95) fun c100 S98 =>
      kL_drawn_103 v0 v1 v2 v3 v4 S98
def kL_drawn_49  (v0 : Nat) (v1 : Nat) (v2 : Int32) (v3 : Int32) (v4 : Nat) (S : ZS) : Option (Nat × ZS) :=
      rcv S v0 11 <| b2 Prod.snd (kX9_next v0 2 S) fun x103 S101 =>
      if x103 = 0 then
        rcv S101 v0 11 <| b2 Prod.snd (kX9_next v0 2 S101) fun x107 S105 =>
        if x107 = 0 then
          kL_drawn_77 v0 v1 v2 v3 v4 10001 v0 v4 S105
        else
          kL_drawn_77 v0 v1 v2 v3 v4 3000 v0 v4 S105
      else
        kL_drawn_103 v0 v1 v2 v3 v4 S101
def kL_drawn (c0 : Nat) (c1 : Nat) (a2 : Int32) (a3 : Int32) (S0 : ZS) : Option (Nat × ZS) :=
  chk Prod.snd S0 <|
  nO Prod.snd S0 14 9 fun c109 S110 =>
  b1 Prod.snd (kX12_init c109 S110) fun S112 =>
  rcv S112 c0 11 <| b2 Prod.snd (kX9_next c0 2 S112) fun x116 S114 =>
  if x116 = 0 then
    rcv S114 c0 11 <| b2 Prod.snd (kX9_next c0 181 S114) fun x120 S118 =>
    pI S118 c109 14 0 x120 fun S121 =>
    rcv S121 c1 1 <| b2 Prod.snd (kJ4_append_15ec4_S c1 61 S121) fun c124 S122 =>
    gI S122 c109 14 0 fun x125 =>
    rcv S122 c124 1 <| b2 Prod.snd (kJ4_append_bf812 c124 x125 S122) fun c128 S126 =>
    rcv S126 c128 1 <| b2 Prod.snd (kJ4_append_15ec4_S c128 62 S126) fun c131 S129 =>
    kL_drawn_49 c0 c1 a2 a3 c109 S129
  else
    kL_drawn_49 c0 c1 a2 a3 c109 S114
set_option maxRecDepth 100000 in
set_option maxHeartbeats 8000000 in
theorem mL_drawn (E : EV) (l : Launch) (c0 : Nat) (c1 : Nat) (a2 : Int32) (a3 : Int32) (S0 : ZS) (q0 : c0 ≠ 0 ∧ rk S0.n c0) (q1 : c1 ≠ 0 ∧ rk S0.n c1) : ∀ u, kL_drawn c0 c1 a2 a3 S0 = some u → MRL E l yL_drawn cL_drawn 9 (Option.some (Jvm.ClassFile.FieldType.object "PeriscopeTrainLaw$Train")) 30 (fun ad => [.ref (rA E ad c0), .ref (rA E ad c1), .int a2, .int a3]) S0 u := by
  intro u h
  unfold kL_drawn at h
  obtain ⟨hcw, h⟩ := chk_inv h
  refine ML2.of (by decide +kernel) (fun ad => Nat.le_of_ble_eq_true rfl) hcw ?_
  intro p e s m args below meth c ad F hF C hA hr hnm ls hl hG
  have C : Cx p s m args meth c cL_drawn 9 RL E := C
  have hx := C.1
  have hb := C.2.1
  have hU : F.uc = (u.2).c ∧ F.uw = (u.2).w := ⟨hF.2.2.2.2.1, hF.2.2.2.2.2⟩
  have hl : lv_has ls 9 [(0, .ref (rA E ad c0)), (1, .ref (rA E ad c1)), (2, .int a2), (3, .int a3)] := hl
  obtain ⟨b0, h0, e0⟩ : ∃ b, RA E ad S0.n c0 b ∧ b = rA E ad c0 := ⟨_, RA.of q0.1 q0.2, rfl⟩
  rw [← e0] at hl
  obtain ⟨b1, h1, e1⟩ : ∃ b, RA E ad S0.n c1 b ∧ b = rA E ad c1 := ⟨_, RA.of q1.1 q1.2, rfl⟩
  rw [← e1] at hl
  have j240 : ∀ (K118 : Nat → Nat → Int32 → Nat → Int32 → Int32 → ZS → Option (Nat × ZS)), (∀ (v0 : Nat) (v1 : Nat) (v3 : Int32) (v4 : Nat) (v5 : Int32) (v6 : Int32) (S : ZS) (ad : Nat → Nat) (N : Nat) (bv0 : Nat) (bv1 : Nat) (bv4 : Nat) (H : Heap) (locs : List Loc) (ls : Array Slot) (cells slots : Nat), GL E s F H locs ad N S cells slots → RA E ad N v0 bv0 → RA E ad N v1 bv1 → RA E ad N v4 bv4 → lv_has ls 9 [(0, .ref bv0), (1, .ref bv1), (3, .int v3), (4, .ref bv4), (5, .int v5), (6, .int v6)] → K118 v0 v1 v3 v4 v5 v6 S = some u → W p l e (F.R 30) s m args below meth c H locs cells slots (MQ below (QRL E s.heap.size F.ad S0 u) args s (F.c - F.uc) (F.w - F.uw) F.A) (F0 m 118 ls [])) → ∀ (v0 : Nat) (v1 : Nat) (v3 : Int32) (v4 : Nat) (v5 : Int32) (v6 : Int32) (v8 : Int32) (vt0 : Nat) (vt1 : Nat) (S : ZS) (ad : Nat → Nat) (N : Nat) (bv0 : Nat) (bv1 : Nat) (bv4 : Nat) (bvt1 : Nat) (H : Heap) (locs : List Loc) (ls : Array Slot) (cells slots : Nat), GL E s F H locs ad N S cells slots → RA E ad N v0 bv0 → RA E ad N v1 bv1 → RA E ad N v4 bv4 → RA E ad N vt1 bvt1 → lv_has ls 9 [(0, .ref bv0), (1, .ref bv1), (3, .int v3), (4, .ref bv4), (5, .int v5), (6, .int v6), (8, .int v8)] → kL_drawn_240 K118 v0 v1 v3 v4 v5 v6 v8 vt0 vt1 S = some u → W p l e (F.R 30) s m args below meth c H locs cells slots (MQ below (QRL E s.heap.size F.ad S0 u) args s (F.c - F.uc) (F.w - F.uw) F.A) (F0 m 240 ls [.ref (E.aK vt0), .ref bvt1]) := by
    intro K118 hK118 v0 v1 v3 v4 v5 v6 v8 vt0 vt1 S ad N bv0 bv1 bv4 bvt1 H locs ls cells slots hG hv0 hv1 hv4 hvt1 hl h
    unfold kL_drawn_240 at h
    refine r2_cVR C hA hl.1 hG hvt1 [.ref (E.aK vt0)] [] (mJ4_append_15ec4_S E l vt1 vt0 S (RAq hG hvt1)) (by rw [hvt1.1]) QLL_46 KP1 rfl (rm2 (by decide) (by decide)) (Nat.le_of_ble_eq_true rfl) rfl dL_drawn_240 hU h (fun bc3 c3 S1 H locs ad2 cells slots hG hx9 h_c3 h => ?_)
    have hv0 := hv0.up hx9
    have hv1 := hv1.up hx9
    have hv4 := hv4.up hx9
    refine lv_iload hx hb dL_drawn_243 (lv_at hl 6 rfl) ?_
    refine r_abs C hl.1 QLL_78 ⟨(Nat.le_of_ble_eq_true rfl), (Nat.le_of_ble_eq_true rfl), (GLr hG).1, (GLr hG).2⟩ dL_drawn_245 ?_
    refine r_nm h (fun x4 h => ?_)
    refine r2_cVR C hA hl.1 hG h_c3 [.int x4] [] (mJ4_append_bf812 E l c3 x4 S1 (RAq hG h_c3)) (by rw [h_c3.1]) QLL_52 KP1 rfl (rm2 (by decide) (by decide)) (Nat.le_of_ble_eq_true rfl) rfl dL_drawn_248 hU h (fun bc7 c7 S5 H locs ad6 cells slots hG hx9 h_c7 h => ?_)
    have hv0 := hv0.up hx9
    have hv1 := hv1.up hx9
    have hv4 := hv4.up hx9
    refine r_ldcS C 69 (by decide) ⟨rfl, rfl⟩ dL_drawn_251 ?_
    refine r2_cVR C hA hl.1 hG h_c7 [.ref (E.aK 69)] [] (mJ4_append_15ec4_S E l c7 69 S5 (RAq hG h_c7)) (by rw [h_c7.1]) QLL_46 KP1 rfl (rm2 (by decide) (by decide)) (Nat.le_of_ble_eq_true rfl) rfl dL_drawn_253 hU h (fun bc10 c10 S8 H locs ad9 cells slots hG hx9 h_c10 h => ?_)
    have hv0 := hv0.up hx9
    have hv1 := hv1.up hx9
    have hv4 := hv4.up hx9
    refine lv_pop hx hb dL_drawn_256 rfl ?_
    refine r_iinc (w := 1) (lv' := fun x11 => [(6, .int x11), (0, .ref bv0), (1, .ref bv1), (3, .int v3), (4, .ref bv4), (5, .int v5), (8, .int v8)]) C dL_drawn_257 hl (k := 5) rfl (by decide) (by decide) (fun _ => rfl) h (fun x11 ls hl h => ?_)
    refine lv_goto (tgt := 118) hx hb dL_drawn_260 (by decide) ?_
    exact hK118 v0 v1 v3 v4 v5 x11 S8 _ _ _ _ _ _ _ _ _ _ hG hv0 hv1 hv4 (lv_sub hl [1, 2, 3, 4, 5, 0] rfl) h
  have j193 : ∀ (K118 : Nat → Nat → Int32 → Nat → Int32 → Int32 → ZS → Option (Nat × ZS)), (∀ (v0 : Nat) (v1 : Nat) (v3 : Int32) (v4 : Nat) (v5 : Int32) (v6 : Int32) (S : ZS) (ad : Nat → Nat) (N : Nat) (bv0 : Nat) (bv1 : Nat) (bv4 : Nat) (H : Heap) (locs : List Loc) (ls : Array Slot) (cells slots : Nat), GL E s F H locs ad N S cells slots → RA E ad N v0 bv0 → RA E ad N v1 bv1 → RA E ad N v4 bv4 → lv_has ls 9 [(0, .ref bv0), (1, .ref bv1), (3, .int v3), (4, .ref bv4), (5, .int v5), (6, .int v6)] → K118 v0 v1 v3 v4 v5 v6 S = some u → W p l e (F.R 30) s m args below meth c H locs cells slots (MQ below (QRL E s.heap.size F.ad S0 u) args s (F.c - F.uc) (F.w - F.uw) F.A) (F0 m 118 ls [])) → ∀ (v0 : Nat) (v1 : Nat) (v3 : Int32) (v4 : Nat) (v5 : Int32) (v6 : Int32) (v7 : Int32) (v8 : Int32) (S : ZS) (ad : Nat → Nat) (N : Nat) (bv0 : Nat) (bv1 : Nat) (bv4 : Nat) (H : Heap) (locs : List Loc) (ls : Array Slot) (cells slots : Nat), GL E s F H locs ad N S cells slots → RA E ad N v0 bv0 → RA E ad N v1 bv1 → RA E ad N v4 bv4 → lv_has ls 9 [(0, .ref bv0), (1, .ref bv1), (3, .int v3), (4, .ref bv4), (5, .int v5), (6, .int v6), (7, .int v7), (8, .int v8)] → kL_drawn_193 K118 v0 v1 v3 v4 v5 v6 v7 v8 S = some u → W p l e (F.R 30) s m args below meth c H locs cells slots (MQ below (QRL E s.heap.size F.ad S0 u) args s (F.c - F.uc) (F.w - F.uw) F.A) (F0 m 193 ls []) := by
    intro K118 hK118 v0 v1 v3 v4 v5 v6 v7 v8 S ad N bv0 bv1 bv4 H locs ls cells slots hG hv0 hv1 hv4 hl h
    unfold kL_drawn_193 at h
    refine lv_aload hx hb dL_drawn_193 (lv_at hl 3 rfl) ?_
    refine lv_iload hx hb dL_drawn_195 (lv_at hl 6 rfl) ?_
    refine lv_iload hx hb dL_drawn_197 (lv_at hl 7 rfl) ?_
    refine r2_cVV C hA hl.1 hG hv4 [.int v7, .int v8] [] (mX12_add E l v4 v7 v8 S (RAq hG hv4)) (by rw [hv4.1]) QLL_64 KP14 rfl (rm2 (by decide) (by decide)) (Nat.le_of_ble_eq_true rfl) rfl dL_drawn_199 hU h (fun S12 H locs ad13 cells slots hG hx9 h => ?_)
    have hv0 := hv0.up hx9
    have hv1 := hv1.up hx9
    have hv4 := hv4.up hx9
    refine lv_aload_n hx hb dL_drawn_202 rfl (lv_at hl 1 rfl) ?_
    refine r_ldcS C 65 (by decide) ⟨rfl, rfl⟩ dL_drawn_203 ?_
    refine r2_cVR C hA hl.1 hG hv1 [.ref (E.aK 65)] [] (mJ4_append_15ec4_S E l v1 65 S12 (RAq hG hv1)) (by rw [hv1.1]) QLL_46 KP1 rfl (rm2 (by decide) (by decide)) (Nat.le_of_ble_eq_true rfl) rfl dL_drawn_205 hU h (fun bc16 c16 S14 H locs ad15 cells slots hG hx9 h_c16 h => ?_)
    have hv0 := hv0.up hx9
    have hv1 := hv1.up hx9
    have hv4 := hv4.up hx9
    refine lv_iload hx hb dL_drawn_208 (lv_at hl 5 rfl) ?_
    refine r2_cVR C hA hl.1 hG h_c16 [.int v6] [] (mJ4_append_bf812 E l c16 v6 S14 (RAq hG h_c16)) (by rw [h_c16.1]) QLL_52 KP1 rfl (rm2 (by decide) (by decide)) (Nat.le_of_ble_eq_true rfl) rfl dL_drawn_210 hU h (fun bc19 c19 S17 H locs ad18 cells slots hG hx9 h_c19 h => ?_)
    have hv0 := hv0.up hx9
    have hv1 := hv1.up hx9
    have hv4 := hv4.up hx9
    refine r_ldcS C 66 (by decide) ⟨rfl, rfl⟩ dL_drawn_213 ?_
    refine r2_cVR C hA hl.1 hG h_c19 [.ref (E.aK 66)] [] (mJ4_append_15ec4_S E l c19 66 S17 (RAq hG h_c19)) (by rw [h_c19.1]) QLL_46 KP1 rfl (rm2 (by decide) (by decide)) (Nat.le_of_ble_eq_true rfl) rfl dL_drawn_215 hU h (fun bc22 c22 S20 H locs ad21 cells slots hG hx9 h_c22 h => ?_)
    have hv0 := hv0.up hx9
    have hv1 := hv1.up hx9
    have hv4 := hv4.up hx9
    refine lv_iload hx hb dL_drawn_218 (lv_at hl 6 rfl) ?_
    refine r2_cVR C hA hl.1 hG h_c22 [.int v7] [] (mJ4_append_bf812 E l c22 v7 S20 (RAq hG h_c22)) (by rw [h_c22.1]) QLL_52 KP1 rfl (rm2 (by decide) (by decide)) (Nat.le_of_ble_eq_true rfl) rfl dL_drawn_220 hU h (fun bc25 c25 S23 H locs ad24 cells slots hG hx9 h_c25 h => ?_)
    have hv0 := hv0.up hx9
    have hv1 := hv1.up hx9
    have hv4 := hv4.up hx9
    refine r_ldcS C 67 (by decide) ⟨rfl, rfl⟩ dL_drawn_223 ?_
    refine r2_cVR C hA hl.1 hG h_c25 [.ref (E.aK 67)] [] (mJ4_append_15ec4_S E l c25 67 S23 (RAq hG h_c25)) (by rw [h_c25.1]) QLL_46 KP1 rfl (rm2 (by decide) (by decide)) (Nat.le_of_ble_eq_true rfl) rfl dL_drawn_225 hU h (fun bc28 c28 S26 H locs ad27 cells slots hG hx9 h_c28 h => ?_)
    have hv0 := hv0.up hx9
    have hv1 := hv1.up hx9
    have hv4 := hv4.up hx9
    refine lv_iload hx hb dL_drawn_228 (lv_at hl 7 rfl) ?_
    refine lv_if_ge (tgt := 238) hx hb dL_drawn_230 (by decide) (fun g29 => ?_) (fun g29 => ?_)
    · have h := (if_inv h).1 g29
      refine r_ldcS C 68 (by decide) ⟨rfl, rfl⟩ dL_drawn_238 ?_
      exact j240 K118 hK118 v0 v1 v3 v4 v5 v6 v8 68 c28 S26 _ _ _ _ _ _ _ _ _ _ _ hG hv0 hv1 hv4 h_c28 (lv_sub hl [0, 1, 2, 3, 4, 5, 7] rfl) h
    · have h := (if_inv h).2 g29
      refine r_ldcS C 48 (by decide) ⟨rfl, rfl⟩ dL_drawn_233 ?_
      refine lv_goto (tgt := 240) hx hb dL_drawn_235 (by decide) ?_
      exact j240 K118 hK118 v0 v1 v3 v4 v5 v6 v8 48 c28 S26 _ _ _ _ _ _ _ _ _ _ _ hG hv0 hv1 hv4 h_c28 (lv_sub hl [0, 1, 2, 3, 4, 5, 7] rfl) h
  have j180 : ∀ (K118 : Nat → Nat → Int32 → Nat → Int32 → Int32 → ZS → Option (Nat × ZS)), (∀ (v0 : Nat) (v1 : Nat) (v3 : Int32) (v4 : Nat) (v5 : Int32) (v6 : Int32) (S : ZS) (ad : Nat → Nat) (N : Nat) (bv0 : Nat) (bv1 : Nat) (bv4 : Nat) (H : Heap) (locs : List Loc) (ls : Array Slot) (cells slots : Nat), GL E s F H locs ad N S cells slots → RA E ad N v0 bv0 → RA E ad N v1 bv1 → RA E ad N v4 bv4 → lv_has ls 9 [(0, .ref bv0), (1, .ref bv1), (3, .int v3), (4, .ref bv4), (5, .int v5), (6, .int v6)] → K118 v0 v1 v3 v4 v5 v6 S = some u → W p l e (F.R 30) s m args below meth c H locs cells slots (MQ below (QRL E s.heap.size F.ad S0 u) args s (F.c - F.uc) (F.w - F.uw) F.A) (F0 m 118 ls [])) → ∀ (v0 : Nat) (v1 : Nat) (v3 : Int32) (v4 : Nat) (v5 : Int32) (v6 : Int32) (v7 : Int32) (vt0 : Int32) (S : ZS) (ad : Nat → Nat) (N : Nat) (bv0 : Nat) (bv1 : Nat) (bv4 : Nat) (H : Heap) (locs : List Loc) (ls : Array Slot) (cells slots : Nat), GL E s F H locs ad N S cells slots → RA E ad N v0 bv0 → RA E ad N v1 bv1 → RA E ad N v4 bv4 → lv_has ls 9 [(0, .ref bv0), (1, .ref bv1), (3, .int v3), (4, .ref bv4), (5, .int v5), (6, .int v6), (7, .int v7)] → kL_drawn_180 K118 v0 v1 v3 v4 v5 v6 v7 vt0 S = some u → W p l e (F.R 30) s m args below meth c H locs cells slots (MQ below (QRL E s.heap.size F.ad S0 u) args s (F.c - F.uc) (F.w - F.uw) F.A) (F0 m 180 ls [.int vt0]) := by
    intro K118 hK118 v0 v1 v3 v4 v5 v6 v7 vt0 S ad N bv0 bv1 bv4 H locs ls cells slots hG hv0 hv1 hv4 hl h
    unfold kL_drawn_180 at h
    refine r_nm h (fun x30 h => ?_)
    refine lv_istore (lv' := [(8, .int x30), (0, .ref bv0), (1, .ref bv1), (3, .int v3), (4, .ref bv4), (5, .int v5), (6, .int v6), (7, .int v7)]) hx hb dL_drawn_180 hl (by decide) rfl (fun ls hl => ?_)
    refine lv_aload_n hx hb dL_drawn_182 rfl (lv_at hl 1 rfl) ?_
    refine lv_iconst (v := 3) hx hb dL_drawn_183 (by decide) ?_
    refine r2_cVI C hA hl.1 hG hv0 [.int 3] [] (mX9_next E l v0 3 S (RAq hG hv0)) (by rw [hv0.1]) QLL_35 KP11 rfl (rm2 (by decide) (by decide)) (Nat.le_of_ble_eq_true rfl) rfl dL_drawn_184 hU h (fun x33 S31 H locs ad32 cells slots hG hx9 h => ?_)
    have hv0 := hv0.up hx9
    have hv1 := hv1.up hx9
    have hv4 := hv4.up hx9
    refine lv_if_ne (tgt := 193) hx hb dL_drawn_187 (by decide) (fun g34 => ?_) (fun g34 => ?_)
    · have h := (if_inv h).2 g34
      exact j193 K118 hK118 v0 v1 v3 v4 v5 v6 v7 x30 S31 _ _ _ _ _ _ _ _ _ _ hG hv0 hv1 hv4 (lv_sub hl [1, 2, 3, 4, 5, 6, 7, 0] rfl) h
    · have h := (if_inv h).1 g34
      refine lv_iconst (v := 0) hx hb dL_drawn_190 (by decide) ?_
      refine lv_istore (lv' := [(8, .int 0), (0, .ref bv0), (1, .ref bv1), (3, .int v3), (4, .ref bv4), (5, .int v5), (6, .int v6), (7, .int v7)]) hx hb dL_drawn_191 hl (by decide) rfl (fun ls hl => ?_)
      exact j193 K118 hK118 v0 v1 v3 v4 v5 v6 v7 0 S31 _ _ _ _ _ _ _ _ _ _ hG hv0 hv1 hv4 (lv_sub hl [1, 2, 3, 4, 5, 6, 7, 0] rfl) h
  have j151 : ∀ (K118 : Nat → Nat → Int32 → Nat → Int32 → Int32 → ZS → Option (Nat × ZS)), (∀ (v0 : Nat) (v1 : Nat) (v3 : Int32) (v4 : Nat) (v5 : Int32) (v6 : Int32) (S : ZS) (ad : Nat → Nat) (N : Nat) (bv0 : Nat) (bv1 : Nat) (bv4 : Nat) (H : Heap) (locs : List Loc) (ls : Array Slot) (cells slots : Nat), GL E s F H locs ad N S cells slots → RA E ad N v0 bv0 → RA E ad N v1 bv1 → RA E ad N v4 bv4 → lv_has ls 9 [(0, .ref bv0), (1, .ref bv1), (3, .int v3), (4, .ref bv4), (5, .int v5), (6, .int v6)] → K118 v0 v1 v3 v4 v5 v6 S = some u → W p l e (F.R 30) s m args below meth c H locs cells slots (MQ below (QRL E s.heap.size F.ad S0 u) args s (F.c - F.uc) (F.w - F.uw) F.A) (F0 m 118 ls [])) → ∀ (v0 : Nat) (v1 : Nat) (v3 : Int32) (v4 : Nat) (v5 : Int32) (v6 : Int32) (vt0 : Int32) (S : ZS) (ad : Nat → Nat) (N : Nat) (bv0 : Nat) (bv1 : Nat) (bv4 : Nat) (H : Heap) (locs : List Loc) (ls : Array Slot) (cells slots : Nat), GL E s F H locs ad N S cells slots → RA E ad N v0 bv0 → RA E ad N v1 bv1 → RA E ad N v4 bv4 → lv_has ls 9 [(0, .ref bv0), (1, .ref bv1), (3, .int v3), (4, .ref bv4), (5, .int v5), (6, .int v6)] → kL_drawn_151 K118 v0 v1 v3 v4 v5 v6 vt0 S = some u → W p l e (F.R 30) s m args below meth c H locs cells slots (MQ below (QRL E s.heap.size F.ad S0 u) args s (F.c - F.uc) (F.w - F.uw) F.A) (F0 m 151 ls [.int vt0]) := by
    intro K118 hK118 v0 v1 v3 v4 v5 v6 vt0 S ad N bv0 bv1 bv4 H locs ls cells slots hG hv0 hv1 hv4 hl h
    unfold kL_drawn_151 at h
    refine r_nm h (fun x35 h => ?_)
    refine lv_istore (lv' := [(7, .int x35), (0, .ref bv0), (1, .ref bv1), (3, .int v3), (4, .ref bv4), (5, .int v5), (6, .int v6)]) hx hb dL_drawn_151 hl (by decide) rfl (fun ls hl => ?_)
    refine lv_aload_n hx hb dL_drawn_153 rfl (lv_at hl 1 rfl) ?_
    refine lv_iconst (v := 2) hx hb dL_drawn_154 (by decide) ?_
    refine r2_cVI C hA hl.1 hG hv0 [.int 2] [] (mX9_next E l v0 2 S (RAq hG hv0)) (by rw [hv0.1]) QLL_35 KP11 rfl (rm2 (by decide) (by decide)) (Nat.le_of_ble_eq_true rfl) rfl dL_drawn_155 hU h (fun x38 S36 H locs ad37 cells slots hG hx9 h => ?_)
    have hv0 := hv0.up hx9
    have hv1 := hv1.up hx9
    have hv4 := hv4.up hx9
    refine lv_if_ne (tgt := 170) hx hb dL_drawn_158 (by decide) (fun g39 => ?_) (fun g39 => ?_)
    · have h := (if_inv h).2 g39
      refine lv_aload_n hx hb dL_drawn_170 rfl (lv_at hl 1 rfl) ?_
      refine lv_sipush (v := 181) hx hb dL_drawn_171 (by decide) ?_
      refine r2_cVI C hA hl.1 hG hv0 [.int 181] [] (mX9_next E l v0 181 S36 (RAq hG hv0)) (by rw [hv0.1]) QLL_35 KP11 rfl (rm2 (by decide) (by decide)) (Nat.le_of_ble_eq_true rfl) rfl dL_drawn_174 hU h (fun x42 S40 H locs ad41 cells slots hG hx9 h => ?_)
      have hv0 := hv0.up hx9
      have hv1 := hv1.up hx9
      have hv4 := hv4.up hx9
      refine lv_bipush (v := 90) hx hb dL_drawn_177 (by decide) ?_
      refine lv_isub hx hb dL_drawn_179 ?_
      exact j180 K118 hK118 v0 v1 v3 v4 v5 v6 x35 (x42 - 90) S40 _ _ _ _ _ _ _ _ _ _ hG hv0 hv1 hv4 (lv_sub hl [1, 2, 3, 4, 5, 6, 0] rfl) h
    · have h := (if_inv h).1 g39
      refine lv_aload_n hx hb dL_drawn_161 rfl (lv_at hl 1 rfl) ?_
      refine lv_bipush (v := 10) hx hb dL_drawn_162 (by decide) ?_
      refine r2_cVI C hA hl.1 hG hv0 [.int 10] [] (mX9_next E l v0 10 S36 (RAq hG hv0)) (by rw [hv0.1]) QLL_35 KP11 rfl (rm2 (by decide) (by decide)) (Nat.le_of_ble_eq_true rfl) rfl dL_drawn_164 hU h (fun x45 S43 H locs ad44 cells slots hG hx9 h => ?_)
      have hv0 := hv0.up hx9
      have hv1 := hv1.up hx9
      have hv4 := hv4.up hx9
      refine lv_goto (tgt := 180) hx hb dL_drawn_167 (by decide) ?_
      exact j180 K118 hK118 v0 v1 v3 v4 v5 v6 x35 x45 S43 _ _ _ _ _ _ _ _ _ _ hG hv0 hv1 hv4 (lv_sub hl [1, 2, 3, 4, 5, 6, 0] rfl) h
  have j294 : ∀ f : Nat, ∀ (v0 : Nat) (v1 : Nat) (v4 : Nat) (v5 : Int32) (v6 : Int32) (v7 : Int32) (S : ZS) (ad : Nat → Nat) (N : Nat) (bv0 : Nat) (bv1 : Nat) (bv4 : Nat) (H : Heap) (locs : List Loc) (ls : Array Slot) (cells slots : Nat), GL E s F H locs ad N S cells slots → RA E ad N v0 bv0 → RA E ad N v1 bv1 → RA E ad N v4 bv4 → lv_has ls 9 [(0, .ref bv0), (1, .ref bv1), (4, .ref bv4), (5, .int v5), (6, .int v6), (7, .int v7)] → kL_drawn_294 f v0 v1 v4 v5 v6 v7 S = some u → W p l e (F.R 30) s m args below meth c H locs cells slots (MQ below (QRL E s.heap.size F.ad S0 u) args s (F.c - F.uc) (F.w - F.uw) F.A) (F0 m 294 ls []) := by
    intro f
    induction f with
    | zero =>
      intro v0 v1 v4 v5 v6 v7 S ad N bv0 bv1 bv4 H locs ls cells slots hG hv0 hv1 hv4 hl h
      unfold kL_drawn_294 at h
      cases h
    | succ f ih =>
      intro v0 v1 v4 v5 v6 v7 S ad N bv0 bv1 bv4 H locs ls cells slots hG hv0 hv1 hv4 hl h
      unfold kL_drawn_294 at h
      refine lv_iload hx hb dL_drawn_294 (lv_at hl 5 rfl) ?_
      refine lv_iload hx hb dL_drawn_296 (lv_at hl 4 rfl) ?_
      refine lv_icmp_ge (tgt := 341) hx hb dL_drawn_298 (by decide) (fun g46 => ?_) (fun g46 => ?_)
      · have h := (if_inv h).1 g46
        refine lv_aload hx hb dL_drawn_341 (lv_at hl 2 rfl) ?_
        exact r2_aret C hF hG hv4 (Or.inl ⟨_, rfl⟩) hr dL_drawn_343 h
      · have h := (if_inv h).2 g46
        refine lv_aload hx hb dL_drawn_301 (lv_at hl 2 rfl) ?_
        refine r2_gN C hG hv4 FQL_87 rfl dL_drawn_303 h (fun c47 bc47 h_c47 h => ?_)
        refine lv_iload hx hb dL_drawn_306 (lv_at hl 5 rfl) ?_
        refine r2_new C hA hG KP13 (mTBi 1446 (by decide +kernel) rfl) (mTBi 1447 (by decide +kernel) rfl) (mTBi 62 (by decide +kernel) rfl) (by decide +kernel) dL_drawn_308 hU h (fun bc48 c48 H ad50 S49 cells slots hG hx9 h_c48 h => ?_)
        have hv0 := hv0.up hx9
        have hv1 := hv1.up hx9
        have hv4 := hv4.up hx9
        have h_c47 := h_c47.up hx9
        refine lv_dup hx hb dL_drawn_311 rfl ?_
        refine lv_aload_n hx hb dL_drawn_312 rfl (lv_at hl 0 rfl) ?_
        refine lv_iload hx hb dL_drawn_313 (lv_at hl 3 rfl) ?_
        refine r2_cIV C hA hl.1 hG [.ref bv0, .int v5] [.ref bc48, .int v7, .ref bc47] (mX11_init E l c48 v0 v5 S49 (RAq hG h_c48) (RAq hG hv0)) (by rw [h_c48.1, hv0.1]) QLL_91 rfl (rm2 (by decide) (by decide)) (Nat.le_of_ble_eq_true rfl) rfl dL_drawn_315 hU h (fun S51 H locs ad52 cells slots hG hx9 h => ?_)
        have hv0 := hv0.up hx9
        have hv1 := hv1.up hx9
        have hv4 := hv4.up hx9
        have h_c48 := h_c48.up hx9
        have h_c47 := h_c47.up hx9
        refine r2_pAQ C hG h_c47 h_c48 dL_drawn_318 h (fun H locs S53 hG h => ?_)
        refine lv_aload_n hx hb dL_drawn_319 rfl (lv_at hl 1 rfl) ?_
        refine lv_aload hx hb dL_drawn_320 (lv_at hl 2 rfl) ?_
        refine r2_gN C hG hv4 FQL_87 rfl dL_drawn_322 h (fun c54 bc54 h_c54 h => ?_)
        refine lv_iload hx hb dL_drawn_325 (lv_at hl 5 rfl) ?_
        refine r2_gAQ C hG h_c54 dL_drawn_327 h (fun c55 bc55 h_c55 h => ?_)
        refine r2_cVR C hA hl.1 hG h_c55 [] [.ref bv1] (mX11_text E l c55 S53 (RAq hG h_c55)) (by rw [h_c55.1]) QLL_94 KP13 rfl (rm2 (by decide) (by decide)) (Nat.le_of_ble_eq_true rfl) rfl dL_drawn_328 hU h (fun bc58 c58 S56 H locs ad57 cells slots hG hx9 h_c58 h => ?_)
        have hv0 := hv0.up hx9
        have hv1 := hv1.up hx9
        have hv4 := hv4.up hx9
        refine r2_cVR C hA hl.1 hG hv1 [.ref bc58] [] (mJ4_append_15ec4_C E l v1 c58 S56 (RAq hG hv1) (RAq hG h_c58)) (by rw [hv1.1, h_c58.1]) QLL_46 KP1 rfl (rm2 (by decide) (by decide)) (Nat.le_of_ble_eq_true rfl) rfl dL_drawn_331 hU h (fun bc61 c61 S59 H locs ad60 cells slots hG hx9 h_c61 h => ?_)
        have hv0 := hv0.up hx9
        have hv1 := hv1.up hx9
        have hv4 := hv4.up hx9
        refine lv_pop hx hb dL_drawn_334 rfl ?_
        refine r_iinc (w := 1) (lv' := fun x62 => [(7, .int x62), (0, .ref bv0), (1, .ref bv1), (4, .ref bv4), (5, .int v5), (6, .int v6)]) C dL_drawn_335 hl (k := 5) rfl (by decide) (by decide) (fun _ => rfl) h (fun x62 ls hl h => ?_)
        refine lv_goto (tgt := 294) hx hb dL_drawn_338 (by decide) ?_
        exact ih v0 v1 v4 v5 v6 x62 S59 _ _ _ _ _ _ _ _ _ _ hG hv0 hv1 hv4 (lv_sub hl [1, 2, 3, 4, 5, 0] rfl) h
  have j279 : ∀ (v0 : Nat) (v1 : Nat) (v4 : Nat) (v5 : Int32) (vt0 : Int32) (S : ZS) (ad : Nat → Nat) (N : Nat) (bv0 : Nat) (bv1 : Nat) (bv4 : Nat) (H : Heap) (locs : List Loc) (ls : Array Slot) (cells slots : Nat), GL E s F H locs ad N S cells slots → RA E ad N v0 bv0 → RA E ad N v1 bv1 → RA E ad N v4 bv4 → lv_has ls 9 [(0, .ref bv0), (1, .ref bv1), (4, .ref bv4), (5, .int v5)] → kL_drawn_279 v0 v1 v4 v5 vt0 S = some u → W p l e (F.R 30) s m args below meth c H locs cells slots (MQ below (QRL E s.heap.size F.ad S0 u) args s (F.c - F.uc) (F.w - F.uw) F.A) (F0 m 279 ls [.int vt0]) := by
    intro v0 v1 v4 v5 vt0 S ad N bv0 bv1 bv4 H locs ls cells slots hG hv0 hv1 hv4 hl h
    unfold kL_drawn_279 at h
    refine r_nm h (fun x63 h => ?_)
    refine lv_istore (lv' := [(6, .int x63), (0, .ref bv0), (1, .ref bv1), (4, .ref bv4), (5, .int v5)]) hx hb dL_drawn_279 hl (by decide) rfl (fun ls hl => ?_)
    refine lv_aload hx hb dL_drawn_281 (lv_at hl 3 rfl) ?_
    refine lv_iload hx hb dL_drawn_283 (lv_at hl 0 rfl) ?_
    refine r2_newQ C hA hG LKAL_85 LAOQ dL_drawn_285 hU h (fun bc64 c64 H ad66 S65 cells slots hG hx9 h_c64 h => ?_)
    have hv0 := hv0.up hx9
    have hv1 := hv1.up hx9
    have hv4 := hv4.up hx9
    refine r2_pR C hG hv4 h_c64.RV FQL_87 (Or.inl rfl) rfl rfl rfl dL_drawn_288 h (fun H locs S67 hG h => ?_)
    refine lv_iconst (v := 0) hx hb dL_drawn_291 (by decide) ?_
    refine lv_istore (lv' := [(7, .int 0), (6, .int x63), (0, .ref bv0), (1, .ref bv1), (4, .ref bv4), (5, .int v5)]) hx hb dL_drawn_292 hl (by decide) rfl (fun ls hl => ?_)
    exact j294 FU v0 v1 v4 v5 x63 0 S67 _ _ _ _ _ _ _ _ _ _ hG hv0 hv1 hv4 (lv_sub hl [2, 3, 4, 5, 1, 0] rfl) h
  have j118 : ∀ f : Nat, ∀ (v0 : Nat) (v1 : Nat) (v3 : Int32) (v4 : Nat) (v5 : Int32) (v6 : Int32) (S : ZS) (ad : Nat → Nat) (N : Nat) (bv0 : Nat) (bv1 : Nat) (bv4 : Nat) (H : Heap) (locs : List Loc) (ls : Array Slot) (cells slots : Nat), GL E s F H locs ad N S cells slots → RA E ad N v0 bv0 → RA E ad N v1 bv1 → RA E ad N v4 bv4 → lv_has ls 9 [(0, .ref bv0), (1, .ref bv1), (3, .int v3), (4, .ref bv4), (5, .int v5), (6, .int v6)] → kL_drawn_118 f v0 v1 v3 v4 v5 v6 S = some u → W p l e (F.R 30) s m args below meth c H locs cells slots (MQ below (QRL E s.heap.size F.ad S0 u) args s (F.c - F.uc) (F.w - F.uw) F.A) (F0 m 118 ls []) := by
    intro f
    induction f with
    | zero =>
      intro v0 v1 v3 v4 v5 v6 S ad N bv0 bv1 bv4 H locs ls cells slots hG hv0 hv1 hv4 hl h
      unfold kL_drawn_118 at h
      cases h
    | succ f ih =>
      intro v0 v1 v3 v4 v5 v6 S ad N bv0 bv1 bv4 H locs ls cells slots hG hv0 hv1 hv4 hl h
      unfold kL_drawn_118 at h
      refine lv_iload hx hb dL_drawn_118 (lv_at hl 5 rfl) ?_
      refine lv_iload hx hb dL_drawn_120 (lv_at hl 4 rfl) ?_
      refine lv_icmp_ge (tgt := 263) hx hb dL_drawn_122 (by decide) (fun g68 => ?_) (fun g68 => ?_)
      · have h := (if_inv h).1 g68
        refine lv_iload hx hb dL_drawn_263 (lv_at hl 4 rfl) ?_
        refine lv_if_ne (tgt := 272) hx hb dL_drawn_265 (by decide) (fun g69 => ?_) (fun g69 => ?_)
        · have h := (if_inv h).2 g69
          refine lv_aload_n hx hb dL_drawn_272 rfl (lv_at hl 0 rfl) ?_
          refine lv_iload_n hx hb dL_drawn_273 rfl (lv_at hl 2 rfl) ?_
          refine lv_iconst (v := 1) hx hb dL_drawn_274 (by decide) ?_
          refine lv_iadd hx hb dL_drawn_275 ?_
          refine r2_cVI C hA hl.1 hG hv0 [.int (v3 + 1)] [] (mX9_next E l v0 (v3 + 1) S (RAq hG hv0)) (by rw [hv0.1]) QLL_35 KP11 rfl (rm2 (by decide) (by decide)) (Nat.le_of_ble_eq_true rfl) rfl dL_drawn_276 hU h (fun x72 S70 H locs ad71 cells slots hG hx9 h => ?_)
          have hv0 := hv0.up hx9
          have hv1 := hv1.up hx9
          have hv4 := hv4.up hx9
          exact j279 v0 v1 v4 v5 x72 S70 _ _ _ _ _ _ _ _ _ _ hG hv0 hv1 hv4 (lv_sub hl [0, 1, 3, 4] rfl) h
        · have h := (if_inv h).1 g69
          refine lv_iconst (v := 0) hx hb dL_drawn_268 (by decide) ?_
          refine lv_goto (tgt := 279) hx hb dL_drawn_269 (by decide) ?_
          exact j279 v0 v1 v4 v5 0 S _ _ _ _ _ _ _ _ _ _ hG hv0 hv1 hv4 (lv_sub hl [0, 1, 3, 4] rfl) h
      · have h := (if_inv h).2 g68
        refine lv_aload_n hx hb dL_drawn_125 rfl (lv_at hl 0 rfl) ?_
        refine lv_iconst (v := 3) hx hb dL_drawn_126 (by decide) ?_
        refine r2_cVI C hA hl.1 hG hv0 [.int 3] [] (mX9_next E l v0 3 S (RAq hG hv0)) (by rw [hv0.1]) QLL_35 KP11 rfl (rm2 (by decide) (by decide)) (Nat.le_of_ble_eq_true rfl) rfl dL_drawn_127 hU h (fun x75 S73 H locs ad74 cells slots hG hx9 h => ?_)
        have hv0 := hv0.up hx9
        have hv1 := hv1.up hx9
        have hv4 := hv4.up hx9
        refine lv_if_ne (tgt := 142) hx hb dL_drawn_130 (by decide) (fun g76 => ?_) (fun g76 => ?_)
        · have h := (if_inv h).2 g76
          refine lv_bipush (v := 80) hx hb dL_drawn_142 (by decide) ?_
          refine lv_aload_n hx hb dL_drawn_144 rfl (lv_at hl 0 rfl) ?_
          refine lv_bipush (v := 21) hx hb dL_drawn_145 (by decide) ?_
          refine r2_cVI C hA hl.1 hG hv0 [.int 21] [.int 80] (mX9_next E l v0 21 S73 (RAq hG hv0)) (by rw [hv0.1]) QLL_35 KP11 rfl (rm2 (by decide) (by decide)) (Nat.le_of_ble_eq_true rfl) rfl dL_drawn_147 hU h (fun x79 S77 H locs ad78 cells slots hG hx9 h => ?_)
          have hv0 := hv0.up hx9
          have hv1 := hv1.up hx9
          have hv4 := hv4.up hx9
          refine lv_iadd hx hb dL_drawn_150 ?_
          exact j151 (kL_drawn_118 f) ih v0 v1 v3 v4 v5 v6 (80 + x79) S77 _ _ _ _ _ _ _ _ _ _ hG hv0 hv1 hv4 (lv_sub hl [0, 1, 2, 3, 4, 5] rfl) h
        · have h := (if_inv h).1 g76
          refine lv_aload_n hx hb dL_drawn_133 rfl (lv_at hl 0 rfl) ?_
          refine lv_bipush (v := 101) hx hb dL_drawn_134 (by decide) ?_
          refine r2_cVI C hA hl.1 hG hv0 [.int 101] [] (mX9_next E l v0 101 S73 (RAq hG hv0)) (by rw [hv0.1]) QLL_35 KP11 rfl (rm2 (by decide) (by decide)) (Nat.le_of_ble_eq_true rfl) rfl dL_drawn_136 hU h (fun x82 S80 H locs ad81 cells slots hG hx9 h => ?_)
          have hv0 := hv0.up hx9
          have hv1 := hv1.up hx9
          have hv4 := hv4.up hx9
          refine lv_goto (tgt := 151) hx hb dL_drawn_139 (by decide) ?_
          exact j151 (kL_drawn_118 f) ih v0 v1 v3 v4 v5 v6 x82 S80 _ _ _ _ _ _ _ _ _ _ hG hv0 hv1 hv4 (lv_sub hl [0, 1, 2, 3, 4, 5] rfl) h
  have j103 : ∀ (v0 : Nat) (v1 : Nat) (v2 : Int32) (v3 : Int32) (v4 : Nat) (S : ZS) (ad : Nat → Nat) (N : Nat) (bv0 : Nat) (bv1 : Nat) (bv4 : Nat) (H : Heap) (locs : List Loc) (ls : Array Slot) (cells slots : Nat), GL E s F H locs ad N S cells slots → RA E ad N v0 bv0 → RA E ad N v1 bv1 → RA E ad N v4 bv4 → lv_has ls 9 [(0, .ref bv0), (1, .ref bv1), (2, .int v2), (3, .int v3), (4, .ref bv4)] → kL_drawn_103 v0 v1 v2 v3 v4 S = some u → W p l e (F.R 30) s m args below meth c H locs cells slots (MQ below (QRL E s.heap.size F.ad S0 u) args s (F.c - F.uc) (F.w - F.uw) F.A) (F0 m 103 ls []) := by
    intro v0 v1 v2 v3 v4 S ad N bv0 bv1 bv4 H locs ls cells slots hG hv0 hv1 hv4 hl h
    unfold kL_drawn_103 at h
    refine lv_iload_n hx hb dL_drawn_103 rfl (lv_at hl 2 rfl) ?_
    refine lv_aload_n hx hb dL_drawn_104 rfl (lv_at hl 0 rfl) ?_
    refine lv_bipush (v := 8) hx hb dL_drawn_105 (by decide) ?_
    refine lv_iload_n hx hb dL_drawn_107 rfl (lv_at hl 2 rfl) ?_
    refine lv_isub hx hb dL_drawn_108 ?_
    refine r2_cVI C hA hl.1 hG hv0 [.int (8 - v2)] [.int v2] (mX9_next E l v0 (8 - v2) S (RAq hG hv0)) (by rw [hv0.1]) QLL_35 KP11 rfl (rm2 (by decide) (by decide)) (Nat.le_of_ble_eq_true rfl) rfl dL_drawn_109 hU h (fun x85 S83 H locs ad84 cells slots hG hx9 h => ?_)
    have hv0 := hv0.up hx9
    have hv1 := hv1.up hx9
    have hv4 := hv4.up hx9
    refine lv_iadd hx hb dL_drawn_112 ?_
    refine r_nm h (fun x86 h => ?_)
    refine lv_istore (lv' := [(5, .int x86), (0, .ref bv0), (1, .ref bv1), (2, .int v2), (3, .int v3), (4, .ref bv4)]) hx hb dL_drawn_113 hl (by decide) rfl (fun ls hl => ?_)
    refine lv_iconst (v := 0) hx hb dL_drawn_115 (by decide) ?_
    refine lv_istore (lv' := [(6, .int 0), (5, .int x86), (0, .ref bv0), (1, .ref bv1), (2, .int v2), (3, .int v3), (4, .ref bv4)]) hx hb dL_drawn_116 hl (by decide) rfl (fun ls hl => ?_)
    exact j118 FU v0 v1 v3 v4 x86 0 S83 _ _ _ _ _ _ _ _ _ _ hG hv0 hv1 hv4 (lv_sub hl [2, 3, 5, 6, 1, 0] rfl) h
  have j77 : ∀ (v0 : Nat) (v1 : Nat) (v2 : Int32) (v3 : Int32) (v4 : Nat) (vt0 : Int32) (vt1 : Nat) (vt2 : Nat) (S : ZS) (ad : Nat → Nat) (N : Nat) (bv0 : Nat) (bv1 : Nat) (bv4 : Nat) (bvt1 : Nat) (bvt2 : Nat) (H : Heap) (locs : List Loc) (ls : Array Slot) (cells slots : Nat), GL E s F H locs ad N S cells slots → RA E ad N v0 bv0 → RA E ad N v1 bv1 → RA E ad N v4 bv4 → RA E ad N vt1 bvt1 → RA E ad N vt2 bvt2 → lv_has ls 9 [(0, .ref bv0), (1, .ref bv1), (2, .int v2), (3, .int v3), (4, .ref bv4)] → kL_drawn_77 v0 v1 v2 v3 v4 vt0 vt1 vt2 S = some u → W p l e (F.R 30) s m args below meth c H locs cells slots (MQ below (QRL E s.heap.size F.ad S0 u) args s (F.c - F.uc) (F.w - F.uw) F.A) (F0 m 77 ls [.int vt0, .ref bvt1, .ref bvt2]) := by
    intro v0 v1 v2 v3 v4 vt0 vt1 vt2 S ad N bv0 bv1 bv4 bvt1 bvt2 H locs ls cells slots hG hv0 hv1 hv4 hvt1 hvt2 hl h
    unfold kL_drawn_77 at h
    refine r2_cVI C hA hl.1 hG hvt1 [.int vt0] [.ref bvt2] (mX9_next E l vt1 vt0 S (RAq hG hvt1)) (by rw [hvt1.1]) QLL_35 KP11 rfl (rm2 (by decide) (by decide)) (Nat.le_of_ble_eq_true rfl) rfl dL_drawn_77 hU h (fun x89 S87 H locs ad88 cells slots hG hx9 h => ?_)
    have hv0 := hv0.up hx9
    have hv1 := hv1.up hx9
    have hv4 := hv4.up hx9
    have hvt2 := hvt2.up hx9
    refine r2_pI C hG hvt2 FQL_57 (Or.inl rfl) rfl rfl rfl dL_drawn_80 h (fun H locs S90 hG h => ?_)
    refine lv_aload_n hx hb dL_drawn_83 rfl (lv_at hl 1 rfl) ?_
    refine r_ldcS C 63 (by decide) ⟨rfl, rfl⟩ dL_drawn_84 ?_
    refine r2_cVR C hA hl.1 hG hv1 [.ref (E.aK 63)] [] (mJ4_append_15ec4_S E l v1 63 S90 (RAq hG hv1)) (by rw [hv1.1]) QLL_46 KP1 rfl (rm2 (by decide) (by decide)) (Nat.le_of_ble_eq_true rfl) rfl dL_drawn_86 hU h (fun bc93 c93 S91 H locs ad92 cells slots hG hx9 h_c93 h => ?_)
    have hv0 := hv0.up hx9
    have hv1 := hv1.up hx9
    have hv4 := hv4.up hx9
    refine lv_aload hx hb dL_drawn_89 (lv_at hl 4 rfl) ?_
    refine r2_gI C hG hv4 FQL_57 rfl dL_drawn_91 h (fun x94 h => ?_)
    refine r2_cVR C hA hl.1 hG h_c93 [.int x94] [] (mJ4_append_bf812 E l c93 x94 S91 (RAq hG h_c93)) (by rw [h_c93.1]) QLL_52 KP1 rfl (rm2 (by decide) (by decide)) (Nat.le_of_ble_eq_true rfl) rfl dL_drawn_94 hU h (fun bc97 c97 S95 H locs ad96 cells slots hG hx9 h_c97 h => ?_)
    have hv0 := hv0.up hx9
    have hv1 := hv1.up hx9
    have hv4 := hv4.up hx9
    refine r_ldcS C 64 (by decide) ⟨rfl, rfl⟩ dL_drawn_97 ?_
    refine r2_cVR C hA hl.1 hG h_c97 [.ref (E.aK 64)] [] (mJ4_append_15ec4_S E l c97 64 S95 (RAq hG h_c97)) (by rw [h_c97.1]) QLL_46 KP1 rfl (rm2 (by decide) (by decide)) (Nat.le_of_ble_eq_true rfl) rfl dL_drawn_99 hU h (fun bc100 c100 S98 H locs ad99 cells slots hG hx9 h_c100 h => ?_)
    have hv0 := hv0.up hx9
    have hv1 := hv1.up hx9
    have hv4 := hv4.up hx9
    refine lv_pop hx hb dL_drawn_102 rfl ?_
    exact j103 v0 v1 v2 v3 v4 S98 _ _ _ _ _ _ _ _ _ _ hG hv0 hv1 hv4 (lv_sub hl [0, 1, 2, 3, 4] rfl) h
  have j49 : ∀ (v0 : Nat) (v1 : Nat) (v2 : Int32) (v3 : Int32) (v4 : Nat) (S : ZS) (ad : Nat → Nat) (N : Nat) (bv0 : Nat) (bv1 : Nat) (bv4 : Nat) (H : Heap) (locs : List Loc) (ls : Array Slot) (cells slots : Nat), GL E s F H locs ad N S cells slots → RA E ad N v0 bv0 → RA E ad N v1 bv1 → RA E ad N v4 bv4 → lv_has ls 9 [(0, .ref bv0), (1, .ref bv1), (2, .int v2), (3, .int v3), (4, .ref bv4)] → kL_drawn_49 v0 v1 v2 v3 v4 S = some u → W p l e (F.R 30) s m args below meth c H locs cells slots (MQ below (QRL E s.heap.size F.ad S0 u) args s (F.c - F.uc) (F.w - F.uw) F.A) (F0 m 49 ls []) := by
    intro v0 v1 v2 v3 v4 S ad N bv0 bv1 bv4 H locs ls cells slots hG hv0 hv1 hv4 hl h
    unfold kL_drawn_49 at h
    refine lv_aload_n hx hb dL_drawn_49 rfl (lv_at hl 0 rfl) ?_
    refine lv_iconst (v := 2) hx hb dL_drawn_50 (by decide) ?_
    refine r2_cVI C hA hl.1 hG hv0 [.int 2] [] (mX9_next E l v0 2 S (RAq hG hv0)) (by rw [hv0.1]) QLL_35 KP11 rfl (rm2 (by decide) (by decide)) (Nat.le_of_ble_eq_true rfl) rfl dL_drawn_51 hU h (fun x103 S101 H locs ad102 cells slots hG hx9 h => ?_)
    have hv0 := hv0.up hx9
    have hv1 := hv1.up hx9
    have hv4 := hv4.up hx9
    refine lv_if_ne (tgt := 103) hx hb dL_drawn_54 (by decide) (fun g104 => ?_) (fun g104 => ?_)
    · have h := (if_inv h).2 g104
      exact j103 v0 v1 v2 v3 v4 S101 _ _ _ _ _ _ _ _ _ _ hG hv0 hv1 hv4 (lv_sub hl [0, 1, 2, 3, 4] rfl) h
    · have h := (if_inv h).1 g104
      refine lv_aload hx hb dL_drawn_57 (lv_at hl 4 rfl) ?_
      refine lv_aload_n hx hb dL_drawn_59 rfl (lv_at hl 0 rfl) ?_
      refine lv_aload_n hx hb dL_drawn_60 rfl (lv_at hl 0 rfl) ?_
      refine lv_iconst (v := 2) hx hb dL_drawn_61 (by decide) ?_
      refine r2_cVI C hA hl.1 hG hv0 [.int 2] [.ref bv0, .ref bv4] (mX9_next E l v0 2 S101 (RAq hG hv0)) (by rw [hv0.1]) QLL_35 KP11 rfl (rm2 (by decide) (by decide)) (Nat.le_of_ble_eq_true rfl) rfl dL_drawn_62 hU h (fun x107 S105 H locs ad106 cells slots hG hx9 h => ?_)
      have hv0 := hv0.up hx9
      have hv1 := hv1.up hx9
      have hv4 := hv4.up hx9
      refine lv_if_ne (tgt := 74) hx hb dL_drawn_65 (by decide) (fun g108 => ?_) (fun g108 => ?_)
      · have h := (if_inv h).2 g108
        refine lv_sipush (v := 3000) hx hb dL_drawn_74 (by decide) ?_
        exact j77 v0 v1 v2 v3 v4 3000 v0 v4 S105 _ _ _ _ _ _ _ _ _ _ _ _ hG hv0 hv1 hv4 hv0 hv4 (lv_sub hl [0, 1, 2, 3, 4] rfl) h
      · have h := (if_inv h).1 g108
        refine lv_sipush (v := 10001) hx hb dL_drawn_68 (by decide) ?_
        refine lv_goto (tgt := 77) hx hb dL_drawn_71 (by decide) ?_
        exact j77 v0 v1 v2 v3 v4 10001 v0 v4 S105 _ _ _ _ _ _ _ _ _ _ _ _ hG hv0 hv1 hv4 hv0 hv4 (lv_sub hl [0, 1, 2, 3, 4] rfl) h
  refine r2_new C hA hG KP14 (mTBi 1265 (by decide +kernel) rfl) (mTBi 1266 (by decide +kernel) rfl) (mTBi 54 (by decide +kernel) rfl) (by decide +kernel) dL_drawn_0 hU h (fun bc109 c109 H ad111 S110 cells slots hG hx9 h_c109 h => ?_)
  have h0 := h0.up hx9
  have h1 := h1.up hx9
  refine lv_dup hx hb dL_drawn_3 rfl ?_
  refine r2_cIV C hA hl.1 hG [] [.ref bc109] (mX12_init E l c109 S110 (RAq hG h_c109)) (by rw [h_c109.1]) QLL_34 rfl (rm2 (by decide) (by decide)) (Nat.le_of_ble_eq_true rfl) rfl dL_drawn_4 hU h (fun S112 H locs ad113 cells slots hG hx9 h => ?_)
  have h0 := h0.up hx9
  have h1 := h1.up hx9
  have h_c109 := h_c109.up hx9
  refine lv_astore (lv' := [(4, .ref bc109), (0, .ref b0), (1, .ref b1), (2, .int a2), (3, .int a3)]) hx hb dL_drawn_7 hl (by decide) rfl (fun ls hl => ?_)
  refine lv_aload_n hx hb dL_drawn_9 rfl (lv_at hl 1 rfl) ?_
  refine lv_iconst (v := 2) hx hb dL_drawn_10 (by decide) ?_
  refine r2_cVI C hA hl.1 hG h0 [.int 2] [] (mX9_next E l c0 2 S112 (RAq hG h0)) (by rw [h0.1]) QLL_35 KP11 rfl (rm2 (by decide) (by decide)) (Nat.le_of_ble_eq_true rfl) rfl dL_drawn_11 hU h (fun x116 S114 H locs ad115 cells slots hG hx9 h => ?_)
  have h_c109 := h_c109.up hx9
  have h0 := h0.up hx9
  have h1 := h1.up hx9
  refine lv_if_ne (tgt := 49) hx hb dL_drawn_14 (by decide) (fun g117 => ?_) (fun g117 => ?_)
  · have h := (if_inv h).2 g117
    exact j49 c0 c1 a2 a3 c109 S114 _ _ _ _ _ _ _ _ _ _ hG h0 h1 h_c109 (lv_sub hl [1, 2, 3, 4, 0] rfl) h
  · have h := (if_inv h).1 g117
    refine lv_aload hx hb dL_drawn_17 (lv_at hl 0 rfl) ?_
    refine lv_aload_n hx hb dL_drawn_19 rfl (lv_at hl 1 rfl) ?_
    refine lv_sipush (v := 181) hx hb dL_drawn_20 (by decide) ?_
    refine r2_cVI C hA hl.1 hG h0 [.int 181] [.ref bc109] (mX9_next E l c0 181 S114 (RAq hG h0)) (by rw [h0.1]) QLL_35 KP11 rfl (rm2 (by decide) (by decide)) (Nat.le_of_ble_eq_true rfl) rfl dL_drawn_23 hU h (fun x120 S118 H locs ad119 cells slots hG hx9 h => ?_)
    have h_c109 := h_c109.up hx9
    have h0 := h0.up hx9
    have h1 := h1.up hx9
    refine r2_pI C hG h_c109 FQL_40 (Or.inl rfl) rfl rfl rfl dL_drawn_26 h (fun H locs S121 hG h => ?_)
    refine lv_aload_n hx hb dL_drawn_29 rfl (lv_at hl 2 rfl) ?_
    refine r_ldcS C 61 (by decide) ⟨rfl, rfl⟩ dL_drawn_30 ?_
    refine r2_cVR C hA hl.1 hG h1 [.ref (E.aK 61)] [] (mJ4_append_15ec4_S E l c1 61 S121 (RAq hG h1)) (by rw [h1.1]) QLL_46 KP1 rfl (rm2 (by decide) (by decide)) (Nat.le_of_ble_eq_true rfl) rfl dL_drawn_32 hU h (fun bc124 c124 S122 H locs ad123 cells slots hG hx9 h_c124 h => ?_)
    have h_c109 := h_c109.up hx9
    have h0 := h0.up hx9
    have h1 := h1.up hx9
    refine lv_aload hx hb dL_drawn_35 (lv_at hl 0 rfl) ?_
    refine r2_gI C hG h_c109 FQL_40 rfl dL_drawn_37 h (fun x125 h => ?_)
    refine r2_cVR C hA hl.1 hG h_c124 [.int x125] [] (mJ4_append_bf812 E l c124 x125 S122 (RAq hG h_c124)) (by rw [h_c124.1]) QLL_52 KP1 rfl (rm2 (by decide) (by decide)) (Nat.le_of_ble_eq_true rfl) rfl dL_drawn_40 hU h (fun bc128 c128 S126 H locs ad127 cells slots hG hx9 h_c128 h => ?_)
    have h_c109 := h_c109.up hx9
    have h0 := h0.up hx9
    have h1 := h1.up hx9
    refine r_ldcS C 62 (by decide) ⟨rfl, rfl⟩ dL_drawn_43 ?_
    refine r2_cVR C hA hl.1 hG h_c128 [.ref (E.aK 62)] [] (mJ4_append_15ec4_S E l c128 62 S126 (RAq hG h_c128)) (by rw [h_c128.1]) QLL_46 KP1 rfl (rm2 (by decide) (by decide)) (Nat.le_of_ble_eq_true rfl) rfl dL_drawn_45 hU h (fun bc131 c131 S129 H locs ad130 cells slots hG hx9 h_c131 h => ?_)
    have h_c109 := h_c109.up hx9
    have h0 := h0.up hx9
    have h1 := h1.up hx9
    refine lv_pop hx hb dL_drawn_48 rfl ?_
    exact j49 c0 c1 a2 a3 c109 S129 _ _ _ _ _ _ _ _ _ _ hG h0 h1 h_c109 (lv_sub hl [1, 2, 3, 4, 0] rfl) h
def kL_act_55  (v1 : Nat) (vt0 : Int32) (vt1 : Nat) (vt2 : Int32) (S : ZS) : Option (Int32 × ZS) :=
      rcv S vt1 11 <| b2 Prod.snd (kX9_next vt1 vt0 S) fun x3 S1 =>
      bd (vt2 + x3) fun x4 =>
      clR Prod.snd S1 3 18 (k8_passMinutes x4 S1.g) fun x5 S6 =>
      rcv S6 v1 14 <| b2 Prod.snd (kX12_pass_ v1 x4 S6) fun x9 S7 =>
      if x5 = x9 then
        some (1, S7)
      else
        some (0, S7)
def kL_act_39  (v1 : Nat) (v2 : Nat) (S : ZS) : Option (Int32 × ZS) :=
      rcv S v2 11 <| b2 Prod.snd (kX9_next v2 4 S) fun x13 S11 =>
      if x13 = 0 then
        kL_act_55 v1 30 v2 1 S11
      else
        kL_act_55 v1 5 v2 1 S11
def kL_act_169  (v7 : Int32) (v8 : Int32) (S : ZS) : Option (Int32 × ZS) :=
      if v8 = v7 then
        some (1, S)
      else
        some (0, S)
def kL_act_148  (v5 : Int32) (v6 : Int32) (vt0 : Int32) (S : ZS) : Option (Int32 × ZS) :=
      bd vt0 fun x16 =>
      clX Prod.snd S 3 18 (k8_orderJob v5 v6 S.g) (fun x17 S18 =>
        kL_act_169 x16 x17 S18) fun S19 =>
        kL_act_169 x16 (-9) S19
def kL_act_120  (v1 : Nat) (v2 : Nat) (v5 : Int32) (S : ZS) : Option (Int32 × ZS) :=
      rcv S v2 11 <| b2 Prod.snd (kX9_next v2 3 S) fun x22 S20 =>
      rcv S20 v1 14 <| b2 Prod.snd (kX12_order v1 x22 v5 S20) fun x25 S23 =>
      if x25 = 0 then
        kL_act_148 v5 x22 (-9) S23
      else
        gN S23 v1 14 4 fun c27 =>
        aL S23 c27 400000 fun x28 =>
        kL_act_148 v5 x22 x28 S23
def kL_act_27  (v1 : Nat) (v2 : Nat) (v3 : Int32) (v4 : Int32) (vt0 : Int32) (S : ZS) : Option (Int32 × ZS) :=
      bd vt0 fun x29 =>
      if v3 = 0 then
        kL_act_39 v1 v2 S
      else
        if v4 ≤ 5 then
          if v4 = 0 then
            kL_act_120 v1 v2 x29 S
          else
          if v4 = 1 then
            kL_act_120 v1 v2 x29 S
          else
          if v4 = 2 then
            gN S v1 14 4 fun c35 =>
            aL S c35 400000 fun x36 =>
            if x36 = 0 then
              some (1, S)
            else
              gN S v1 14 4 fun c38 =>
              aL S c38 400000 fun x39 =>
              rcv S v2 11 <| b2 Prod.snd (kX9_next v2 x39 S) fun x42 S40 =>
              clR Prod.snd S40 3 18 (k8_cancelJob x42 S40.g) fun x43 S44 =>
              rcv S44 v1 14 <| b2 Prod.snd (kX12_take v1 x42 S44) fun c47 S45 =>
              aG S45 c47 100000 1 fun x48 =>
              if x43 = x48 then
                some (1, S45)
              else
                some (0, S45)
          else
          if v4 = 3 then
            gN S v1 14 2 fun c51 =>
            aN S c51 400000 x29 fun c52 =>
            aG S c52 100000 2 fun x53 =>
            gN S v1 14 2 fun c54 =>
            aN S c54 400000 x29 fun c55 =>
            rcv S v2 11 <| b2 Prod.snd (kX9_next v2 181 S) fun x58 S56 =>
            aP S56 c55 100000 2 (x58 - 90) fun S59 =>
            gN S59 v1 14 2 fun c60 =>
            aN S59 c60 400000 x29 fun c61 =>
            aG S59 c61 100000 2 fun x62 =>
            clR Prod.snd S59 3 18 (k8_turnMirror x29 x62 S59.g) fun x63 S64 =>
            if x63 = x53 then
              some (1, S64)
            else
              some (0, S64)
          else
          if v4 = 4 then
            rcv S v2 11 <| b2 Prod.snd (kX9_next v2 101 S) fun x69 S67 =>
            gN S67 v1 14 2 fun c70 =>
            aN S67 c70 400000 x29 fun c71 =>
            gN S67 v1 14 2 fun c72 =>
            aN S67 c72 400000 x29 fun c73 =>
            aG S67 c73 100000 0 fun x74 =>
            bd (if 0 < (x74 - x69) then (x74 - x69) else 0) fun x75 =>
            aP S67 c71 100000 0 x75 fun S76 =>
            clR Prod.snd S76 3 18 (k8_dustMirror x29 x69 S76.g) fun x77 S78 =>
            gN S78 v1 14 2 fun c79 =>
            aN S78 c79 400000 x29 fun c80 =>
            aG S78 c80 100000 0 fun x81 =>
            if x77 = x81 then
              some (1, S78)
            else
              some (0, S78)
          else
          rcv S v2 11 <| b2 Prod.snd (kX9_next v2 v3 S) fun x85 S83 =>
          rcv S83 v1 14 <| b2 Prod.snd (kX12_place v1 x29 S83) fun x88 S86 =>
          rcv S86 v1 14 <| b1 Prod.snd (kX12_move v1 x29 x85 S86) fun S89 =>
          clR Prod.snd S89 3 18 (k8_moveMirror x29 x85 S89.g) fun x91 S92 =>
          if x91 = x88 then
            some (1, S92)
          else
            some (0, S92)
        else
          kL_act_39 v1 v2 S
def kL_act (c1 : Nat) (c2 : Nat) (S0 : ZS) : Option (Int32 × ZS) :=
  chk Prod.snd S0 <|
  gN S0 c1 14 3 fun c94 =>
  aL S0 c94 100000 fun x95 =>
  rcv S0 c2 11 <| b2 Prod.snd (kX9_next c2 9 S0) fun x98 S96 =>
  if x95 = 0 then
    kL_act_27 c1 c2 x95 x98 0 S96
  else
    rcv S96 c2 11 <| b2 Prod.snd (kX9_next c2 x95 S96) fun x102 S100 =>
    kL_act_27 c1 c2 x95 x98 x102 S100
set_option maxRecDepth 100000 in
set_option maxHeartbeats 8000000 in
theorem mL_act (E : EV) (l : Launch) (hst : l.stackTraces = false) (c1 : Nat) (c2 : Nat) (S0 : ZS) (q1 : c1 ≠ 0 ∧ rk S0.n c1) (q2 : c2 ≠ 0 ∧ rk S0.n c2) : ∀ u, kL_act c1 c2 S0 = some u → MIH E l yL_act cL_act 10 (Option.some Jvm.ClassFile.FieldType.boolean) [(150, 160, 163, 120)] 21 (fun ad => [.ref (E.ad 0), .ref (rA E ad c1), .ref (rA E ad c2)]) S0 u := by
  intro u h
  unfold kL_act at h
  obtain ⟨hcw, h⟩ := chk_inv h
  refine ML2H.of (by decide +kernel) (fun ad => Nat.le_of_ble_eq_true rfl) hcw ?_
  intro p e s m args below meth c ad F hF C hA ht hr ls hl hG
  have C : Cx p s m args meth c cL_act 10 RL E := C
  have hx := C.1
  have hb := C.2.1
  have hU : F.uc = (u.2).c ∧ F.uw = (u.2).w := ⟨hF.2.2.2.2.1, hF.2.2.2.2.2⟩
  have hl : lv_has ls 10 [(0, .ref (E.ad 0)), (1, .ref (rA E ad c1)), (2, .ref (rA E ad c2))] := hl
  obtain ⟨b1, h1, e1⟩ : ∃ b, RA E ad S0.n c1 b ∧ b = rA E ad c1 := ⟨_, RA.of q1.1 q1.2, rfl⟩
  rw [← e1] at hl
  obtain ⟨b2, h2, e2⟩ : ∃ b, RA E ad S0.n c2 b ∧ b = rA E ad c2 := ⟨_, RA.of q2.1 q2.2, rfl⟩
  rw [← e2] at hl
  suffices h99 : ∀ (H : Heap) (locs : List Loc) (cells slots : Nat), GL E s F H locs ad S0.n S0 cells slots → W p l e (F.R 21) s m args below meth c H locs cells slots (MQ below (QIL E s.heap.size F.ad S0 u) args s (F.c - F.uc) (F.w - F.uw) F.A) (F0 m 0 ls []) from h99 _ _ _ _ hG
  clear hG
  intro H locs cells slots hG
  have j55 : ∀ (v1 : Nat) (vt0 : Int32) (vt1 : Nat) (vt2 : Int32) (S : ZS) (ad : Nat → Nat) (N : Nat) (bv1 : Nat) (bvt1 : Nat) (H : Heap) (locs : List Loc) (ls : Array Slot) (cells slots : Nat), GL E s F H locs ad N S cells slots → RA E ad N v1 bv1 → RA E ad N vt1 bvt1 → lv_has ls 10 [(0, .ref (E.ad 0)), (1, .ref bv1)] → kL_act_55 v1 vt0 vt1 vt2 S = some u → W p l e (F.R 21) s m args below meth c H locs cells slots (MQ below (QIL E s.heap.size F.ad S0 u) args s (F.c - F.uc) (F.w - F.uw) F.A) (F0 m 55 ls [.int vt0, .ref bvt1, .int vt2]) := by
    intro v1 vt0 vt1 vt2 S ad N bv1 bvt1 H locs ls cells slots hG hv1 hvt1 hl h
    unfold kL_act_55 at h
    refine r2_cVI C hA hl.1 hG hvt1 [.int vt0] [.int vt2] (mX9_next E l vt1 vt0 S (RAq hG hvt1)) (by rw [hvt1.1]) QLL_35 KP11 rfl (rm2 (by decide) (by decide)) (Nat.le_of_ble_eq_true rfl) rfl dL_act_55 hU h (fun x3 S1 H locs ad2 cells slots hG hx9 h => ?_)
    have hv1 := hv1.up hx9
    refine lv_iadd hx hb dL_act_58 ?_
    refine r_nm h (fun x4 h => ?_)
    refine lv_istore (lv' := [(6, .int x4), (0, .ref (E.ad 0)), (1, .ref bv1)]) hx hb dL_act_59 hl (by decide) rfl (fun ls hl => ?_)
    refine lv_aload_n hx hb dL_act_61 rfl (lv_at hl 1 rfl) ?_
    refine lv_iload hx hb dL_act_62 (lv_at hl 0 rfl) ?_
    refine r2_clR C hA hl.1 hG [.int x4] [] (m8_passMinutes E l hst x4 S1.g) QCL_102.1 QCL_102.2 KC8 rfl (rm2 (by decide) (by decide)) (Nat.le_of_ble_eq_true rfl) rfl dL_act_64 hU h (fun x5 S6 H locs cells slots hG h => ?_)
    refine lv_aload_n hx hb dL_act_67 rfl (lv_at hl 2 rfl) ?_
    refine lv_iload hx hb dL_act_68 (lv_at hl 0 rfl) ?_
    refine r2_cVI C hA hl.1 hG hv1 [.int x4] [.int x5] (mX12_pass_ E l v1 x4 S6 (RAq hG hv1)) (by rw [hv1.1]) QLL_105 KP14 rfl (rm2 (by decide) (by decide)) (Nat.le_of_ble_eq_true rfl) rfl dL_act_70 hU h (fun x9 S7 H locs ad8 cells slots hG hx9 h => ?_)
    have hv1 := hv1.up hx9
    refine lv_icmp_ne (tgt := 80) hx hb dL_act_73 (by decide) (fun g10 => ?_) (fun g10 => ?_)
    · have h := (if_inv h).2 g10
      refine lv_iconst (v := 0) hx hb dL_act_80 (by decide) ?_
      exact r2_iret C hF hG hr rfl dL_act_81 h
    · have h := (if_inv h).1 g10
      refine lv_iconst (v := 1) hx hb dL_act_76 (by decide) ?_
      refine lv_goto (tgt := 81) hx hb dL_act_77 (by decide) ?_
      exact r2_iret C hF hG hr rfl dL_act_81 h
  have j39 : ∀ (v1 : Nat) (v2 : Nat) (S : ZS) (ad : Nat → Nat) (N : Nat) (bv1 : Nat) (bv2 : Nat) (H : Heap) (locs : List Loc) (ls : Array Slot) (cells slots : Nat), GL E s F H locs ad N S cells slots → RA E ad N v1 bv1 → RA E ad N v2 bv2 → lv_has ls 10 [(0, .ref (E.ad 0)), (1, .ref bv1), (2, .ref bv2)] → kL_act_39 v1 v2 S = some u → W p l e (F.R 21) s m args below meth c H locs cells slots (MQ below (QIL E s.heap.size F.ad S0 u) args s (F.c - F.uc) (F.w - F.uw) F.A) (F0 m 39 ls []) := by
    intro v1 v2 S ad N bv1 bv2 H locs ls cells slots hG hv1 hv2 hl h
    unfold kL_act_39 at h
    refine lv_iconst (v := 1) hx hb dL_act_39 (by decide) ?_
    refine lv_aload_n hx hb dL_act_40 rfl (lv_at hl 2 rfl) ?_
    refine lv_aload_n hx hb dL_act_41 rfl (lv_at hl 2 rfl) ?_
    refine lv_iconst (v := 4) hx hb dL_act_42 (by decide) ?_
    refine r2_cVI C hA hl.1 hG hv2 [.int 4] [.ref bv2, .int 1] (mX9_next E l v2 4 S (RAq hG hv2)) (by rw [hv2.1]) QLL_35 KP11 rfl (rm2 (by decide) (by decide)) (Nat.le_of_ble_eq_true rfl) rfl dL_act_43 hU h (fun x13 S11 H locs ad12 cells slots hG hx9 h => ?_)
    have hv1 := hv1.up hx9
    have hv2 := hv2.up hx9
    refine lv_if_ne (tgt := 54) hx hb dL_act_46 (by decide) (fun g14 => ?_) (fun g14 => ?_)
    · have h := (if_inv h).2 g14
      refine lv_iconst (v := 5) hx hb dL_act_54 (by decide) ?_
      exact j55 v1 5 v2 1 S11 _ _ _ _ _ _ _ _ _ hG hv1 hv2 (lv_sub hl [0, 1] rfl) h
    · have h := (if_inv h).1 g14
      refine lv_bipush (v := 30) hx hb dL_act_49 (by decide) ?_
      refine lv_goto (tgt := 55) hx hb dL_act_51 (by decide) ?_
      exact j55 v1 30 v2 1 S11 _ _ _ _ _ _ _ _ _ hG hv1 hv2 (lv_sub hl [0, 1] rfl) h
  have j169 : ∀ (v7 : Int32) (v8 : Int32) (S : ZS) (ad : Nat → Nat) (N : Nat) (H : Heap) (locs : List Loc) (ls : Array Slot) (cells slots : Nat), GL E s F H locs ad N S cells slots → lv_has ls 10 [(7, .int v7), (8, .int v8)] → kL_act_169 v7 v8 S = some u → W p l e (F.R 21) s m args below meth c H locs cells slots (MQ below (QIL E s.heap.size F.ad S0 u) args s (F.c - F.uc) (F.w - F.uw) F.A) (F0 m 169 ls []) := by
    intro v7 v8 S ad N H locs ls cells slots hG hl h
    unfold kL_act_169 at h
    refine lv_iload hx hb dL_act_169 (lv_at hl 1 rfl) ?_
    refine lv_iload hx hb dL_act_171 (lv_at hl 0 rfl) ?_
    refine lv_icmp_ne (tgt := 180) hx hb dL_act_173 (by decide) (fun g15 => ?_) (fun g15 => ?_)
    · have h := (if_inv h).2 g15
      refine lv_iconst (v := 0) hx hb dL_act_180 (by decide) ?_
      exact r2_iret C hF hG hr rfl dL_act_181 h
    · have h := (if_inv h).1 g15
      refine lv_iconst (v := 1) hx hb dL_act_176 (by decide) ?_
      refine lv_goto (tgt := 181) hx hb dL_act_177 (by decide) ?_
      exact r2_iret C hF hG hr rfl dL_act_181 h
  have j148 : ∀ (v5 : Int32) (v6 : Int32) (vt0 : Int32) (S : ZS) (ad : Nat → Nat) (N : Nat) (H : Heap) (locs : List Loc) (ls : Array Slot) (cells slots : Nat), GL E s F H locs ad N S cells slots → lv_has ls 10 [(0, .ref (E.ad 0)), (5, .int v5), (6, .int v6)] → kL_act_148 v5 v6 vt0 S = some u → W p l e (F.R 21) s m args below meth c H locs cells slots (MQ below (QIL E s.heap.size F.ad S0 u) args s (F.c - F.uc) (F.w - F.uw) F.A) (F0 m 148 ls [.int vt0]) := by
    intro v5 v6 vt0 S ad N H locs ls cells slots hG hl h
    unfold kL_act_148 at h
    refine r_nm h (fun x16 h => ?_)
    refine lv_istore (lv' := [(7, .int x16), (0, .ref (E.ad 0)), (5, .int v5), (6, .int v6)]) hx hb dL_act_148 hl (by decide) rfl (fun ls hl => ?_)
    refine lv_aload_n hx hb dL_act_150 rfl (lv_at hl 1 rfl) ?_
    refine lv_iload hx hb dL_act_151 (lv_at hl 2 rfl) ?_
    refine lv_iload hx hb dL_act_153 (lv_at hl 3 rfl) ?_
    refine r2_clC C hA hl.1 hG [.int v5, .int v6] [] (m8_orderJob E l hst v5 v6 S.g) QCL_116.1 QCL_116.2 KC8 rfl (rm2 (by decide) (by decide)) (Nat.le_of_ble_eq_true rfl) rfl dL_act_155 (150, 160, 163, 120) ht (by decide) (by decide) (mTBi 1621 (by decide +kernel) rfl) (mNBi 354 (by decide +kernel) rfl) hU h (fun x17 S18 H locs cells slots hG h => ?_) (fun bq S19 H locs cells slots hG h => ?_)
    · refine lv_istore (lv' := [(8, .int x17), (7, .int x16), (0, .ref (E.ad 0)), (5, .int v5), (6, .int v6)]) hx hb dL_act_158 hl (by decide) rfl (fun ls hl => ?_)
      refine lv_goto (tgt := 169) hx hb dL_act_160 (by decide) ?_
      exact j169 x16 x17 S18 _ _ _ _ _ _ _ hG (lv_sub hl [1, 0] rfl) h
    · refine lv_astore (lv' := [(9, .ref bq), (7, .int x16), (0, .ref (E.ad 0)), (5, .int v5), (6, .int v6)]) hx hb dL_act_163 hl (by decide) rfl (fun ls hl => ?_)
      refine lv_bipush (v := (-9)) hx hb dL_act_165 (by decide) ?_
      refine lv_istore (lv' := [(8, .int (-9)), (9, .ref bq), (7, .int x16), (0, .ref (E.ad 0)), (5, .int v5), (6, .int v6)]) hx hb dL_act_167 hl (by decide) rfl (fun ls hl => ?_)
      exact j169 x16 (-9) S19 _ _ _ _ _ _ _ hG (lv_sub hl [2, 0] rfl) h
  have j120 : ∀ (v1 : Nat) (v2 : Nat) (v5 : Int32) (S : ZS) (ad : Nat → Nat) (N : Nat) (bv1 : Nat) (bv2 : Nat) (H : Heap) (locs : List Loc) (ls : Array Slot) (cells slots : Nat), GL E s F H locs ad N S cells slots → RA E ad N v1 bv1 → RA E ad N v2 bv2 → lv_has ls 10 [(0, .ref (E.ad 0)), (1, .ref bv1), (2, .ref bv2), (5, .int v5)] → kL_act_120 v1 v2 v5 S = some u → W p l e (F.R 21) s m args below meth c H locs cells slots (MQ below (QIL E s.heap.size F.ad S0 u) args s (F.c - F.uc) (F.w - F.uw) F.A) (F0 m 120 ls []) := by
    intro v1 v2 v5 S ad N bv1 bv2 H locs ls cells slots hG hv1 hv2 hl h
    unfold kL_act_120 at h
    refine lv_aload_n hx hb dL_act_120 rfl (lv_at hl 2 rfl) ?_
    refine lv_iconst (v := 3) hx hb dL_act_121 (by decide) ?_
    refine r2_cVI C hA hl.1 hG hv2 [.int 3] [] (mX9_next E l v2 3 S (RAq hG hv2)) (by rw [hv2.1]) QLL_35 KP11 rfl (rm2 (by decide) (by decide)) (Nat.le_of_ble_eq_true rfl) rfl dL_act_122 hU h (fun x22 S20 H locs ad21 cells slots hG hx9 h => ?_)
    have hv1 := hv1.up hx9
    have hv2 := hv2.up hx9
    refine lv_istore (lv' := [(6, .int x22), (0, .ref (E.ad 0)), (1, .ref bv1), (2, .ref bv2), (5, .int v5)]) hx hb dL_act_125 hl (by decide) rfl (fun ls hl => ?_)
    refine lv_aload_n hx hb dL_act_127 rfl (lv_at hl 2 rfl) ?_
    refine lv_iload hx hb dL_act_128 (lv_at hl 0 rfl) ?_
    refine lv_iload hx hb dL_act_130 (lv_at hl 4 rfl) ?_
    refine r2_cVI C hA hl.1 hG hv1 [.int x22, .int v5] [] (mX12_order E l v1 x22 v5 S20 (RAq hG hv1)) (by rw [hv1.1]) QLL_108 KP14 rfl (rm2 (by decide) (by decide)) (Nat.le_of_ble_eq_true rfl) rfl dL_act_132 hU h (fun x25 S23 H locs ad24 cells slots hG hx9 h => ?_)
    have hv1 := hv1.up hx9
    have hv2 := hv2.up hx9
    refine lv_if_eq (tgt := 146) hx hb dL_act_135 (by decide) (fun g26 => ?_) (fun g26 => ?_)
    · have h := (if_inv h).1 g26
      refine lv_bipush (v := (-9)) hx hb dL_act_146 (by decide) ?_
      exact j148 v5 x22 (-9) S23 _ _ _ _ _ _ _ hG (lv_sub hl [1, 4, 0] rfl) h
    · have h := (if_inv h).2 g26
      refine lv_aload_n hx hb dL_act_138 rfl (lv_at hl 2 rfl) ?_
      refine r2_gN C hG hv1 FQL_112 rfl dL_act_139 h (fun c27 bc27 h_c27 h => ?_)
      refine r2_len C hG h_c27 400000 (Or.inr (Or.inr (Or.inr (Or.inl rfl)))) dL_act_142 h (fun x28 h => ?_)
      refine lv_goto (tgt := 148) hx hb dL_act_143 (by decide) ?_
      exact j148 v5 x22 x28 S23 _ _ _ _ _ _ _ hG (lv_sub hl [1, 4, 0] rfl) h
  have j27 : ∀ (v1 : Nat) (v2 : Nat) (v3 : Int32) (v4 : Int32) (vt0 : Int32) (S : ZS) (ad : Nat → Nat) (N : Nat) (bv1 : Nat) (bv2 : Nat) (H : Heap) (locs : List Loc) (ls : Array Slot) (cells slots : Nat), GL E s F H locs ad N S cells slots → RA E ad N v1 bv1 → RA E ad N v2 bv2 → lv_has ls 10 [(0, .ref (E.ad 0)), (1, .ref bv1), (2, .ref bv2), (3, .int v3), (4, .int v4)] → kL_act_27 v1 v2 v3 v4 vt0 S = some u → W p l e (F.R 21) s m args below meth c H locs cells slots (MQ below (QIL E s.heap.size F.ad S0 u) args s (F.c - F.uc) (F.w - F.uw) F.A) (F0 m 27 ls [.int vt0]) := by
    intro v1 v2 v3 v4 vt0 S ad N bv1 bv2 H locs ls cells slots hG hv1 hv2 hl h
    unfold kL_act_27 at h
    refine r_nm h (fun x29 h => ?_)
    refine lv_istore (lv' := [(5, .int x29), (0, .ref (E.ad 0)), (1, .ref bv1), (2, .ref bv2), (3, .int v3), (4, .int v4)]) hx hb dL_act_27 hl (by decide) rfl (fun ls hl => ?_)
    refine lv_iload_n hx hb dL_act_29 rfl (lv_at hl 4 rfl) ?_
    refine lv_if_eq (tgt := 39) hx hb dL_act_30 (by decide) (fun g30 => ?_) (fun g30 => ?_)
    · have h := (if_inv h).1 g30
      exact j39 v1 v2 S _ _ _ _ _ _ _ _ _ hG hv1 hv2 (lv_sub hl [1, 2, 3] rfl) h
    · have h := (if_inv h).2 g30
      refine lv_iload hx hb dL_act_33 (lv_at hl 5 rfl) ?_
      refine lv_iconst (v := 5) hx hb dL_act_35 (by decide) ?_
      refine lv_icmp_le (tgt := 82) hx hb dL_act_36 (by decide) (fun g31 => ?_) (fun g31 => ?_)
      · have h := (if_inv h).1 g31
        refine lv_iload hx hb dL_act_82 (lv_at hl 5 rfl) ?_
        by_cases g32 : v4 = 0
        · have h := (if_inv h).1 g32
          refine lv_tableIn (off := 36) (tgt := 120) hx hb dL_act_84 (by rw [g32]; decide +kernel) (by rw [g32]; decide +kernel) (by rw [g32]; decide +kernel) (by decide) ?_
          exact j120 v1 v2 x29 S _ _ _ _ _ _ _ _ _ hG hv1 hv2 (lv_sub hl [1, 2, 3, 0] rfl) h
        have h := (if_inv h).2 g32
        by_cases g33 : v4 = 1
        · have h := (if_inv h).1 g33
          refine lv_tableIn (off := 36) (tgt := 120) hx hb dL_act_84 (by rw [g33]; decide +kernel) (by rw [g33]; decide +kernel) (by rw [g33]; decide +kernel) (by decide) ?_
          exact j120 v1 v2 x29 S _ _ _ _ _ _ _ _ _ hG hv1 hv2 (lv_sub hl [1, 2, 3, 0] rfl) h
        have h := (if_inv h).2 g33
        by_cases g34 : v4 = 2
        · have h := (if_inv h).1 g34
          refine lv_tableIn (off := 98) (tgt := 182) hx hb dL_act_84 (by rw [g34]; decide +kernel) (by rw [g34]; decide +kernel) (by rw [g34]; decide +kernel) (by decide) ?_
          refine lv_aload_n hx hb dL_act_182 rfl (lv_at hl 2 rfl) ?_
          refine r2_gN C hG hv1 FQL_112 rfl dL_act_183 h (fun c35 bc35 h_c35 h => ?_)
          refine r2_len C hG h_c35 400000 (Or.inr (Or.inr (Or.inr (Or.inl rfl)))) dL_act_186 h (fun x36 h => ?_)
          refine lv_if_ne (tgt := 192) hx hb dL_act_187 (by decide) (fun g37 => ?_) (fun g37 => ?_)
          · have h := (if_inv h).2 g37
            refine lv_aload_n hx hb dL_act_192 rfl (lv_at hl 3 rfl) ?_
            refine lv_aload_n hx hb dL_act_193 rfl (lv_at hl 2 rfl) ?_
            refine r2_gN C hG hv1 FQL_112 rfl dL_act_194 h (fun c38 bc38 h_c38 h => ?_)
            refine r2_len C hG h_c38 400000 (Or.inr (Or.inr (Or.inr (Or.inl rfl)))) dL_act_197 h (fun x39 h => ?_)
            refine r2_cVI C hA hl.1 hG hv2 [.int x39] [] (mX9_next E l v2 x39 S (RAq hG hv2)) (by rw [hv2.1]) QLL_35 KP11 rfl (rm2 (by decide) (by decide)) (Nat.le_of_ble_eq_true rfl) rfl dL_act_198 hU h (fun x42 S40 H locs ad41 cells slots hG hx9 h => ?_)
            have hv1 := hv1.up hx9
            have hv2 := hv2.up hx9
            refine lv_istore (lv' := [(6, .int x42), (5, .int x29), (0, .ref (E.ad 0)), (1, .ref bv1), (2, .ref bv2), (3, .int v3), (4, .int v4)]) hx hb dL_act_201 hl (by decide) rfl (fun ls hl => ?_)
            refine lv_aload_n hx hb dL_act_203 rfl (lv_at hl 2 rfl) ?_
            refine lv_iload hx hb dL_act_204 (lv_at hl 0 rfl) ?_
            refine r2_clR C hA hl.1 hG [.int x42] [] (m8_cancelJob E l hst x42 S40.g) QCL_122.1 QCL_122.2 KC8 rfl (rm2 (by decide) (by decide)) (Nat.le_of_ble_eq_true rfl) rfl dL_act_206 hU h (fun x43 S44 H locs cells slots hG h => ?_)
            refine lv_aload_n hx hb dL_act_209 rfl (lv_at hl 3 rfl) ?_
            refine lv_iload hx hb dL_act_210 (lv_at hl 0 rfl) ?_
            refine r2_cVR C hA hl.1 hG hv1 [.int x42] [.int x43] (mX12_take E l v1 x42 S44 (RAq hG hv1)) (by rw [hv1.1]) QLL_125 KP14 rfl (rm2 (by decide) (by decide)) (Nat.le_of_ble_eq_true rfl) rfl dL_act_212 hU h (fun bc47 c47 S45 H locs ad46 cells slots hG hx9 h_c47 h => ?_)
            have hv1 := hv1.up hx9
            have hv2 := hv2.up hx9
            refine lv_iconst (v := 1) hx hb dL_act_215 (by decide) ?_
            refine r2_gAI C hG h_c47 dL_act_216 h (fun x48 h => ?_)
            refine lv_icmp_ne (tgt := 224) hx hb dL_act_217 (by decide) (fun g49 => ?_) (fun g49 => ?_)
            · have h := (if_inv h).2 g49
              refine lv_iconst (v := 0) hx hb dL_act_224 (by decide) ?_
              exact r2_iret C hF hG hr rfl dL_act_225 h
            · have h := (if_inv h).1 g49
              refine lv_iconst (v := 1) hx hb dL_act_220 (by decide) ?_
              refine lv_goto (tgt := 225) hx hb dL_act_221 (by decide) ?_
              exact r2_iret C hF hG hr rfl dL_act_225 h
          · have h := (if_inv h).1 g37
            refine lv_iconst (v := 1) hx hb dL_act_190 (by decide) ?_
            exact r2_iret C hF hG hr rfl dL_act_191 h
        have h := (if_inv h).2 g34
        by_cases g50 : v4 = 3
        · have h := (if_inv h).1 g50
          refine lv_tableIn (off := 142) (tgt := 226) hx hb dL_act_84 (by rw [g50]; decide +kernel) (by rw [g50]; decide +kernel) (by rw [g50]; decide +kernel) (by decide) ?_
          refine lv_aload_n hx hb dL_act_226 rfl (lv_at hl 2 rfl) ?_
          refine r2_gN C hG hv1 FQL_129 rfl dL_act_227 h (fun c51 bc51 h_c51 h => ?_)
          refine lv_iload hx hb dL_act_230 (lv_at hl 0 rfl) ?_
          refine r2_gAA C hG h_c51 dL_act_232 h (fun c52 bc52 h_c52 h => ?_)
          refine lv_iconst (v := 2) hx hb dL_act_233 (by decide) ?_
          refine r2_gAI C hG h_c52 dL_act_234 h (fun x53 h => ?_)
          refine lv_istore (lv' := [(6, .int x53), (5, .int x29), (0, .ref (E.ad 0)), (1, .ref bv1), (2, .ref bv2), (3, .int v3), (4, .int v4)]) hx hb dL_act_235 hl (by decide) rfl (fun ls hl => ?_)
          refine lv_aload_n hx hb dL_act_237 rfl (lv_at hl 3 rfl) ?_
          refine r2_gN C hG hv1 FQL_129 rfl dL_act_238 h (fun c54 bc54 h_c54 h => ?_)
          refine lv_iload hx hb dL_act_241 (lv_at hl 1 rfl) ?_
          refine r2_gAA C hG h_c54 dL_act_243 h (fun c55 bc55 h_c55 h => ?_)
          refine lv_iconst (v := 2) hx hb dL_act_244 (by decide) ?_
          refine lv_aload_n hx hb dL_act_245 rfl (lv_at hl 4 rfl) ?_
          refine lv_sipush (v := 181) hx hb dL_act_246 (by decide) ?_
          refine r2_cVI C hA hl.1 hG hv2 [.int 181] [.int 2, .ref bc55] (mX9_next E l v2 181 S (RAq hG hv2)) (by rw [hv2.1]) QLL_35 KP11 rfl (rm2 (by decide) (by decide)) (Nat.le_of_ble_eq_true rfl) rfl dL_act_249 hU h (fun x58 S56 H locs ad57 cells slots hG hx9 h => ?_)
          have hv1 := hv1.up hx9
          have hv2 := hv2.up hx9
          have h_c55 := h_c55.up hx9
          refine lv_bipush (v := 90) hx hb dL_act_252 (by decide) ?_
          refine lv_isub hx hb dL_act_254 ?_
          refine r2_pAI C hG h_c55 dL_act_255 h (fun H locs S59 hG h => ?_)
          refine lv_aload_n hx hb dL_act_256 rfl (lv_at hl 2 rfl) ?_
          refine lv_iload hx hb dL_act_257 (lv_at hl 1 rfl) ?_
          refine lv_aload_n hx hb dL_act_259 rfl (lv_at hl 3 rfl) ?_
          refine r2_gN C hG hv1 FQL_129 rfl dL_act_260 h (fun c60 bc60 h_c60 h => ?_)
          refine lv_iload hx hb dL_act_263 (lv_at hl 1 rfl) ?_
          refine r2_gAA C hG h_c60 dL_act_265 h (fun c61 bc61 h_c61 h => ?_)
          refine lv_iconst (v := 2) hx hb dL_act_266 (by decide) ?_
          refine r2_gAI C hG h_c61 dL_act_267 h (fun x62 h => ?_)
          refine r2_clR C hA hl.1 hG [.int x29, .int x62] [] (m8_turnMirror E l hst x29 x62 S59.g) QCL_132.1 QCL_132.2 KC8 rfl (rm2 (by decide) (by decide)) (Nat.le_of_ble_eq_true rfl) rfl dL_act_268 hU h (fun x63 S64 H locs cells slots hG h => ?_)
          refine lv_iload hx hb dL_act_271 (lv_at hl 0 rfl) ?_
          refine lv_icmp_ne (tgt := 280) hx hb dL_act_273 (by decide) (fun g65 => ?_) (fun g65 => ?_)
          · have h := (if_inv h).2 g65
            refine lv_iconst (v := 0) hx hb dL_act_280 (by decide) ?_
            exact r2_iret C hF hG hr rfl dL_act_281 h
          · have h := (if_inv h).1 g65
            refine lv_iconst (v := 1) hx hb dL_act_276 (by decide) ?_
            refine lv_goto (tgt := 281) hx hb dL_act_277 (by decide) ?_
            exact r2_iret C hF hG hr rfl dL_act_281 h
        have h := (if_inv h).2 g50
        by_cases g66 : v4 = 4
        · have h := (if_inv h).1 g66
          refine lv_tableIn (off := 198) (tgt := 282) hx hb dL_act_84 (by rw [g66]; decide +kernel) (by rw [g66]; decide +kernel) (by rw [g66]; decide +kernel) (by decide) ?_
          refine lv_aload_n hx hb dL_act_282 rfl (lv_at hl 3 rfl) ?_
          refine lv_bipush (v := 101) hx hb dL_act_283 (by decide) ?_
          refine r2_cVI C hA hl.1 hG hv2 [.int 101] [] (mX9_next E l v2 101 S (RAq hG hv2)) (by rw [hv2.1]) QLL_35 KP11 rfl (rm2 (by decide) (by decide)) (Nat.le_of_ble_eq_true rfl) rfl dL_act_285 hU h (fun x69 S67 H locs ad68 cells slots hG hx9 h => ?_)
          have hv1 := hv1.up hx9
          have hv2 := hv2.up hx9
          refine lv_istore (lv' := [(6, .int x69), (5, .int x29), (0, .ref (E.ad 0)), (1, .ref bv1), (2, .ref bv2), (3, .int v3), (4, .int v4)]) hx hb dL_act_288 hl (by decide) rfl (fun ls hl => ?_)
          refine lv_aload_n hx hb dL_act_290 rfl (lv_at hl 3 rfl) ?_
          refine r2_gN C hG hv1 FQL_129 rfl dL_act_291 h (fun c70 bc70 h_c70 h => ?_)
          refine lv_iload hx hb dL_act_294 (lv_at hl 1 rfl) ?_
          refine r2_gAA C hG h_c70 dL_act_296 h (fun c71 bc71 h_c71 h => ?_)
          refine lv_iconst (v := 0) hx hb dL_act_297 (by decide) ?_
          refine lv_iconst (v := 0) hx hb dL_act_298 (by decide) ?_
          refine lv_aload_n hx hb dL_act_299 rfl (lv_at hl 3 rfl) ?_
          refine r2_gN C hG hv1 FQL_129 rfl dL_act_300 h (fun c72 bc72 h_c72 h => ?_)
          refine lv_iload hx hb dL_act_303 (lv_at hl 1 rfl) ?_
          refine r2_gAA C hG h_c72 dL_act_305 h (fun c73 bc73 h_c73 h => ?_)
          refine lv_iconst (v := 0) hx hb dL_act_306 (by decide) ?_
          refine r2_gAI C hG h_c73 dL_act_307 h (fun x74 h => ?_)
          refine lv_iload hx hb dL_act_308 (lv_at hl 0 rfl) ?_
          refine lv_isub hx hb dL_act_310 ?_
          refine r_max C hl.1 QLL_135 ⟨(Nat.le_of_ble_eq_true rfl), (Nat.le_of_ble_eq_true rfl), (GLr hG).1, (GLr hG).2⟩ dL_act_311 ?_
          refine r_nm h (fun x75 h => ?_)
          refine r2_pAI C hG h_c71 dL_act_314 h (fun H locs S76 hG h => ?_)
          refine lv_aload_n hx hb dL_act_315 rfl (lv_at hl 2 rfl) ?_
          refine lv_iload hx hb dL_act_316 (lv_at hl 1 rfl) ?_
          refine lv_iload hx hb dL_act_318 (lv_at hl 0 rfl) ?_
          refine r2_clR C hA hl.1 hG [.int x29, .int x69] [] (m8_dustMirror E l hst x29 x69 S76.g) QCL_138.1 QCL_138.2 KC8 rfl (rm2 (by decide) (by decide)) (Nat.le_of_ble_eq_true rfl) rfl dL_act_320 hU h (fun x77 S78 H locs cells slots hG h => ?_)
          refine lv_aload_n hx hb dL_act_323 rfl (lv_at hl 3 rfl) ?_
          refine r2_gN C hG hv1 FQL_129 rfl dL_act_324 h (fun c79 bc79 h_c79 h => ?_)
          refine lv_iload hx hb dL_act_327 (lv_at hl 1 rfl) ?_
          refine r2_gAA C hG h_c79 dL_act_329 h (fun c80 bc80 h_c80 h => ?_)
          refine lv_iconst (v := 0) hx hb dL_act_330 (by decide) ?_
          refine r2_gAI C hG h_c80 dL_act_331 h (fun x81 h => ?_)
          refine lv_icmp_ne (tgt := 339) hx hb dL_act_332 (by decide) (fun g82 => ?_) (fun g82 => ?_)
          · have h := (if_inv h).2 g82
            refine lv_iconst (v := 0) hx hb dL_act_339 (by decide) ?_
            exact r2_iret C hF hG hr rfl dL_act_340 h
          · have h := (if_inv h).1 g82
            refine lv_iconst (v := 1) hx hb dL_act_335 (by decide) ?_
            refine lv_goto (tgt := 340) hx hb dL_act_336 (by decide) ?_
            exact r2_iret C hF hG hr rfl dL_act_340 h
        have h := (if_inv h).2 g66
        refine lv_tableOut (tgt := 341) hx hb dL_act_84 (tab_out 5 (by decide) (lt_s (lt_s (lt_s (lt_s (lt_s lt_0 (nei g32 (by decide))) (nei g33 (by decide))) (nei g34 (by decide))) (nei g50 (by decide))) (nei g66 (by decide)))) (by decide) ?_
        refine lv_aload_n hx hb dL_act_341 rfl (lv_at hl 3 rfl) ?_
        refine lv_iload_n hx hb dL_act_342 rfl (lv_at hl 4 rfl) ?_
        refine r2_cVI C hA hl.1 hG hv2 [.int v3] [] (mX9_next E l v2 v3 S (RAq hG hv2)) (by rw [hv2.1]) QLL_35 KP11 rfl (rm2 (by decide) (by decide)) (Nat.le_of_ble_eq_true rfl) rfl dL_act_343 hU h (fun x85 S83 H locs ad84 cells slots hG hx9 h => ?_)
        have hv1 := hv1.up hx9
        have hv2 := hv2.up hx9
        refine lv_istore (lv' := [(6, .int x85), (5, .int x29), (0, .ref (E.ad 0)), (1, .ref bv1), (2, .ref bv2), (3, .int v3), (4, .int v4)]) hx hb dL_act_346 hl (by decide) rfl (fun ls hl => ?_)
        refine lv_aload_n hx hb dL_act_348 rfl (lv_at hl 3 rfl) ?_
        refine lv_iload hx hb dL_act_349 (lv_at hl 1 rfl) ?_
        refine r2_cVI C hA hl.1 hG hv1 [.int x29] [] (mX12_place E l v1 x29 S83 (RAq hG hv1)) (by rw [hv1.1]) QLL_141 KP14 rfl (rm2 (by decide) (by decide)) (Nat.le_of_ble_eq_true rfl) rfl dL_act_351 hU h (fun x88 S86 H locs ad87 cells slots hG hx9 h => ?_)
        have hv1 := hv1.up hx9
        have hv2 := hv2.up hx9
        refine lv_istore (lv' := [(7, .int x88), (6, .int x85), (5, .int x29), (0, .ref (E.ad 0)), (1, .ref bv1), (2, .ref bv2), (3, .int v3), (4, .int v4)]) hx hb dL_act_354 hl (by decide) rfl (fun ls hl => ?_)
        refine lv_aload_n hx hb dL_act_356 rfl (lv_at hl 4 rfl) ?_
        refine lv_iload hx hb dL_act_357 (lv_at hl 2 rfl) ?_
        refine lv_iload hx hb dL_act_359 (lv_at hl 1 rfl) ?_
        refine r2_cVV C hA hl.1 hG hv1 [.int x29, .int x85] [] (mX12_move E l v1 x29 x85 S86 (RAq hG hv1)) (by rw [hv1.1]) QLL_144 KP14 rfl (rm2 (by decide) (by decide)) (Nat.le_of_ble_eq_true rfl) rfl dL_act_361 hU h (fun S89 H locs ad90 cells slots hG hx9 h => ?_)
        have hv1 := hv1.up hx9
        have hv2 := hv2.up hx9
        refine lv_aload_n hx hb dL_act_364 rfl (lv_at hl 3 rfl) ?_
        refine lv_iload hx hb dL_act_365 (lv_at hl 2 rfl) ?_
        refine lv_iload hx hb dL_act_367 (lv_at hl 1 rfl) ?_
        refine r2_clR C hA hl.1 hG [.int x29, .int x85] [] (m8_moveMirror E l hst x29 x85 S89.g) QCL_147.1 QCL_147.2 KC8 rfl (rm2 (by decide) (by decide)) (Nat.le_of_ble_eq_true rfl) rfl dL_act_369 hU h (fun x91 S92 H locs cells slots hG h => ?_)
        refine lv_iload hx hb dL_act_372 (lv_at hl 0 rfl) ?_
        refine lv_icmp_ne (tgt := 381) hx hb dL_act_374 (by decide) (fun g93 => ?_) (fun g93 => ?_)
        · have h := (if_inv h).2 g93
          refine lv_iconst (v := 0) hx hb dL_act_381 (by decide) ?_
          exact r2_iret C hF hG hr rfl dL_act_382 h
        · have h := (if_inv h).1 g93
          refine lv_iconst (v := 1) hx hb dL_act_377 (by decide) ?_
          refine lv_goto (tgt := 382) hx hb dL_act_378 (by decide) ?_
          exact r2_iret C hF hG hr rfl dL_act_382 h
      · have h := (if_inv h).2 g31
        exact j39 v1 v2 S _ _ _ _ _ _ _ _ _ hG hv1 hv2 (lv_sub hl [1, 2, 3] rfl) h
  refine lv_aload_n hx hb dL_act_0 rfl (lv_at hl 1 rfl) ?_
  refine r2_gN C hG h1 FQL_98 rfl dL_act_1 h (fun c94 bc94 h_c94 h => ?_)
  refine r2_len C hG h_c94 100000 (Or.inl rfl) dL_act_4 h (fun x95 h => ?_)
  refine lv_istore_n (lv' := [(3, .int x95), (0, .ref (E.ad 0)), (1, .ref b1), (2, .ref b2)]) hx hb dL_act_5 rfl hl (by decide) rfl (fun ls hl => ?_)
  refine lv_aload_n hx hb dL_act_6 rfl (lv_at hl 3 rfl) ?_
  refine lv_bipush (v := 9) hx hb dL_act_7 (by decide) ?_
  refine r2_cVI C hA hl.1 hG h2 [.int 9] [] (mX9_next E l c2 9 S0 (RAq hG h2)) (by rw [h2.1]) QLL_35 KP11 rfl (rm2 (by decide) (by decide)) (Nat.le_of_ble_eq_true rfl) rfl dL_act_9 hU h (fun x98 S96 H locs ad97 cells slots hG hx9 h => ?_)
  have h1 := h1.up hx9
  have h2 := h2.up hx9
  refine lv_istore (lv' := [(4, .int x98), (3, .int x95), (0, .ref (E.ad 0)), (1, .ref b1), (2, .ref b2)]) hx hb dL_act_12 hl (by decide) rfl (fun ls hl => ?_)
  refine lv_iload_n hx hb dL_act_14 rfl (lv_at hl 1 rfl) ?_
  refine lv_if_ne (tgt := 22) hx hb dL_act_15 (by decide) (fun g99 => ?_) (fun g99 => ?_)
  · have h := (if_inv h).2 g99
    refine lv_aload_n hx hb dL_act_22 rfl (lv_at hl 4 rfl) ?_
    refine lv_iload_n hx hb dL_act_23 rfl (lv_at hl 1 rfl) ?_
    refine r2_cVI C hA hl.1 hG h2 [.int x95] [] (mX9_next E l c2 x95 S96 (RAq hG h2)) (by rw [h2.1]) QLL_35 KP11 rfl (rm2 (by decide) (by decide)) (Nat.le_of_ble_eq_true rfl) rfl dL_act_24 hU h (fun x102 S100 H locs ad101 cells slots hG hx9 h => ?_)
    have h1 := h1.up hx9
    have h2 := h2.up hx9
    exact j27 c1 c2 x95 x98 x102 S100 _ _ _ _ _ _ _ _ _ hG h1 h2 (lv_sub hl [2, 3, 4, 1, 0] rfl) h
  · have h := (if_inv h).1 g99
    refine lv_iconst (v := 0) hx hb dL_act_18 (by decide) ?_
    refine lv_goto (tgt := 27) hx hb dL_act_19 (by decide) ?_
    exact j27 c1 c2 x95 x98 0 S96 _ _ _ _ _ _ _ _ _ hG h1 h2 (lv_sub hl [2, 3, 4, 1, 0] rfl) h
def kX12_isSame_420  (vt0 : UInt64) (vt1 : UInt64) (S : ZS) : Option (Int32 × ZS) :=
      if (Op.cmpValue (FP.dcmp vt1 vt0) .l) = 0 then
        some (1, S)
      else
        some (0, S)
def kX12_isSame_395  (v0 : Nat) (v2 : Int32) (S : ZS) : Option (Int32 × ZS) :=
      clI S (k8_meanClarity S.g) fun x2 S3 =>
      gN S3 v0 14 3 fun c4 =>
      aL S3 c4 100000 fun x5 =>
      if x5 = 0 then
        kX12_isSame_420 FP.dconst0 x2 S3
      else
        gN S3 v0 14 3 fun c7 =>
        aL S3 c7 100000 fun x8 =>
        ddv (FP.i2d v2) (FP.i2d x8) fun x9 =>
        kX12_isSame_420 x9 x2 S3
def kX12_isSame_215  : Nat → Nat → Int32 → Int32 → Int32 → ZS → Option (Int32 × ZS)
  | 0, _, _, _, _, _ => none
  | f + 1, v0, v2, v3, v5, S =>
        gN S v0 14 4 fun c10 =>
        aL S c10 400000 fun x11 =>
        if x11 ≤ v5 then
          (k8_mirrors S.g).bind fun x13 =>
          gN S v0 14 3 fun c14 =>
          aL S c14 100000 fun x15 =>
          if x13 = x15 then
            (k8_orders S.g).bind fun x17 =>
            gN S v0 14 8 fun c18 =>
            aL S c18 500000 fun x19 =>
            if x17 = x19 then
              (k8_minutes S.g).bind fun x21 =>
              gI S v0 14 6 fun x22 =>
              if x21 = x22 then
                (k8_tapeBytes S.g).bind fun x24 =>
                if x24 = 0 then
                  clI S (k8_lightAtEnd S.g) fun x26 S27 =>
                  rcv S27 v0 14 <| b2 Prod.snd (kX12_end v0 S27) fun x30 S28 =>
                  if x26 = x30 then
                    clI S28 (k8_tiltAtEnd S28.g) fun x32 S33 =>
                    gN S33 v0 14 3 fun c34 =>
                    aL S33 c34 100000 fun x35 =>
                    rcv S33 v0 14 <| b2 Prod.snd (kX12_tilt v0 x35 S33) fun x38 S36 =>
                    if x32 = x38 then
                      clI S36 (k8_isSeen S36.g) fun x40 S41 =>
                      rcv S41 v0 14 <| b2 Prod.snd (kX12_isSeen v0 S41) fun x44 S42 =>
                      if x40 = x44 then
                        (k8_jobs S42.g).bind fun x46 =>
                        gN S42 v0 14 4 fun c47 =>
                        aL S42 c47 400000 fun x48 =>
                        if x46 = x48 then
                          (k8_jobsDone S42.g).bind fun x50 =>
                          gI S42 v0 14 7 fun x51 =>
                          if x50 = x51 then
                            (k8_minutesToGo S42.g).bind fun x53 =>
                            gI S42 v0 14 5 fun x54 =>
                            if x53 = x54 then
                              if v3 < 0 then
                                kX12_isSame_395 v0 v2 S42
                              else
                                clR Prod.snd S42 3 18 (k8_worstMirror S42.g) fun x57 S58 =>
                                if x57 = v3 then
                                  kX12_isSame_395 v0 v2 S58
                                else
                                  some (0, S58)
                            else
                              some (0, S42)
                          else
                            some (0, S42)
                        else
                          some (0, S42)
                      else
                        some (0, S42)
                    else
                      some (0, S36)
                  else
                    some (0, S28)
                else
                  some (0, S)
              else
                some (0, S)
            else
              some (0, S)
          else
            some (0, S)
        else
          clR Prod.snd S 3 18 (k8_kindOfJob v5 S.g) fun x60 S61 =>
          gN S61 v0 14 4 fun c62 =>
          aN S61 c62 400000 v5 fun c63 =>
          aG S61 c63 100000 0 fun x64 =>
          if x60 = x64 then
            clR Prod.snd S61 3 18 (k8_mirrorOfJob v5 S61.g) fun x66 S67 =>
            gN S67 v0 14 4 fun c68 =>
            aN S67 c68 400000 v5 fun c69 =>
            aG S67 c69 100000 1 fun x70 =>
            if x66 = x70 then
              bd (v5 + 1) fun x72 =>
              kX12_isSame_215 f v0 v2 v3 x72 S67
            else
              some (0, S67)
          else
            some (0, S61)
def kX12_isSame_10  : Nat → Nat → Int32 → Int32 → Int32 → Int32 → ZS → Option (Int32 × ZS)
  | 0, _, _, _, _, _, _ => none
  | f + 1, v0, v2, v3, v4, v5, S =>
        gN S v0 14 3 fun c73 =>
        aL S c73 100000 fun x74 =>
        if x74 ≤ v5 then
          kX12_isSame_215 FU v0 v2 v3 0 S
        else
          gN S v0 14 3 fun c76 =>
          aG S c76 100000 v5 fun x77 =>
          gN S v0 14 2 fun c78 =>
          aN S c78 400000 x77 fun c79 =>
          rcv S v0 14 <| b2 Prod.snd (kX12_light v0 v5 S) fun x82 S80 =>
          rcv S80 v0 14 <| b2 Prod.snd (kX12_light v0 (v5 + 1) S80) fun x85 S83 =>
          clR Prod.snd S83 3 18 (k8_mirrorAt v5 S83.g) fun x86 S87 =>
          if x86 = x77 then
            clR Prod.snd S87 3 18 (k8_placeOf x77 S87.g) fun x89 S90 =>
            if x89 = v5 then
              clR Prod.snd S90 3 18 (k8_clarityOf x77 S90.g) fun x92 S93 =>
              aG S93 c79 100000 0 fun x94 =>
              if x92 = x94 then
                clR Prod.snd S93 3 18 (k8_bestClarityOf x77 S93.g) fun x96 S97 =>
                aG S97 c79 100000 1 fun x98 =>
                if x96 = x98 then
                  clR Prod.snd S97 3 18 (k8_offsetOf x77 S97.g) fun x100 S101 =>
                  aG S101 c79 100000 2 fun x102 =>
                  if x100 = x102 then
                    clR Prod.snd S101 3 18 (k8_lightBehind x77 S101.g) fun x104 S105 =>
                    if x104 = x85 then
                      clR Prod.snd S105 3 18 (k8_lostAt x77 S105.g) fun x107 S108 =>
                      if x107 = (x82 - x85) then
                        clR Prod.snd S108 3 18 (k8_tiltBehind x77 S108.g) fun x110 S111 =>
                        rcv S111 v0 14 <| b2 Prod.snd (kX12_tilt v0 (v5 + 1) S111) fun x114 S112 =>
                        if x110 = x114 then
                          clR Prod.snd S112 3 18 (k8_isCovered x77 S112.g) fun x116 S117 =>
                          rcv S117 v0 14 <| b2 Prod.snd (kX12_isCovered v0 x77 S117) fun x120 S118 =>
                          if x116 = x120 then
                            aG S118 c79 100000 0 fun x122 =>
                            bd (v2 + x122) fun x123 =>
                            if v4 < (x82 - x85) then
                              bd (x82 - x85) fun x125 =>
                              bd (v5 + 1) fun x126 =>
                              kX12_isSame_10 f v0 x123 x77 x125 x126 S118
                            else
                              bd (v5 + 1) fun x127 =>
                              kX12_isSame_10 f v0 x123 v3 v4 x127 S118
                          else
                            some (0, S118)
                        else
                          some (0, S112)
                      else
                        some (0, S108)
                    else
                      some (0, S105)
                  else
                    some (0, S101)
                else
                  some (0, S97)
              else
                some (0, S93)
            else
              some (0, S90)
          else
            some (0, S87)
def kX12_isSame (c0 : Nat) (S0 : ZS) : Option (Int32 × ZS) :=
  chk Prod.snd S0 <|
  kX12_isSame_10 FU c0 0 (-1) (-1) 0 S0
set_option maxRecDepth 100000 in
set_option maxHeartbeats 8000000 in
theorem mX12_isSame (E : EV) (l : Launch) (hst : l.stackTraces = false) (c0 : Nat) (S0 : ZS) (q0 : c0 ≠ 0 ∧ rk S0.n c0) : ∀ u, kX12_isSame c0 S0 = some u → MIL E l yX12_isSame cX12_isSame 10 (Option.some Jvm.ClassFile.FieldType.boolean) 8 (fun ad => [.ref (rA E ad c0), .ref (E.ad 0)]) S0 u := by
  intro u h
  unfold kX12_isSame at h
  obtain ⟨hcw, h⟩ := chk_inv h
  refine ML2.of (by decide +kernel) (fun ad => Nat.le_of_ble_eq_true rfl) hcw ?_
  intro p e s m args below meth c ad F hF C hA hr hnm ls hl hG
  have C : Cx p s m args meth c cX12_isSame 10 RX12 E := C
  have hx := C.1
  have hb := C.2.1
  have hU : F.uc = (u.2).c ∧ F.uw = (u.2).w := ⟨hF.2.2.2.2.1, hF.2.2.2.2.2⟩
  have hl : lv_has ls 10 [(0, .ref (rA E ad c0)), (1, .ref (E.ad 0))] := hl
  obtain ⟨b0, h0, e0⟩ : ∃ b, RA E ad S0.n c0 b ∧ b = rA E ad c0 := ⟨_, RA.of q0.1 q0.2, rfl⟩
  rw [← e0] at hl
  have j420 : ∀ (vt0 : UInt64) (vt1 : UInt64) (S : ZS) (ad : Nat → Nat) (N : Nat) (H : Heap) (locs : List Loc) (ls : Array Slot) (cells slots : Nat), GL E s F H locs ad N S cells slots → lv_has ls 10 [] → kX12_isSame_420 vt0 vt1 S = some u → W p l e (F.R 8) s m args below meth c H locs cells slots (MQ below (QIL E s.heap.size F.ad S0 u) args s (F.c - F.uc) (F.w - F.uw) F.A) (F0 m 420 ls [.double vt0, .double vt1]) := by
    intro vt0 vt1 S ad N H locs ls cells slots hG hl h
    unfold kX12_isSame_420 at h
    refine lv_dcmp hx hb dX12_isSame_420 ?_
    refine lv_if_ne (tgt := 428) hx hb dX12_isSame_421 (by decide) (fun g1 => ?_) (fun g1 => ?_)
    · have h := (if_inv h).2 g1
      refine lv_iconst (v := 0) hx hb dX12_isSame_428 (by decide) ?_
      exact r2_iret C hF hG hr rfl dX12_isSame_429 h
    · have h := (if_inv h).1 g1
      refine lv_iconst (v := 1) hx hb dX12_isSame_424 (by decide) ?_
      refine lv_goto (tgt := 429) hx hb dX12_isSame_425 (by decide) ?_
      exact r2_iret C hF hG hr rfl dX12_isSame_429 h
  have j395 : ∀ (v0 : Nat) (v2 : Int32) (S : ZS) (ad : Nat → Nat) (N : Nat) (bv0 : Nat) (H : Heap) (locs : List Loc) (ls : Array Slot) (cells slots : Nat), GL E s F H locs ad N S cells slots → RA E ad N v0 bv0 → lv_has ls 10 [(0, .ref bv0), (1, .ref (E.ad 0)), (2, .int v2)] → kX12_isSame_395 v0 v2 S = some u → W p l e (F.R 8) s m args below meth c H locs cells slots (MQ below (QIL E s.heap.size F.ad S0 u) args s (F.c - F.uc) (F.w - F.uw) F.A) (F0 m 395 ls []) := by
    intro v0 v2 S ad N bv0 H locs ls cells slots hG hv0 hl h
    unfold kX12_isSame_395 at h
    refine lv_aload_n hx hb dX12_isSame_395 rfl (lv_at hl 1 rfl) ?_
    refine r2_clD C hA hl.1 hG [] [] (m8_meanClarity E l S.g) QCX12_143.1 QCX12_143.2 KC8 rfl (rm2 (by decide) (by decide)) (Nat.le_of_ble_eq_true rfl) rfl dX12_isSame_396 h (fun x2 S3 H locs hG h => ?_)
    refine lv_aload_n hx hb dX12_isSame_399 rfl (lv_at hl 0 rfl) ?_
    refine r2_gN C hG hv0 FQX12_22 rfl dX12_isSame_400 h (fun c4 bc4 h_c4 h => ?_)
    refine r2_len C hG h_c4 100000 (Or.inl rfl) dX12_isSame_403 h (fun x5 h => ?_)
    refine lv_if_ne (tgt := 411) hx hb dX12_isSame_404 (by decide) (fun g6 => ?_) (fun g6 => ?_)
    · have h := (if_inv h).2 g6
      refine lv_iload_n hx hb dX12_isSame_411 rfl (lv_at hl 2 rfl) ?_
      refine lv_i2d hx hb dX12_isSame_412 ?_
      refine lv_aload_n hx hb dX12_isSame_413 rfl (lv_at hl 0 rfl) ?_
      refine r2_gN C hG hv0 FQX12_22 rfl dX12_isSame_414 h (fun c7 bc7 h_c7 h => ?_)
      refine r2_len C hG h_c7 100000 (Or.inl rfl) dX12_isSame_417 h (fun x8 h => ?_)
      refine lv_i2d hx hb dX12_isSame_418 ?_
      refine r_ddiv C dX12_isSame_419 h (fun x9 h => ?_)
      exact j420 x9 x2 S3 _ _ _ _ _ _ _ hG (lv_sub hl [] rfl) h
    · have h := (if_inv h).1 g6
      refine lv_dconst0 hx hb dX12_isSame_407 ?_
      refine lv_goto (tgt := 420) hx hb dX12_isSame_408 (by decide) ?_
      exact j420 FP.dconst0 x2 S3 _ _ _ _ _ _ _ hG (lv_sub hl [] rfl) h
  have j215 : ∀ f : Nat, ∀ (v0 : Nat) (v2 : Int32) (v3 : Int32) (v5 : Int32) (S : ZS) (ad : Nat → Nat) (N : Nat) (bv0 : Nat) (H : Heap) (locs : List Loc) (ls : Array Slot) (cells slots : Nat), GL E s F H locs ad N S cells slots → RA E ad N v0 bv0 → lv_has ls 10 [(0, .ref bv0), (1, .ref (E.ad 0)), (2, .int v2), (3, .int v3), (5, .int v5)] → kX12_isSame_215 f v0 v2 v3 v5 S = some u → W p l e (F.R 8) s m args below meth c H locs cells slots (MQ below (QIL E s.heap.size F.ad S0 u) args s (F.c - F.uc) (F.w - F.uw) F.A) (F0 m 215 ls []) := by
    intro f
    induction f with
    | zero =>
      intro v0 v2 v3 v5 S ad N bv0 H locs ls cells slots hG hv0 hl h
      unfold kX12_isSame_215 at h
      cases h
    | succ f ih =>
      intro v0 v2 v3 v5 S ad N bv0 H locs ls cells slots hG hv0 hl h
      unfold kX12_isSame_215 at h
      refine lv_iload hx hb dX12_isSame_215 (lv_at hl 4 rfl) ?_
      refine lv_aload_n hx hb dX12_isSame_217 rfl (lv_at hl 0 rfl) ?_
      refine r2_gN C hG hv0 FQX12_25 rfl dX12_isSame_218 h (fun c10 bc10 h_c10 h => ?_)
      refine r2_len C hG h_c10 400000 (Or.inr (Or.inr (Or.inr (Or.inl rfl)))) dX12_isSame_221 h (fun x11 h => ?_)
      refine lv_icmp_ge (tgt := 269) hx hb dX12_isSame_222 (by decide) (fun g12 => ?_) (fun g12 => ?_)
      · have h := (if_inv h).1 g12
        refine lv_aload_n hx hb dX12_isSame_269 rfl (lv_at hl 1 rfl) ?_
        refine r2_clP C hA hl.1 hG [] [] (m8_mirrors E l S.g) QCX12_112.1 QCX12_112.2 KC8 rfl (rm2 (by decide) (by decide)) (Nat.le_of_ble_eq_true rfl) rfl dX12_isSame_270 h (fun x13 H locs hG h => ?_)
        refine lv_aload_n hx hb dX12_isSame_273 rfl (lv_at hl 0 rfl) ?_
        refine r2_gN C hG hv0 FQX12_22 rfl dX12_isSame_274 h (fun c14 bc14 h_c14 h => ?_)
        refine r2_len C hG h_c14 100000 (Or.inl rfl) dX12_isSame_277 h (fun x15 h => ?_)
        refine lv_icmp_ne (tgt := 428) hx hb dX12_isSame_278 (by decide) (fun g16 => ?_) (fun g16 => ?_)
        · have h := (if_inv h).2 g16
          refine lv_iconst (v := 0) hx hb dX12_isSame_428 (by decide) ?_
          exact r2_iret C hF hG hr rfl dX12_isSame_429 h
        · have h := (if_inv h).1 g16
          refine lv_aload_n hx hb dX12_isSame_281 rfl (lv_at hl 1 rfl) ?_
          refine r2_clP C hA hl.1 hG [] [] (m8_orders E l S.g) QCX12_114.1 QCX12_114.2 KC8 rfl (rm2 (by decide) (by decide)) (Nat.le_of_ble_eq_true rfl) rfl dX12_isSame_282 h (fun x17 H locs hG h => ?_)
          refine lv_aload_n hx hb dX12_isSame_285 rfl (lv_at hl 0 rfl) ?_
          refine r2_gN C hG hv0 FQX12_30 rfl dX12_isSame_286 h (fun c18 bc18 h_c18 h => ?_)
          refine r2_len C hG h_c18 500000 (Or.inr (Or.inr (Or.inr (Or.inr rfl)))) dX12_isSame_289 h (fun x19 h => ?_)
          refine lv_icmp_ne (tgt := 428) hx hb dX12_isSame_290 (by decide) (fun g20 => ?_) (fun g20 => ?_)
          · have h := (if_inv h).2 g20
            refine lv_iconst (v := 0) hx hb dX12_isSame_428 (by decide) ?_
            exact r2_iret C hF hG hr rfl dX12_isSame_429 h
          · have h := (if_inv h).1 g20
            refine lv_aload_n hx hb dX12_isSame_293 rfl (lv_at hl 1 rfl) ?_
            refine r2_clP C hA hl.1 hG [] [] (m8_minutes E l S.g) QCX12_116.1 QCX12_116.2 KC8 rfl (rm2 (by decide) (by decide)) (Nat.le_of_ble_eq_true rfl) rfl dX12_isSame_294 h (fun x21 H locs hG h => ?_)
            refine lv_aload_n hx hb dX12_isSame_297 rfl (lv_at hl 0 rfl) ?_
            refine r2_gI C hG hv0 FQX12_42 rfl dX12_isSame_298 h (fun x22 h => ?_)
            refine lv_icmp_ne (tgt := 428) hx hb dX12_isSame_301 (by decide) (fun g23 => ?_) (fun g23 => ?_)
            · have h := (if_inv h).2 g23
              refine lv_iconst (v := 0) hx hb dX12_isSame_428 (by decide) ?_
              exact r2_iret C hF hG hr rfl dX12_isSame_429 h
            · have h := (if_inv h).1 g23
              refine lv_aload_n hx hb dX12_isSame_304 rfl (lv_at hl 1 rfl) ?_
              refine r2_clP C hA hl.1 hG [] [] (m8_tapeBytes E l S.g) QCX12_118.1 QCX12_118.2 KC8 rfl (rm2 (by decide) (by decide)) (Nat.le_of_ble_eq_true rfl) rfl dX12_isSame_305 h (fun x24 H locs hG h => ?_)
              refine lv_if_ne (tgt := 428) hx hb dX12_isSame_308 (by decide) (fun g25 => ?_) (fun g25 => ?_)
              · have h := (if_inv h).2 g25
                refine lv_iconst (v := 0) hx hb dX12_isSame_428 (by decide) ?_
                exact r2_iret C hF hG hr rfl dX12_isSame_429 h
              · have h := (if_inv h).1 g25
                refine lv_aload_n hx hb dX12_isSame_311 rfl (lv_at hl 1 rfl) ?_
                refine r2_clI C hA hl.1 hG [] [] (m8_lightAtEnd E l S.g) QCX12_121.1 QCX12_121.2 KC8 rfl (rm2 (by decide) (by decide)) (Nat.le_of_ble_eq_true rfl) rfl dX12_isSame_312 h (fun x26 S27 H locs hG h => ?_)
                refine lv_aload_n hx hb dX12_isSame_315 rfl (lv_at hl 0 rfl) ?_
                refine r2_cVI C hA hl.1 hG hv0 [] [.int x26] (mX12_end E l v0 S27 (RAq hG hv0)) (by rw [hv0.1]) QLX12_56 KP14 rfl (rm2 (by decide) (by decide)) (Nat.le_of_ble_eq_true rfl) rfl dX12_isSame_316 hU h (fun x30 S28 H locs ad29 cells slots hG hx9 h => ?_)
                have hv0 := hv0.up hx9
                refine lv_icmp_ne (tgt := 428) hx hb dX12_isSame_319 (by decide) (fun g31 => ?_) (fun g31 => ?_)
                · have h := (if_inv h).2 g31
                  refine lv_iconst (v := 0) hx hb dX12_isSame_428 (by decide) ?_
                  exact r2_iret C hF hG hr rfl dX12_isSame_429 h
                · have h := (if_inv h).1 g31
                  refine lv_aload_n hx hb dX12_isSame_322 rfl (lv_at hl 1 rfl) ?_
                  refine r2_clI C hA hl.1 hG [] [] (m8_tiltAtEnd E l S28.g) QCX12_124.1 QCX12_124.2 KC8 rfl (rm2 (by decide) (by decide)) (Nat.le_of_ble_eq_true rfl) rfl dX12_isSame_323 h (fun x32 S33 H locs hG h => ?_)
                  refine lv_aload_n hx hb dX12_isSame_326 rfl (lv_at hl 0 rfl) ?_
                  refine lv_aload_n hx hb dX12_isSame_327 rfl (lv_at hl 0 rfl) ?_
                  refine r2_gN C hG hv0 FQX12_22 rfl dX12_isSame_328 h (fun c34 bc34 h_c34 h => ?_)
                  refine r2_len C hG h_c34 100000 (Or.inl rfl) dX12_isSame_331 h (fun x35 h => ?_)
                  refine r2_cVI C hA hl.1 hG hv0 [.int x35] [.int x32] (mX12_tilt E l v0 x35 S33 (RAq hG hv0)) (by rw [hv0.1]) QLX12_60 KP14 rfl (rm2 (by decide) (by decide)) (Nat.le_of_ble_eq_true rfl) rfl dX12_isSame_332 hU h (fun x38 S36 H locs ad37 cells slots hG hx9 h => ?_)
                  have hv0 := hv0.up hx9
                  refine lv_icmp_ne (tgt := 428) hx hb dX12_isSame_335 (by decide) (fun g39 => ?_) (fun g39 => ?_)
                  · have h := (if_inv h).2 g39
                    refine lv_iconst (v := 0) hx hb dX12_isSame_428 (by decide) ?_
                    exact r2_iret C hF hG hr rfl dX12_isSame_429 h
                  · have h := (if_inv h).1 g39
                    refine lv_aload_n hx hb dX12_isSame_338 rfl (lv_at hl 1 rfl) ?_
                    refine r2_clI C hA hl.1 hG [] [] (m8_isSeen E l S36.g) QCX12_127.1 QCX12_127.2 KC8 rfl (rm2 (by decide) (by decide)) (Nat.le_of_ble_eq_true rfl) rfl dX12_isSame_339 h (fun x40 S41 H locs hG h => ?_)
                    refine lv_aload_n hx hb dX12_isSame_342 rfl (lv_at hl 0 rfl) ?_
                    refine r2_cVI C hA hl.1 hG hv0 [] [.int x40] (mX12_isSeen E l v0 S41 (RAq hG hv0)) (by rw [hv0.1]) QLX12_131 KP14 rfl (rm2 (by decide) (by decide)) (Nat.le_of_ble_eq_true rfl) rfl dX12_isSame_343 hU h (fun x44 S42 H locs ad43 cells slots hG hx9 h => ?_)
                    have hv0 := hv0.up hx9
                    refine lv_icmp_ne (tgt := 428) hx hb dX12_isSame_346 (by decide) (fun g45 => ?_) (fun g45 => ?_)
                    · have h := (if_inv h).2 g45
                      refine lv_iconst (v := 0) hx hb dX12_isSame_428 (by decide) ?_
                      exact r2_iret C hF hG hr rfl dX12_isSame_429 h
                    · have h := (if_inv h).1 g45
                      refine lv_aload_n hx hb dX12_isSame_349 rfl (lv_at hl 1 rfl) ?_
                      refine r2_clP C hA hl.1 hG [] [] (m8_jobs E l S42.g) QCX12_132.1 QCX12_132.2 KC8 rfl (rm2 (by decide) (by decide)) (Nat.le_of_ble_eq_true rfl) rfl dX12_isSame_350 h (fun x46 H locs hG h => ?_)
                      refine lv_aload_n hx hb dX12_isSame_353 rfl (lv_at hl 0 rfl) ?_
                      refine r2_gN C hG hv0 FQX12_25 rfl dX12_isSame_354 h (fun c47 bc47 h_c47 h => ?_)
                      refine r2_len C hG h_c47 400000 (Or.inr (Or.inr (Or.inr (Or.inl rfl)))) dX12_isSame_357 h (fun x48 h => ?_)
                      refine lv_icmp_ne (tgt := 428) hx hb dX12_isSame_358 (by decide) (fun g49 => ?_) (fun g49 => ?_)
                      · have h := (if_inv h).2 g49
                        refine lv_iconst (v := 0) hx hb dX12_isSame_428 (by decide) ?_
                        exact r2_iret C hF hG hr rfl dX12_isSame_429 h
                      · have h := (if_inv h).1 g49
                        refine lv_aload_n hx hb dX12_isSame_361 rfl (lv_at hl 1 rfl) ?_
                        refine r2_clP C hA hl.1 hG [] [] (m8_jobsDone E l S42.g) QCX12_134.1 QCX12_134.2 KC8 rfl (rm2 (by decide) (by decide)) (Nat.le_of_ble_eq_true rfl) rfl dX12_isSame_362 h (fun x50 H locs hG h => ?_)
                        refine lv_aload_n hx hb dX12_isSame_365 rfl (lv_at hl 0 rfl) ?_
                        refine r2_gI C hG hv0 FQX12_45 rfl dX12_isSame_366 h (fun x51 h => ?_)
                        refine lv_icmp_ne (tgt := 428) hx hb dX12_isSame_369 (by decide) (fun g52 => ?_) (fun g52 => ?_)
                        · have h := (if_inv h).2 g52
                          refine lv_iconst (v := 0) hx hb dX12_isSame_428 (by decide) ?_
                          exact r2_iret C hF hG hr rfl dX12_isSame_429 h
                        · have h := (if_inv h).1 g52
                          refine lv_aload_n hx hb dX12_isSame_372 rfl (lv_at hl 1 rfl) ?_
                          refine r2_clP C hA hl.1 hG [] [] (m8_minutesToGo E l S42.g) QCX12_137.1 QCX12_137.2 KC8 rfl (rm2 (by decide) (by decide)) (Nat.le_of_ble_eq_true rfl) rfl dX12_isSame_373 h (fun x53 H locs hG h => ?_)
                          refine lv_aload_n hx hb dX12_isSame_376 rfl (lv_at hl 0 rfl) ?_
                          refine r2_gI C hG hv0 FQX12_39 rfl dX12_isSame_377 h (fun x54 h => ?_)
                          refine lv_icmp_ne (tgt := 428) hx hb dX12_isSame_380 (by decide) (fun g55 => ?_) (fun g55 => ?_)
                          · have h := (if_inv h).2 g55
                            refine lv_iconst (v := 0) hx hb dX12_isSame_428 (by decide) ?_
                            exact r2_iret C hF hG hr rfl dX12_isSame_429 h
                          · have h := (if_inv h).1 g55
                            refine lv_iload_n hx hb dX12_isSame_383 rfl (lv_at hl 3 rfl) ?_
                            refine lv_if_lt (tgt := 395) hx hb dX12_isSame_384 (by decide) (fun g56 => ?_) (fun g56 => ?_)
                            · have h := (if_inv h).1 g56
                              exact j395 v0 v2 S42 _ _ _ _ _ _ _ _ hG hv0 (lv_sub hl [0, 1, 2] rfl) h
                            · have h := (if_inv h).2 g56
                              refine lv_aload_n hx hb dX12_isSame_387 rfl (lv_at hl 1 rfl) ?_
                              refine r2_clR C hA hl.1 hG [] [] (m8_worstMirror E l hst S42.g) QCX12_140.1 QCX12_140.2 KC8 rfl (rm2 (by decide) (by decide)) (Nat.le_of_ble_eq_true rfl) rfl dX12_isSame_388 hU h (fun x57 S58 H locs cells slots hG h => ?_)
                              refine lv_iload_n hx hb dX12_isSame_391 rfl (lv_at hl 3 rfl) ?_
                              refine lv_icmp_ne (tgt := 428) hx hb dX12_isSame_392 (by decide) (fun g59 => ?_) (fun g59 => ?_)
                              · have h := (if_inv h).2 g59
                                refine lv_iconst (v := 0) hx hb dX12_isSame_428 (by decide) ?_
                                exact r2_iret C hF hG hr rfl dX12_isSame_429 h
                              · have h := (if_inv h).1 g59
                                exact j395 v0 v2 S58 _ _ _ _ _ _ _ _ hG hv0 (lv_sub hl [0, 1, 2] rfl) h
      · have h := (if_inv h).2 g12
        refine lv_aload_n hx hb dX12_isSame_225 rfl (lv_at hl 1 rfl) ?_
        refine lv_iload hx hb dX12_isSame_226 (lv_at hl 4 rfl) ?_
        refine r2_clR C hA hl.1 hG [.int v5] [] (m8_kindOfJob E l hst v5 S.g) QCX12_106.1 QCX12_106.2 KC8 rfl (rm2 (by decide) (by decide)) (Nat.le_of_ble_eq_true rfl) rfl dX12_isSame_228 hU h (fun x60 S61 H locs cells slots hG h => ?_)
        refine lv_aload_n hx hb dX12_isSame_231 rfl (lv_at hl 0 rfl) ?_
        refine r2_gN C hG hv0 FQX12_25 rfl dX12_isSame_232 h (fun c62 bc62 h_c62 h => ?_)
        refine lv_iload hx hb dX12_isSame_235 (lv_at hl 4 rfl) ?_
        refine r2_gAA C hG h_c62 dX12_isSame_237 h (fun c63 bc63 h_c63 h => ?_)
        refine lv_iconst (v := 0) hx hb dX12_isSame_238 (by decide) ?_
        refine r2_gAI C hG h_c63 dX12_isSame_239 h (fun x64 h => ?_)
        refine lv_icmp_ne (tgt := 261) hx hb dX12_isSame_240 (by decide) (fun g65 => ?_) (fun g65 => ?_)
        · have h := (if_inv h).2 g65
          refine lv_iconst (v := 0) hx hb dX12_isSame_261 (by decide) ?_
          exact r2_iret C hF hG hr rfl dX12_isSame_262 h
        · have h := (if_inv h).1 g65
          refine lv_aload_n hx hb dX12_isSame_243 rfl (lv_at hl 1 rfl) ?_
          refine lv_iload hx hb dX12_isSame_244 (lv_at hl 4 rfl) ?_
          refine r2_clR C hA hl.1 hG [.int v5] [] (m8_mirrorOfJob E l hst v5 S61.g) QCX12_109.1 QCX12_109.2 KC8 rfl (rm2 (by decide) (by decide)) (Nat.le_of_ble_eq_true rfl) rfl dX12_isSame_246 hU h (fun x66 S67 H locs cells slots hG h => ?_)
          refine lv_aload_n hx hb dX12_isSame_249 rfl (lv_at hl 0 rfl) ?_
          refine r2_gN C hG hv0 FQX12_25 rfl dX12_isSame_250 h (fun c68 bc68 h_c68 h => ?_)
          refine lv_iload hx hb dX12_isSame_253 (lv_at hl 4 rfl) ?_
          refine r2_gAA C hG h_c68 dX12_isSame_255 h (fun c69 bc69 h_c69 h => ?_)
          refine lv_iconst (v := 1) hx hb dX12_isSame_256 (by decide) ?_
          refine r2_gAI C hG h_c69 dX12_isSame_257 h (fun x70 h => ?_)
          refine lv_icmp_eq (tgt := 263) hx hb dX12_isSame_258 (by decide) (fun g71 => ?_) (fun g71 => ?_)
          · have h := (if_inv h).1 g71
            refine r_iinc (w := 1) (lv' := fun x72 => [(5, .int x72), (0, .ref bv0), (1, .ref (E.ad 0)), (2, .int v2), (3, .int v3)]) C dX12_isSame_263 hl (k := 4) rfl (by decide) (by decide) (fun _ => rfl) h (fun x72 ls hl h => ?_)
            refine lv_goto (tgt := 215) hx hb dX12_isSame_266 (by decide) ?_
            exact ih v0 v2 v3 x72 S67 _ _ _ _ _ _ _ _ hG hv0 (lv_sub hl [1, 2, 3, 4, 0] rfl) h
          · have h := (if_inv h).2 g71
            refine lv_iconst (v := 0) hx hb dX12_isSame_261 (by decide) ?_
            exact r2_iret C hF hG hr rfl dX12_isSame_262 h
  have j10 : ∀ f : Nat, ∀ (v0 : Nat) (v2 : Int32) (v3 : Int32) (v4 : Int32) (v5 : Int32) (S : ZS) (ad : Nat → Nat) (N : Nat) (bv0 : Nat) (H : Heap) (locs : List Loc) (ls : Array Slot) (cells slots : Nat), GL E s F H locs ad N S cells slots → RA E ad N v0 bv0 → lv_has ls 10 [(0, .ref bv0), (1, .ref (E.ad 0)), (2, .int v2), (3, .int v3), (4, .int v4), (5, .int v5)] → kX12_isSame_10 f v0 v2 v3 v4 v5 S = some u → W p l e (F.R 8) s m args below meth c H locs cells slots (MQ below (QIL E s.heap.size F.ad S0 u) args s (F.c - F.uc) (F.w - F.uw) F.A) (F0 m 10 ls []) := by
    intro f
    induction f with
    | zero =>
      intro v0 v2 v3 v4 v5 S ad N bv0 H locs ls cells slots hG hv0 hl h
      unfold kX12_isSame_10 at h
      cases h
    | succ f ih =>
      intro v0 v2 v3 v4 v5 S ad N bv0 H locs ls cells slots hG hv0 hl h
      unfold kX12_isSame_10 at h
      refine lv_iload hx hb dX12_isSame_10 (lv_at hl 5 rfl) ?_
      refine lv_aload_n hx hb dX12_isSame_12 rfl (lv_at hl 0 rfl) ?_
      refine r2_gN C hG hv0 FQX12_22 rfl dX12_isSame_13 h (fun c73 bc73 h_c73 h => ?_)
      refine r2_len C hG h_c73 100000 (Or.inl rfl) dX12_isSame_16 h (fun x74 h => ?_)
      refine lv_icmp_ge (tgt := 212) hx hb dX12_isSame_17 (by decide) (fun g75 => ?_) (fun g75 => ?_)
      · have h := (if_inv h).1 g75
        refine lv_iconst (v := 0) hx hb dX12_isSame_212 (by decide) ?_
        refine lv_istore (lv' := [(5, .int 0), (0, .ref bv0), (1, .ref (E.ad 0)), (2, .int v2), (3, .int v3), (4, .int v4)]) hx hb dX12_isSame_213 hl (by decide) rfl (fun ls hl => ?_)
        exact j215 FU v0 v2 v3 0 S _ _ _ _ _ _ _ _ hG hv0 (lv_sub hl [1, 2, 3, 4, 0] rfl) h
      · have h := (if_inv h).2 g75
        refine lv_aload_n hx hb dX12_isSame_20 rfl (lv_at hl 0 rfl) ?_
        refine r2_gN C hG hv0 FQX12_22 rfl dX12_isSame_21 h (fun c76 bc76 h_c76 h => ?_)
        refine lv_iload hx hb dX12_isSame_24 (lv_at hl 5 rfl) ?_
        refine r2_gAI C hG h_c76 dX12_isSame_26 h (fun x77 h => ?_)
        refine lv_istore (lv' := [(6, .int x77), (0, .ref bv0), (1, .ref (E.ad 0)), (2, .int v2), (3, .int v3), (4, .int v4), (5, .int v5)]) hx hb dX12_isSame_27 hl (by decide) rfl (fun ls hl => ?_)
        refine lv_aload_n hx hb dX12_isSame_29 rfl (lv_at hl 1 rfl) ?_
        refine r2_gN C hG hv0 FQX12_18 rfl dX12_isSame_30 h (fun c78 bc78 h_c78 h => ?_)
        refine lv_iload hx hb dX12_isSame_33 (lv_at hl 0 rfl) ?_
        refine r2_gAA C hG h_c78 dX12_isSame_35 h (fun c79 bc79 h_c79 h => ?_)
        refine lv_astore (lv' := [(7, .ref bc79), (6, .int x77), (0, .ref bv0), (1, .ref (E.ad 0)), (2, .int v2), (3, .int v3), (4, .int v4), (5, .int v5)]) hx hb dX12_isSame_36 hl (by decide) rfl (fun ls hl => ?_)
        refine lv_aload_n hx hb dX12_isSame_38 rfl (lv_at hl 2 rfl) ?_
        refine lv_iload hx hb dX12_isSame_39 (lv_at hl 7 rfl) ?_
        refine r2_cVI C hA hl.1 hG hv0 [.int v5] [] (mX12_light E l v0 v5 S (RAq hG hv0)) (by rw [hv0.1]) QLX12_52 KP14 rfl (rm2 (by decide) (by decide)) (Nat.le_of_ble_eq_true rfl) rfl dX12_isSame_41 hU h (fun x82 S80 H locs ad81 cells slots hG hx9 h => ?_)
        have h_c79 := h_c79.up hx9
        have hv0 := hv0.up hx9
        refine lv_istore (lv' := [(8, .int x82), (7, .ref bc79), (6, .int x77), (0, .ref bv0), (1, .ref (E.ad 0)), (2, .int v2), (3, .int v3), (4, .int v4), (5, .int v5)]) hx hb dX12_isSame_44 hl (by decide) rfl (fun ls hl => ?_)
        refine lv_aload_n hx hb dX12_isSame_46 rfl (lv_at hl 3 rfl) ?_
        refine lv_iload hx hb dX12_isSame_47 (lv_at hl 8 rfl) ?_
        refine lv_iconst (v := 1) hx hb dX12_isSame_49 (by decide) ?_
        refine lv_iadd hx hb dX12_isSame_50 ?_
        refine r2_cVI C hA hl.1 hG hv0 [.int (v5 + 1)] [] (mX12_light E l v0 (v5 + 1) S80 (RAq hG hv0)) (by rw [hv0.1]) QLX12_52 KP14 rfl (rm2 (by decide) (by decide)) (Nat.le_of_ble_eq_true rfl) rfl dX12_isSame_51 hU h (fun x85 S83 H locs ad84 cells slots hG hx9 h => ?_)
        have h_c79 := h_c79.up hx9
        have hv0 := hv0.up hx9
        refine lv_istore (lv' := [(9, .int x85), (8, .int x82), (7, .ref bc79), (6, .int x77), (0, .ref bv0), (1, .ref (E.ad 0)), (2, .int v2), (3, .int v3), (4, .int v4), (5, .int v5)]) hx hb dX12_isSame_54 hl (by decide) rfl (fun ls hl => ?_)
        refine lv_aload_n hx hb dX12_isSame_56 rfl (lv_at hl 5 rfl) ?_
        refine lv_iload hx hb dX12_isSame_57 (lv_at hl 9 rfl) ?_
        refine r2_clR C hA hl.1 hG [.int v5] [] (m8_mirrorAt E l hst v5 S83.g) QCX12_79.1 QCX12_79.2 KC8 rfl (rm2 (by decide) (by decide)) (Nat.le_of_ble_eq_true rfl) rfl dX12_isSame_59 hU h (fun x86 S87 H locs cells slots hG h => ?_)
        refine lv_iload hx hb dX12_isSame_62 (lv_at hl 3 rfl) ?_
        refine lv_icmp_ne (tgt := 174) hx hb dX12_isSame_64 (by decide) (fun g88 => ?_) (fun g88 => ?_)
        · have h := (if_inv h).2 g88
          refine lv_iconst (v := 0) hx hb dX12_isSame_174 (by decide) ?_
          exact r2_iret C hF hG hr rfl dX12_isSame_175 h
        · have h := (if_inv h).1 g88
          refine lv_aload_n hx hb dX12_isSame_67 rfl (lv_at hl 5 rfl) ?_
          refine lv_iload hx hb dX12_isSame_68 (lv_at hl 3 rfl) ?_
          refine r2_clR C hA hl.1 hG [.int x77] [] (m8_placeOf E l hst x77 S87.g) QCX12_84.1 QCX12_84.2 KC8 rfl (rm2 (by decide) (by decide)) (Nat.le_of_ble_eq_true rfl) rfl dX12_isSame_70 hU h (fun x89 S90 H locs cells slots hG h => ?_)
          refine lv_iload hx hb dX12_isSame_73 (lv_at hl 9 rfl) ?_
          refine lv_icmp_ne (tgt := 174) hx hb dX12_isSame_75 (by decide) (fun g91 => ?_) (fun g91 => ?_)
          · have h := (if_inv h).2 g91
            refine lv_iconst (v := 0) hx hb dX12_isSame_174 (by decide) ?_
            exact r2_iret C hF hG hr rfl dX12_isSame_175 h
          · have h := (if_inv h).1 g91
            refine lv_aload_n hx hb dX12_isSame_78 rfl (lv_at hl 5 rfl) ?_
            refine lv_iload hx hb dX12_isSame_79 (lv_at hl 3 rfl) ?_
            refine r2_clR C hA hl.1 hG [.int x77] [] (m8_clarityOf E l hst x77 S90.g) QCX12_87.1 QCX12_87.2 KC8 rfl (rm2 (by decide) (by decide)) (Nat.le_of_ble_eq_true rfl) rfl dX12_isSame_81 hU h (fun x92 S93 H locs cells slots hG h => ?_)
            refine lv_aload hx hb dX12_isSame_84 (lv_at hl 2 rfl) ?_
            refine lv_iconst (v := 0) hx hb dX12_isSame_86 (by decide) ?_
            refine r2_gAI C hG h_c79 dX12_isSame_87 h (fun x94 h => ?_)
            refine lv_icmp_ne (tgt := 174) hx hb dX12_isSame_88 (by decide) (fun g95 => ?_) (fun g95 => ?_)
            · have h := (if_inv h).2 g95
              refine lv_iconst (v := 0) hx hb dX12_isSame_174 (by decide) ?_
              exact r2_iret C hF hG hr rfl dX12_isSame_175 h
            · have h := (if_inv h).1 g95
              refine lv_aload_n hx hb dX12_isSame_91 rfl (lv_at hl 5 rfl) ?_
              refine lv_iload hx hb dX12_isSame_92 (lv_at hl 3 rfl) ?_
              refine r2_clR C hA hl.1 hG [.int x77] [] (m8_bestClarityOf E l hst x77 S93.g) QCX12_90.1 QCX12_90.2 KC8 rfl (rm2 (by decide) (by decide)) (Nat.le_of_ble_eq_true rfl) rfl dX12_isSame_94 hU h (fun x96 S97 H locs cells slots hG h => ?_)
              refine lv_aload hx hb dX12_isSame_97 (lv_at hl 2 rfl) ?_
              refine lv_iconst (v := 1) hx hb dX12_isSame_99 (by decide) ?_
              refine r2_gAI C hG h_c79 dX12_isSame_100 h (fun x98 h => ?_)
              refine lv_icmp_ne (tgt := 174) hx hb dX12_isSame_101 (by decide) (fun g99 => ?_) (fun g99 => ?_)
              · have h := (if_inv h).2 g99
                refine lv_iconst (v := 0) hx hb dX12_isSame_174 (by decide) ?_
                exact r2_iret C hF hG hr rfl dX12_isSame_175 h
              · have h := (if_inv h).1 g99
                refine lv_aload_n hx hb dX12_isSame_104 rfl (lv_at hl 5 rfl) ?_
                refine lv_iload hx hb dX12_isSame_105 (lv_at hl 3 rfl) ?_
                refine r2_clR C hA hl.1 hG [.int x77] [] (m8_offsetOf E l hst x77 S97.g) QCX12_93.1 QCX12_93.2 KC8 rfl (rm2 (by decide) (by decide)) (Nat.le_of_ble_eq_true rfl) rfl dX12_isSame_107 hU h (fun x100 S101 H locs cells slots hG h => ?_)
                refine lv_aload hx hb dX12_isSame_110 (lv_at hl 2 rfl) ?_
                refine lv_iconst (v := 2) hx hb dX12_isSame_112 (by decide) ?_
                refine r2_gAI C hG h_c79 dX12_isSame_113 h (fun x102 h => ?_)
                refine lv_icmp_ne (tgt := 174) hx hb dX12_isSame_114 (by decide) (fun g103 => ?_) (fun g103 => ?_)
                · have h := (if_inv h).2 g103
                  refine lv_iconst (v := 0) hx hb dX12_isSame_174 (by decide) ?_
                  exact r2_iret C hF hG hr rfl dX12_isSame_175 h
                · have h := (if_inv h).1 g103
                  refine lv_aload_n hx hb dX12_isSame_117 rfl (lv_at hl 5 rfl) ?_
                  refine lv_iload hx hb dX12_isSame_118 (lv_at hl 3 rfl) ?_
                  refine r2_clR C hA hl.1 hG [.int x77] [] (m8_lightBehind E l hst x77 S101.g) QCX12_96.1 QCX12_96.2 KC8 rfl (rm2 (by decide) (by decide)) (Nat.le_of_ble_eq_true rfl) rfl dX12_isSame_120 hU h (fun x104 S105 H locs cells slots hG h => ?_)
                  refine lv_iload hx hb dX12_isSame_123 (lv_at hl 0 rfl) ?_
                  refine lv_icmp_ne (tgt := 174) hx hb dX12_isSame_125 (by decide) (fun g106 => ?_) (fun g106 => ?_)
                  · have h := (if_inv h).2 g106
                    refine lv_iconst (v := 0) hx hb dX12_isSame_174 (by decide) ?_
                    exact r2_iret C hF hG hr rfl dX12_isSame_175 h
                  · have h := (if_inv h).1 g106
                    refine lv_aload_n hx hb dX12_isSame_128 rfl (lv_at hl 5 rfl) ?_
                    refine lv_iload hx hb dX12_isSame_129 (lv_at hl 3 rfl) ?_
                    refine r2_clR C hA hl.1 hG [.int x77] [] (m8_lostAt E l hst x77 S105.g) QCX12_99.1 QCX12_99.2 KC8 rfl (rm2 (by decide) (by decide)) (Nat.le_of_ble_eq_true rfl) rfl dX12_isSame_131 hU h (fun x107 S108 H locs cells slots hG h => ?_)
                    refine lv_iload hx hb dX12_isSame_134 (lv_at hl 1 rfl) ?_
                    refine lv_iload hx hb dX12_isSame_136 (lv_at hl 0 rfl) ?_
                    refine lv_isub hx hb dX12_isSame_138 ?_
                    refine lv_icmp_ne (tgt := 174) hx hb dX12_isSame_139 (by decide) (fun g109 => ?_) (fun g109 => ?_)
                    · have h := (if_inv h).2 g109
                      refine lv_iconst (v := 0) hx hb dX12_isSame_174 (by decide) ?_
                      exact r2_iret C hF hG hr rfl dX12_isSame_175 h
                    · have h := (if_inv h).1 g109
                      refine lv_aload_n hx hb dX12_isSame_142 rfl (lv_at hl 5 rfl) ?_
                      refine lv_iload hx hb dX12_isSame_143 (lv_at hl 3 rfl) ?_
                      refine r2_clR C hA hl.1 hG [.int x77] [] (m8_tiltBehind E l hst x77 S108.g) QCX12_102.1 QCX12_102.2 KC8 rfl (rm2 (by decide) (by decide)) (Nat.le_of_ble_eq_true rfl) rfl dX12_isSame_145 hU h (fun x110 S111 H locs cells slots hG h => ?_)
                      refine lv_aload_n hx hb dX12_isSame_148 rfl (lv_at hl 4 rfl) ?_
                      refine lv_iload hx hb dX12_isSame_149 (lv_at hl 9 rfl) ?_
                      refine lv_iconst (v := 1) hx hb dX12_isSame_151 (by decide) ?_
                      refine lv_iadd hx hb dX12_isSame_152 ?_
                      refine r2_cVI C hA hl.1 hG hv0 [.int (v5 + 1)] [.int x110] (mX12_tilt E l v0 (v5 + 1) S111 (RAq hG hv0)) (by rw [hv0.1]) QLX12_60 KP14 rfl (rm2 (by decide) (by decide)) (Nat.le_of_ble_eq_true rfl) rfl dX12_isSame_153 hU h (fun x114 S112 H locs ad113 cells slots hG hx9 h => ?_)
                      have h_c79 := h_c79.up hx9
                      have hv0 := hv0.up hx9
                      refine lv_icmp_ne (tgt := 174) hx hb dX12_isSame_156 (by decide) (fun g115 => ?_) (fun g115 => ?_)
                      · have h := (if_inv h).2 g115
                        refine lv_iconst (v := 0) hx hb dX12_isSame_174 (by decide) ?_
                        exact r2_iret C hF hG hr rfl dX12_isSame_175 h
                      · have h := (if_inv h).1 g115
                        refine lv_aload_n hx hb dX12_isSame_159 rfl (lv_at hl 5 rfl) ?_
                        refine lv_iload hx hb dX12_isSame_160 (lv_at hl 3 rfl) ?_
                        refine r2_clR C hA hl.1 hG [.int x77] [] (m8_isCovered E l hst x77 S112.g) QCX12_105.1 QCX12_105.2 KC8 rfl (rm2 (by decide) (by decide)) (Nat.le_of_ble_eq_true rfl) rfl dX12_isSame_162 hU h (fun x116 S117 H locs cells slots hG h => ?_)
                        refine lv_aload_n hx hb dX12_isSame_165 rfl (lv_at hl 4 rfl) ?_
                        refine lv_iload hx hb dX12_isSame_166 (lv_at hl 3 rfl) ?_
                        refine r2_cVI C hA hl.1 hG hv0 [.int x77] [.int x116] (mX12_isCovered E l v0 x77 S117 (RAq hG hv0)) (by rw [hv0.1]) QLX12_48 KP14 rfl (rm2 (by decide) (by decide)) (Nat.le_of_ble_eq_true rfl) rfl dX12_isSame_168 hU h (fun x120 S118 H locs ad119 cells slots hG hx9 h => ?_)
                        have h_c79 := h_c79.up hx9
                        have hv0 := hv0.up hx9
                        refine lv_icmp_eq (tgt := 176) hx hb dX12_isSame_171 (by decide) (fun g121 => ?_) (fun g121 => ?_)
                        · have h := (if_inv h).1 g121
                          refine lv_iload_n hx hb dX12_isSame_176 rfl (lv_at hl 6 rfl) ?_
                          refine lv_aload hx hb dX12_isSame_177 (lv_at hl 2 rfl) ?_
                          refine lv_iconst (v := 0) hx hb dX12_isSame_179 (by decide) ?_
                          refine r2_gAI C hG h_c79 dX12_isSame_180 h (fun x122 h => ?_)
                          refine lv_iadd hx hb dX12_isSame_181 ?_
                          refine r_nm h (fun x123 h => ?_)
                          refine lv_istore_n (lv' := [(2, .int x123), (9, .int x85), (8, .int x82), (7, .ref bc79), (6, .int x77), (0, .ref bv0), (1, .ref (E.ad 0)), (3, .int v3), (4, .int v4), (5, .int v5)]) hx hb dX12_isSame_182 rfl hl (by decide) rfl (fun ls hl => ?_)
                          refine lv_iload hx hb dX12_isSame_183 (lv_at hl 2 rfl) ?_
                          refine lv_iload hx hb dX12_isSame_185 (lv_at hl 1 rfl) ?_
                          refine lv_isub hx hb dX12_isSame_187 ?_
                          refine lv_iload hx hb dX12_isSame_188 (lv_at hl 8 rfl) ?_
                          refine lv_icmp_gt (tgt := 196) hx hb dX12_isSame_190 (by decide) (fun g124 => ?_) (fun g124 => ?_)
                          · have h := (if_inv h).1 g124
                            refine lv_iload hx hb dX12_isSame_196 (lv_at hl 2 rfl) ?_
                            refine lv_iload hx hb dX12_isSame_198 (lv_at hl 1 rfl) ?_
                            refine lv_isub hx hb dX12_isSame_200 ?_
                            refine r_nm h (fun x125 h => ?_)
                            refine lv_istore (lv' := [(4, .int x125), (2, .int x123), (9, .int x85), (8, .int x82), (7, .ref bc79), (6, .int x77), (0, .ref bv0), (1, .ref (E.ad 0)), (3, .int v3), (5, .int v5)]) hx hb dX12_isSame_201 hl (by decide) rfl (fun ls hl => ?_)
                            refine lv_iload hx hb dX12_isSame_203 (lv_at hl 5 rfl) ?_
                            refine lv_istore_n (lv' := [(3, .int x77), (4, .int x125), (2, .int x123), (9, .int x85), (8, .int x82), (7, .ref bc79), (6, .int x77), (0, .ref bv0), (1, .ref (E.ad 0)), (5, .int v5)]) hx hb dX12_isSame_205 rfl hl (by decide) rfl (fun ls hl => ?_)
                            refine r_iinc (w := 1) (lv' := fun x126 => [(5, .int x126), (3, .int x77), (4, .int x125), (2, .int x123), (9, .int x85), (8, .int x82), (7, .ref bc79), (6, .int x77), (0, .ref bv0), (1, .ref (E.ad 0))]) C dX12_isSame_206 hl (k := 9) rfl (by decide) (by decide) (fun _ => rfl) h (fun x126 ls hl h => ?_)
                            refine lv_goto (tgt := 10) hx hb dX12_isSame_209 (by decide) ?_
                            exact ih v0 x123 x77 x125 x126 S118 _ _ _ _ _ _ _ _ hG hv0 (lv_sub hl [8, 9, 3, 1, 2, 0] rfl) h
                          · have h := (if_inv h).2 g124
                            refine lv_goto (tgt := 206) hx hb dX12_isSame_193 (by decide) ?_
                            refine r_iinc (w := 1) (lv' := fun x127 => [(5, .int x127), (2, .int x123), (9, .int x85), (8, .int x82), (7, .ref bc79), (6, .int x77), (0, .ref bv0), (1, .ref (E.ad 0)), (3, .int v3), (4, .int v4)]) C dX12_isSame_206 hl (k := 9) rfl (by decide) (by decide) (fun _ => rfl) h (fun x127 ls hl h => ?_)
                            refine lv_goto (tgt := 10) hx hb dX12_isSame_209 (by decide) ?_
                            exact ih v0 x123 v3 v4 x127 S118 _ _ _ _ _ _ _ _ hG hv0 (lv_sub hl [6, 7, 1, 8, 9, 0] rfl) h
                        · have h := (if_inv h).2 g121
                          refine lv_iconst (v := 0) hx hb dX12_isSame_174 (by decide) ?_
                          exact r2_iret C hF hG hr rfl dX12_isSame_175 h
  refine lv_iconst (v := 0) hx hb dX12_isSame_0 (by decide) ?_
  refine lv_istore_n (lv' := [(2, .int 0), (0, .ref b0), (1, .ref (E.ad 0))]) hx hb dX12_isSame_1 rfl hl (by decide) rfl (fun ls hl => ?_)
  refine lv_iconst (v := (-1)) hx hb dX12_isSame_2 (by decide) ?_
  refine lv_istore_n (lv' := [(3, .int (-1)), (2, .int 0), (0, .ref b0), (1, .ref (E.ad 0))]) hx hb dX12_isSame_3 rfl hl (by decide) rfl (fun ls hl => ?_)
  refine lv_iconst (v := (-1)) hx hb dX12_isSame_4 (by decide) ?_
  refine lv_istore (lv' := [(4, .int (-1)), (3, .int (-1)), (2, .int 0), (0, .ref b0), (1, .ref (E.ad 0))]) hx hb dX12_isSame_5 hl (by decide) rfl (fun ls hl => ?_)
  refine lv_iconst (v := 0) hx hb dX12_isSame_7 (by decide) ?_
  refine lv_istore (lv' := [(5, .int 0), (4, .int (-1)), (3, .int (-1)), (2, .int 0), (0, .ref b0), (1, .ref (E.ad 0))]) hx hb dX12_isSame_8 hl (by decide) rfl (fun ls hl => ?_)
  exact j10 FU c0 0 (-1) (-1) 0 S0 _ _ _ _ _ _ _ _ hG h0 (lv_sub hl [4, 5, 3, 2, 1, 0] rfl) h
