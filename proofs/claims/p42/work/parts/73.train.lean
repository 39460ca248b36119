def kX12_add_24  : Nat → Nat → Int32 → Int32 → Int32 → Nat → Nat → Int32 → ZS → Option (ZS)
  | 0, _, _, _, _, _, _, _, _ => none
  | f + 1, v0, v1, v2, v3, v4, v5, v6, S =>
        if v3 ≤ v6 then
          nA id S 100000 3 fun c2 S3 =>
          aP S3 c2 100000 0 v1 fun S5 =>
          aP S5 c2 100000 1 100 fun S6 =>
          aP S6 c2 100000 2 v2 fun S7 =>
          aR S7 v4 400000 100000 v3 c2 fun S8 =>
          aP S8 v5 100000 v3 v3 fun S9 =>
          pR S9 v0 14 2 v4 fun S10 =>
          pR S10 v0 14 3 v5 fun S11 =>
          some S11
        else
          gN S v0 14 2 fun c12 =>
          aN S c12 400000 v6 fun c13 =>
          aR S v4 400000 100000 v6 c13 fun S14 =>
          gN S14 v0 14 3 fun c15 =>
          aG S14 c15 100000 v6 fun x16 =>
          aP S14 v5 100000 v6 x16 fun S17 =>
          bd (v6 + 1) fun x18 =>
          kX12_add_24 f v0 v1 v2 v3 v4 v5 x18 S17
def kX12_add (c0 : Nat) (a1 : Int32) (a2 : Int32) (S0 : ZS) : Option (ZS) :=
  chk id S0 <|
  gN S0 c0 14 2 fun c19 =>
  aL S0 c19 400000 fun x20 =>
  nA id S0 400000 (x20 + 1) fun c21 S22 =>
  nA id S22 100000 (x20 + 1) fun c24 S25 =>
  kX12_add_24 FU c0 a1 a2 x20 c21 c24 0 S25
set_option maxRecDepth 100000 in
set_option maxHeartbeats 8000000 in
theorem mX12_add (E : EV) (l : Launch) (c0 : Nat) (a1 : Int32) (a2 : Int32) (S0 : ZS) (q0 : c0 ≠ 0 ∧ rk S0.n c0) : ∀ u, kX12_add c0 a1 a2 S0 = some u → MVL E l yX12_add cX12_add 7 none 1 (fun ad => [.ref (rA E ad c0), .int a1, .int a2]) S0 u := by
  intro u h
  unfold kX12_add at h
  obtain ⟨hcw, h⟩ := chk_inv h
  refine ML2.of (by decide +kernel) (fun ad => Nat.le_of_ble_eq_true rfl) hcw ?_
  intro p e s m args below meth c ad F hF C hA hr hnm ls hl hG
  have C : Cx p s m args meth c cX12_add 7 RX12 E := C
  have hx := C.1
  have hb := C.2.1
  have hU : F.uc = (u).c ∧ F.uw = (u).w := ⟨hF.2.2.2.2.1, hF.2.2.2.2.2⟩
  have hl : lv_has ls 7 [(0, .ref (rA E ad c0)), (1, .int a1), (2, .int a2)] := hl
  obtain ⟨b0, h0, e0⟩ : ∃ b, RA E ad S0.n c0 b ∧ b = rA E ad c0 := ⟨_, RA.of q0.1 q0.2, rfl⟩
  rw [← e0] at hl
  have j24 : ∀ f : Nat, ∀ (v0 : Nat) (v1 : Int32) (v2 : Int32) (v3 : Int32) (v4 : Nat) (v5 : Nat) (v6 : Int32) (S : ZS) (ad : Nat → Nat) (N : Nat) (bv0 : Nat) (bv4 : Nat) (bv5 : Nat) (H : Heap) (locs : List Loc) (ls : Array Slot) (cells slots : Nat), GL E s F H locs ad N S cells slots → RA E ad N v0 bv0 → RA E ad N v4 bv4 → RA E ad N v5 bv5 → lv_has ls 7 [(0, .ref bv0), (1, .int v1), (2, .int v2), (3, .int v3), (4, .ref bv4), (5, .ref bv5), (6, .int v6)] → kX12_add_24 f v0 v1 v2 v3 v4 v5 v6 S = some u → W p l e (F.R 1) s m args below meth c H locs cells slots (MQ below (QVL E s.heap.size F.ad S0 u) args s (F.c - F.uc) (F.w - F.uw) F.A) (F0 m 24 ls []) := by
    intro f
    induction f with
    | zero =>
      intro v0 v1 v2 v3 v4 v5 v6 S ad N bv0 bv4 bv5 H locs ls cells slots hG hv0 hv4 hv5 hl h
      unfold kX12_add_24 at h
      cases h
    | succ f ih =>
      intro v0 v1 v2 v3 v4 v5 v6 S ad N bv0 bv4 bv5 H locs ls cells slots hG hv0 hv4 hv5 hl h
      unfold kX12_add_24 at h
      refine lv_iload hx hb dX12_add_24 (lv_at hl 6 rfl) ?_
      refine lv_iload_n hx hb dX12_add_26 rfl (lv_at hl 3 rfl) ?_
      refine lv_icmp_ge (tgt := 60) hx hb dX12_add_27 (by decide) (fun g1 => ?_) (fun g1 => ?_)
      · have h := (if_inv h).1 g1
        refine lv_aload hx hb dX12_add_60 (lv_at hl 4 rfl) ?_
        refine lv_iload_n hx hb dX12_add_62 rfl (lv_at hl 3 rfl) ?_
        refine lv_iconst (v := 3) hx hb dX12_add_63 (by decide) ?_
        refine r2_newI C hA hG LAAI dX12_add_64 hU h (fun bc2 c2 H ad4 S3 cells slots hG hx9 h_c2 h => ?_)
        have hv0 := hv0.up hx9
        have hv4 := hv4.up hx9
        have hv5 := hv5.up hx9
        refine lv_dup hx hb dX12_add_66 rfl ?_
        refine lv_iconst (v := 0) hx hb dX12_add_67 (by decide) ?_
        refine lv_iload_n hx hb dX12_add_68 rfl (lv_at hl 1 rfl) ?_
        refine r2_pAI C hG h_c2 dX12_add_69 h (fun H locs S5 hG h => ?_)
        refine lv_dup hx hb dX12_add_70 rfl ?_
        refine lv_iconst (v := 1) hx hb dX12_add_71 (by decide) ?_
        refine lv_bipush (v := 100) hx hb dX12_add_72 (by decide) ?_
        refine r2_pAI C hG h_c2 dX12_add_74 h (fun H locs S6 hG h => ?_)
        refine lv_dup hx hb dX12_add_75 rfl ?_
        refine lv_iconst (v := 2) hx hb dX12_add_76 (by decide) ?_
        refine lv_iload_n hx hb dX12_add_77 rfl (lv_at hl 2 rfl) ?_
        refine r2_pAI C hG h_c2 dX12_add_78 h (fun H locs S7 hG h => ?_)
        refine r2_pAA C hG hv4 LAO h_c2 dX12_add_79 h (fun H locs S8 hG h => ?_)
        refine lv_aload hx hb dX12_add_80 (lv_at hl 5 rfl) ?_
        refine lv_iload_n hx hb dX12_add_82 rfl (lv_at hl 3 rfl) ?_
        refine lv_iload_n hx hb dX12_add_83 rfl (lv_at hl 3 rfl) ?_
        refine r2_pAI C hG hv5 dX12_add_84 h (fun H locs S9 hG h => ?_)
        refine lv_aload_n hx hb dX12_add_85 rfl (lv_at hl 0 rfl) ?_
        refine lv_aload hx hb dX12_add_86 (lv_at hl 4 rfl) ?_
        refine r2_pR C hG hv0 hv4.RV FQX12_18 (Or.inl rfl) rfl rfl rfl dX12_add_88 h (fun H locs S10 hG h => ?_)
        refine lv_aload_n hx hb dX12_add_91 rfl (lv_at hl 0 rfl) ?_
        refine lv_aload hx hb dX12_add_92 (lv_at hl 5 rfl) ?_
        refine r2_pR C hG hv0 hv5.RV FQX12_22 (Or.inl rfl) rfl rfl rfl dX12_add_94 h (fun H locs S11 hG h => ?_)
        exact r2_vret C hF hG hr dX12_add_97 h
      · have h := (if_inv h).2 g1
        refine lv_aload hx hb dX12_add_30 (lv_at hl 4 rfl) ?_
        refine lv_iload hx hb dX12_add_32 (lv_at hl 6 rfl) ?_
        refine lv_aload_n hx hb dX12_add_34 rfl (lv_at hl 0 rfl) ?_
        refine r2_gN C hG hv0 FQX12_18 rfl dX12_add_35 h (fun c12 bc12 h_c12 h => ?_)
        refine lv_iload hx hb dX12_add_38 (lv_at hl 6 rfl) ?_
        refine r2_gAA C hG h_c12 dX12_add_40 h (fun c13 bc13 h_c13 h => ?_)
        refine r2_pAA C hG hv4 LAO h_c13 dX12_add_41 h (fun H locs S14 hG h => ?_)
        refine lv_aload hx hb dX12_add_42 (lv_at hl 5 rfl) ?_
        refine lv_iload hx hb dX12_add_44 (lv_at hl 6 rfl) ?_
        refine lv_aload_n hx hb dX12_add_46 rfl (lv_at hl 0 rfl) ?_
        refine r2_gN C hG hv0 FQX12_22 rfl dX12_add_47 h (fun c15 bc15 h_c15 h => ?_)
        refine lv_iload hx hb dX12_add_50 (lv_at hl 6 rfl) ?_
        refine r2_gAI C hG h_c15 dX12_add_52 h (fun x16 h => ?_)
        refine r2_pAI C hG hv5 dX12_add_53 h (fun H locs S17 hG h => ?_)
        refine r_iinc (w := 1) (lv' := fun x18 => [(6, .int x18), (0, .ref bv0), (1, .int v1), (2, .int v2), (3, .int v3), (4, .ref bv4), (5, .ref bv5)]) C dX12_add_54 hl (k := 6) rfl (by decide) (by decide) (fun _ => rfl) h (fun x18 ls hl h => ?_)
        refine lv_goto (tgt := 24) hx hb dX12_add_57 (by decide) ?_
        exact ih v0 v1 v2 v3 v4 v5 x18 S17 _ _ _ _ _ _ _ _ _ _ hG hv0 hv4 hv5 (lv_sub hl [1, 2, 3, 4, 5, 6, 0] rfl) h
  refine lv_aload_n hx hb dX12_add_0 rfl (lv_at hl 0 rfl) ?_
  refine r2_gN C hG h0 FQX12_18 rfl dX12_add_1 h (fun c19 bc19 h_c19 h => ?_)
  refine r2_len C hG h_c19 400000 (Or.inr (Or.inr (Or.inr (Or.inl rfl)))) dX12_add_4 h (fun x20 h => ?_)
  refine lv_istore_n (lv' := [(3, .int x20), (0, .ref b0), (1, .int a1), (2, .int a2)]) hx hb dX12_add_5 rfl hl (by decide) rfl (fun ls hl => ?_)
  refine lv_iload_n hx hb dX12_add_6 rfl (lv_at hl 0 rfl) ?_
  refine lv_iconst (v := 1) hx hb dX12_add_7 (by decide) ?_
  refine lv_iadd hx hb dX12_add_8 ?_
  refine r2_newA C hA hG LKAX12_16 LAO dX12_add_9 hU h (fun bc21 c21 H ad23 S22 cells slots hG hx9 h_c21 h => ?_)
  have h0 := h0.up hx9
  refine lv_astore (lv' := [(4, .ref bc21), (3, .int x20), (0, .ref b0), (1, .int a1), (2, .int a2)]) hx hb dX12_add_12 hl (by decide) rfl (fun ls hl => ?_)
  refine lv_iload_n hx hb dX12_add_14 rfl (lv_at hl 1 rfl) ?_
  refine lv_iconst (v := 1) hx hb dX12_add_15 (by decide) ?_
  refine lv_iadd hx hb dX12_add_16 ?_
  refine r2_newI C hA hG LAAI dX12_add_17 hU h (fun bc24 c24 H ad26 S25 cells slots hG hx9 h_c24 h => ?_)
  have h_c21 := h_c21.up hx9
  have h0 := h0.up hx9
  refine lv_astore (lv' := [(5, .ref bc24), (4, .ref bc21), (3, .int x20), (0, .ref b0), (1, .int a1), (2, .int a2)]) hx hb dX12_add_19 hl (by decide) rfl (fun ls hl => ?_)
  refine lv_iconst (v := 0) hx hb dX12_add_21 (by decide) ?_
  refine lv_istore (lv' := [(6, .int 0), (5, .ref bc24), (4, .ref bc21), (3, .int x20), (0, .ref b0), (1, .int a1), (2, .int a2)]) hx hb dX12_add_22 hl (by decide) rfl (fun ls hl => ?_)
  exact j24 FU c0 a1 a2 x20 c21 c24 0 S25 _ _ _ _ _ _ _ _ _ _ hG h0 h_c21 h_c24 (lv_sub hl [4, 5, 6, 3, 2, 1, 0] rfl) h
def kX12_init (c0 : Nat) (S0 : ZS) : Option (ZS) :=
  chk id S0 <|
  pI S0 c0 14 0 60 fun S1 =>
  pI S1 c0 14 1 1000 fun S2 =>
  nA id S2 400000 0 fun c3 S4 =>
  pR S4 c0 14 2 c3 fun S6 =>
  nA id S6 100000 0 fun c7 S8 =>
  pR S8 c0 14 3 c7 fun S10 =>
  nA id S10 400000 0 fun c11 S12 =>
  pR S12 c0 14 4 c11 fun S14 =>
  nA id S14 500000 0 fun c15 S16 =>
  pR S16 c0 14 8 c15 fun S18 =>
  some S18
set_option maxRecDepth 100000 in
set_option maxHeartbeats 8000000 in
theorem mX12_init (E : EV) (l : Launch) (c0 : Nat) (S0 : ZS) (q0 : c0 ≠ 0 ∧ rk S0.n c0) : ∀ u, kX12_init c0 S0 = some u → MVL E l yX12_init cX12_init 1 none 2 (fun ad => [.ref (rA E ad c0)]) S0 u := by
  intro u h
  unfold kX12_init at h
  obtain ⟨hcw, h⟩ := chk_inv h
  refine ML2.of (by decide +kernel) (fun ad => Nat.le_of_ble_eq_true rfl) hcw ?_
  intro p e s m args below meth c ad F hF C hA hr hnm ls hl hG
  have C : Cx p s m args meth c cX12_init 1 RX12 E := C
  have hx := C.1
  have hb := C.2.1
  have hU : F.uc = (u).c ∧ F.uw = (u).w := ⟨hF.2.2.2.2.1, hF.2.2.2.2.2⟩
  have hl : lv_has ls 1 [(0, .ref (rA E ad c0))] := hl
  obtain ⟨b0, h0, e0⟩ : ∃ b, RA E ad S0.n c0 b ∧ b = rA E ad c0 := ⟨_, RA.of q0.1 q0.2, rfl⟩
  rw [← e0] at hl
  refine lv_aload_n hx hb dX12_init_0 rfl (lv_at hl 0 rfl) ?_
  refine r2_obj C hl.1 (mTBi 1270 (by decide +kernel) rfl) QOI QOC ⟨(Nat.le_of_ble_eq_true rfl), (Nat.le_of_ble_eq_true rfl)⟩ dX12_init_1 ?_
  refine lv_aload_n hx hb dX12_init_4 rfl (lv_at hl 0 rfl) ?_
  refine lv_bipush (v := 60) hx hb dX12_init_5 (by decide) ?_
  refine r2_pI C hG h0 FQX12_7 (Or.inl rfl) rfl rfl rfl dX12_init_7 h (fun H locs S1 hG h => ?_)
  refine lv_aload_n hx hb dX12_init_10 rfl (lv_at hl 0 rfl) ?_
  refine lv_sipush (v := 1000) hx hb dX12_init_11 (by decide) ?_
  refine r2_pI C hG h0 FQX12_13 (Or.inl rfl) rfl rfl rfl dX12_init_14 h (fun H locs S2 hG h => ?_)
  refine lv_aload_n hx hb dX12_init_17 rfl (lv_at hl 0 rfl) ?_
  refine lv_iconst (v := 0) hx hb dX12_init_18 (by decide) ?_
  refine r2_newA C hA hG LKAX12_16 LAO dX12_init_19 hU h (fun bc3 c3 H ad5 S4 cells slots hG hx9 h_c3 h => ?_)
  have h0 := h0.up hx9
  refine r2_pR C hG h0 h_c3.RV FQX12_18 (Or.inl rfl) rfl rfl rfl dX12_init_22 h (fun H locs S6 hG h => ?_)
  refine lv_aload_n hx hb dX12_init_25 rfl (lv_at hl 0 rfl) ?_
  refine lv_iconst (v := 0) hx hb dX12_init_26 (by decide) ?_
  refine r2_newI C hA hG LAAI dX12_init_27 hU h (fun bc7 c7 H ad9 S8 cells slots hG hx9 h_c7 h => ?_)
  have h0 := h0.up hx9
  refine r2_pR C hG h0 h_c7.RV FQX12_22 (Or.inl rfl) rfl rfl rfl dX12_init_29 h (fun H locs S10 hG h => ?_)
  refine lv_aload_n hx hb dX12_init_32 rfl (lv_at hl 0 rfl) ?_
  refine lv_iconst (v := 0) hx hb dX12_init_33 (by decide) ?_
  refine r2_newA C hA hG LKAX12_16 LAO dX12_init_34 hU h (fun bc11 c11 H ad13 S12 cells slots hG hx9 h_c11 h => ?_)
  have h0 := h0.up hx9
  refine r2_pR C hG h0 h_c11.RV FQX12_25 (Or.inl rfl) rfl rfl rfl dX12_init_37 h (fun H locs S14 hG h => ?_)
  refine lv_aload_n hx hb dX12_init_40 rfl (lv_at hl 0 rfl) ?_
  refine lv_iconst (v := 0) hx hb dX12_init_41 (by decide) ?_
  refine r2_newQ C hA hG LKAX12_28 LAOQ dX12_init_42 hU h (fun bc15 c15 H ad17 S16 cells slots hG hx9 h_c15 h => ?_)
  have h0 := h0.up hx9
  refine r2_pR C hG h0 h_c15.RV FQX12_30 (Or.inl rfl) rfl rfl rfl dX12_init_45 h (fun H locs S18 hG h => ?_)
  exact r2_vret C hF hG hr dX12_init_48 h
def kX12_move_52 (K14 : Nat → Int32 → Int32 → Nat → Int32 → Int32 → ZS → Option (ZS)) (v0 : Nat) (v1 : Int32) (v2 : Int32) (v3 : Nat) (v4 : Int32) (v5 : Int32) (S : ZS) : Option (ZS) :=
      gN S v0 14 3 fun c1 =>
      aG S c1 100000 v4 fun x2 =>
      aP S v3 100000 v5 x2 fun S3 =>
      bd (v4 + 1) fun x4 =>
      bd (v5 + 1) fun x5 =>
      K14 v0 v1 v2 v3 x4 x5 S3
def kX12_move_14  : Nat → Nat → Int32 → Int32 → Nat → Int32 → Int32 → ZS → Option (ZS)
  | 0, _, _, _, _, _, _, _ => none
  | f + 1, v0, v1, v2, v3, v4, v5, S =>
        gN S v0 14 3 fun c6 =>
        aL S c6 100000 fun x7 =>
        if x7 ≤ v5 then
          pR S v0 14 3 v3 fun S9 =>
          some S9
        else
          if v5 = v2 then
            aP S v3 100000 v5 v1 fun S15 =>
            bd (v5 + 1) fun x16 =>
            kX12_move_14 f v0 v1 v2 v3 v4 x16 S15
          else
            gN S v0 14 3 fun c11 =>
            aG S c11 100000 v4 fun x12 =>
            if x12 = v1 then
              bd (v4 + 1) fun x14 =>
              kX12_move_52 (kX12_move_14 f) v0 v1 v2 v3 x14 v5 S
            else
              kX12_move_52 (kX12_move_14 f) v0 v1 v2 v3 v4 v5 S
def kX12_move (c0 : Nat) (a1 : Int32) (a2 : Int32) (S0 : ZS) : Option (ZS) :=
  chk id S0 <|
  gN S0 c0 14 3 fun c17 =>
  aL S0 c17 100000 fun x18 =>
  nA id S0 100000 x18 fun c19 S20 =>
  kX12_move_14 FU c0 a1 a2 c19 0 0 S20
set_option maxRecDepth 100000 in
set_option maxHeartbeats 8000000 in
theorem mX12_move (E : EV) (l : Launch) (c0 : Nat) (a1 : Int32) (a2 : Int32) (S0 : ZS) (q0 : c0 ≠ 0 ∧ rk S0.n c0) : ∀ u, kX12_move c0 a1 a2 S0 = some u → MVL E l yX12_move cX12_move 6 none 1 (fun ad => [.ref (rA E ad c0), .int a1, .int a2]) S0 u := by
  intro u h
  unfold kX12_move at h
  obtain ⟨hcw, h⟩ := chk_inv h
  refine ML2.of (by decide +kernel) (fun ad => Nat.le_of_ble_eq_true rfl) hcw ?_
  intro p e s m args below meth c ad F hF C hA hr hnm ls hl hG
  have C : Cx p s m args meth c cX12_move 6 RX12 E := C
  have hx := C.1
  have hb := C.2.1
  have hU : F.uc = (u).c ∧ F.uw = (u).w := ⟨hF.2.2.2.2.1, hF.2.2.2.2.2⟩
  have hl : lv_has ls 6 [(0, .ref (rA E ad c0)), (1, .int a1), (2, .int a2)] := hl
  obtain ⟨b0, h0, e0⟩ : ∃ b, RA E ad S0.n c0 b ∧ b = rA E ad c0 := ⟨_, RA.of q0.1 q0.2, rfl⟩
  rw [← e0] at hl
  have j52 : ∀ (K14 : Nat → Int32 → Int32 → Nat → Int32 → Int32 → ZS → Option (ZS)), (∀ (v0 : Nat) (v1 : Int32) (v2 : Int32) (v3 : Nat) (v4 : Int32) (v5 : Int32) (S : ZS) (ad : Nat → Nat) (N : Nat) (bv0 : Nat) (bv3 : Nat) (H : Heap) (locs : List Loc) (ls : Array Slot) (cells slots : Nat), GL E s F H locs ad N S cells slots → RA E ad N v0 bv0 → RA E ad N v3 bv3 → lv_has ls 6 [(0, .ref bv0), (1, .int v1), (2, .int v2), (3, .ref bv3), (4, .int v4), (5, .int v5)] → K14 v0 v1 v2 v3 v4 v5 S = some u → W p l e (F.R 1) s m args below meth c H locs cells slots (MQ below (QVL E s.heap.size F.ad S0 u) args s (F.c - F.uc) (F.w - F.uw) F.A) (F0 m 14 ls [])) → ∀ (v0 : Nat) (v1 : Int32) (v2 : Int32) (v3 : Nat) (v4 : Int32) (v5 : Int32) (S : ZS) (ad : Nat → Nat) (N : Nat) (bv0 : Nat) (bv3 : Nat) (H : Heap) (locs : List Loc) (ls : Array Slot) (cells slots : Nat), GL E s F H locs ad N S cells slots → RA E ad N v0 bv0 → RA E ad N v3 bv3 → lv_has ls 6 [(0, .ref bv0), (1, .int v1), (2, .int v2), (3, .ref bv3), (4, .int v4), (5, .int v5)] → kX12_move_52 K14 v0 v1 v2 v3 v4 v5 S = some u → W p l e (F.R 1) s m args below meth c H locs cells slots (MQ below (QVL E s.heap.size F.ad S0 u) args s (F.c - F.uc) (F.w - F.uw) F.A) (F0 m 52 ls []) := by
    intro K14 hK14 v0 v1 v2 v3 v4 v5 S ad N bv0 bv3 H locs ls cells slots hG hv0 hv3 hl h
    unfold kX12_move_52 at h
    refine lv_aload_n hx hb dX12_move_52 rfl (lv_at hl 3 rfl) ?_
    refine lv_iload hx hb dX12_move_53 (lv_at hl 5 rfl) ?_
    refine lv_aload_n hx hb dX12_move_55 rfl (lv_at hl 0 rfl) ?_
    refine r2_gN C hG hv0 FQX12_22 rfl dX12_move_56 h (fun c1 bc1 h_c1 h => ?_)
    refine lv_iload hx hb dX12_move_59 (lv_at hl 4 rfl) ?_
    refine r2_gAI C hG h_c1 dX12_move_61 h (fun x2 h => ?_)
    refine r2_pAI C hG hv3 dX12_move_62 h (fun H locs S3 hG h => ?_)
    refine r_iinc (w := 1) (lv' := fun x4 => [(4, .int x4), (0, .ref bv0), (1, .int v1), (2, .int v2), (3, .ref bv3), (5, .int v5)]) C dX12_move_63 hl (k := 4) rfl (by decide) (by decide) (fun _ => rfl) h (fun x4 ls hl h => ?_)
    refine r_iinc (w := 1) (lv' := fun x5 => [(5, .int x5), (4, .int x4), (0, .ref bv0), (1, .int v1), (2, .int v2), (3, .ref bv3)]) C dX12_move_66 hl (k := 5) rfl (by decide) (by decide) (fun _ => rfl) h (fun x5 ls hl h => ?_)
    refine lv_goto (tgt := 14) hx hb dX12_move_69 (by decide) ?_
    exact hK14 v0 v1 v2 v3 x4 x5 S3 _ _ _ _ _ _ _ _ _ hG hv0 hv3 (lv_sub hl [2, 3, 4, 5, 1, 0] rfl) h
  have j14 : ∀ f : Nat, ∀ (v0 : Nat) (v1 : Int32) (v2 : Int32) (v3 : Nat) (v4 : Int32) (v5 : Int32) (S : ZS) (ad : Nat → Nat) (N : Nat) (bv0 : Nat) (bv3 : Nat) (H : Heap) (locs : List Loc) (ls : Array Slot) (cells slots : Nat), GL E s F H locs ad N S cells slots → RA E ad N v0 bv0 → RA E ad N v3 bv3 → lv_has ls 6 [(0, .ref bv0), (1, .int v1), (2, .int v2), (3, .ref bv3), (4, .int v4), (5, .int v5)] → kX12_move_14 f v0 v1 v2 v3 v4 v5 S = some u → W p l e (F.R 1) s m args below meth c H locs cells slots (MQ below (QVL E s.heap.size F.ad S0 u) args s (F.c - F.uc) (F.w - F.uw) F.A) (F0 m 14 ls []) := by
    intro f
    induction f with
    | zero =>
      intro v0 v1 v2 v3 v4 v5 S ad N bv0 bv3 H locs ls cells slots hG hv0 hv3 hl h
      unfold kX12_move_14 at h
      cases h
    | succ f ih =>
      intro v0 v1 v2 v3 v4 v5 S ad N bv0 bv3 H locs ls cells slots hG hv0 hv3 hl h
      unfold kX12_move_14 at h
      refine lv_iload hx hb dX12_move_14 (lv_at hl 5 rfl) ?_
      refine lv_aload_n hx hb dX12_move_16 rfl (lv_at hl 0 rfl) ?_
      refine r2_gN C hG hv0 FQX12_22 rfl dX12_move_17 h (fun c6 bc6 h_c6 h => ?_)
      refine r2_len C hG h_c6 100000 (Or.inl rfl) dX12_move_20 h (fun x7 h => ?_)
      refine lv_icmp_ge (tgt := 72) hx hb dX12_move_21 (by decide) (fun g8 => ?_) (fun g8 => ?_)
      · have h := (if_inv h).1 g8
        refine lv_aload_n hx hb dX12_move_72 rfl (lv_at hl 0 rfl) ?_
        refine lv_aload_n hx hb dX12_move_73 rfl (lv_at hl 3 rfl) ?_
        refine r2_pR C hG hv0 hv3.RV FQX12_22 (Or.inl rfl) rfl rfl rfl dX12_move_74 h (fun H locs S9 hG h => ?_)
        exact r2_vret C hF hG hr dX12_move_77 h
      · have h := (if_inv h).2 g8
        refine lv_iload hx hb dX12_move_24 (lv_at hl 5 rfl) ?_
        refine lv_iload_n hx hb dX12_move_26 rfl (lv_at hl 2 rfl) ?_
        refine lv_icmp_ne (tgt := 38) hx hb dX12_move_27 (by decide) (fun g10 => ?_) (fun g10 => ?_)
        · have h := (if_inv h).2 g10
          refine lv_aload_n hx hb dX12_move_38 rfl (lv_at hl 0 rfl) ?_
          refine r2_gN C hG hv0 FQX12_22 rfl dX12_move_39 h (fun c11 bc11 h_c11 h => ?_)
          refine lv_iload hx hb dX12_move_42 (lv_at hl 4 rfl) ?_
          refine r2_gAI C hG h_c11 dX12_move_44 h (fun x12 h => ?_)
          refine lv_iload_n hx hb dX12_move_45 rfl (lv_at hl 1 rfl) ?_
          refine lv_icmp_ne (tgt := 52) hx hb dX12_move_46 (by decide) (fun g13 => ?_) (fun g13 => ?_)
          · have h := (if_inv h).2 g13
            exact j52 (kX12_move_14 f) ih v0 v1 v2 v3 v4 v5 S _ _ _ _ _ _ _ _ _ hG hv0 hv3 (lv_sub hl [0, 1, 2, 3, 4, 5] rfl) h
          · have h := (if_inv h).1 g13
            refine r_iinc (w := 1) (lv' := fun x14 => [(4, .int x14), (0, .ref bv0), (1, .int v1), (2, .int v2), (3, .ref bv3), (5, .int v5)]) C dX12_move_49 hl (k := 4) rfl (by decide) (by decide) (fun _ => rfl) h (fun x14 ls hl h => ?_)
            exact j52 (kX12_move_14 f) ih v0 v1 v2 v3 x14 v5 S _ _ _ _ _ _ _ _ _ hG hv0 hv3 (lv_sub hl [1, 2, 3, 4, 0, 5] rfl) h
        · have h := (if_inv h).1 g10
          refine lv_aload_n hx hb dX12_move_30 rfl (lv_at hl 3 rfl) ?_
          refine lv_iload hx hb dX12_move_31 (lv_at hl 5 rfl) ?_
          refine lv_iload_n hx hb dX12_move_33 rfl (lv_at hl 1 rfl) ?_
          refine r2_pAI C hG hv3 dX12_move_34 h (fun H locs S15 hG h => ?_)
          refine lv_goto (tgt := 66) hx hb dX12_move_35 (by decide) ?_
          refine r_iinc (w := 1) (lv' := fun x16 => [(5, .int x16), (0, .ref bv0), (1, .int v1), (2, .int v2), (3, .ref bv3), (4, .int v4)]) C dX12_move_66 hl (k := 5) rfl (by decide) (by decide) (fun _ => rfl) h (fun x16 ls hl h => ?_)
          refine lv_goto (tgt := 14) hx hb dX12_move_69 (by decide) ?_
          exact ih v0 v1 v2 v3 v4 x16 S15 _ _ _ _ _ _ _ _ _ hG hv0 hv3 (lv_sub hl [1, 2, 3, 4, 5, 0] rfl) h
  refine lv_aload_n hx hb dX12_move_0 rfl (lv_at hl 0 rfl) ?_
  refine r2_gN C hG h0 FQX12_22 rfl dX12_move_1 h (fun c17 bc17 h_c17 h => ?_)
  refine r2_len C hG h_c17 100000 (Or.inl rfl) dX12_move_4 h (fun x18 h => ?_)
  refine r2_newI C hA hG LAAI dX12_move_5 hU h (fun bc19 c19 H ad21 S20 cells slots hG hx9 h_c19 h => ?_)
  have h0 := h0.up hx9
  refine lv_astore_n (lv' := [(3, .ref bc19), (0, .ref b0), (1, .int a1), (2, .int a2)]) hx hb dX12_move_7 rfl hl (by decide) rfl (fun ls hl => ?_)
  refine lv_iconst (v := 0) hx hb dX12_move_8 (by decide) ?_
  refine lv_istore (lv' := [(4, .int 0), (3, .ref bc19), (0, .ref b0), (1, .int a1), (2, .int a2)]) hx hb dX12_move_9 hl (by decide) rfl (fun ls hl => ?_)
  refine lv_iconst (v := 0) hx hb dX12_move_11 (by decide) ?_
  refine lv_istore (lv' := [(5, .int 0), (4, .int 0), (3, .ref bc19), (0, .ref b0), (1, .int a1), (2, .int a2)]) hx hb dX12_move_12 hl (by decide) rfl (fun ls hl => ?_)
  exact j14 FU c0 a1 a2 c19 0 0 S20 _ _ _ _ _ _ _ _ _ hG h0 h_c19 (lv_sub hl [3, 4, 5, 2, 1, 0] rfl) h
def kX12_order_75  : Nat → Nat → Int32 → Int32 → Nat → Int32 → ZS → Option (Int32 × ZS)
  | 0, _, _, _, _, _, _ => none
  | f + 1, v0, v1, v2, v3, v4, S =>
        gN S v0 14 4 fun c1 =>
        aL S c1 400000 fun x2 =>
        if x2 ≤ v4 then
          gN S v0 14 4 fun c4 =>
          aL S c4 400000 fun x5 =>
          nA Prod.snd S 100000 2 fun c6 S7 =>
          aP S7 c6 100000 0 v1 fun S9 =>
          aP S9 c6 100000 1 v2 fun S10 =>
          aR S10 v3 400000 100000 x5 c6 fun S11 =>
          pR S11 v0 14 4 v3 fun S12 =>
          some (1, S12)
        else
          gN S v0 14 4 fun c13 =>
          aN S c13 400000 v4 fun c14 =>
          aR S v3 400000 100000 v4 c14 fun S15 =>
          bd (v4 + 1) fun x16 =>
          kX12_order_75 f v0 v1 v2 v3 x16 S15
def kX12_order_12  : Nat → Nat → Int32 → Int32 → Nat → Int32 → Int32 → ZS → Option (Int32 × ZS)
  | 0, _, _, _, _, _, _, _ => none
  | f + 1, v0, v1, v2, v3, v4, v5, S =>
        if v4 ≤ v5 then
          gN S v0 14 4 fun c18 =>
          aL S c18 400000 fun x19 =>
          if x19 = 12 then
            some (0, S)
          else
            gN S v0 14 4 fun c21 =>
            aL S c21 400000 fun x22 =>
            nA Prod.snd S 400000 (x22 + 1) fun c23 S24 =>
            kX12_order_75 FU v0 v1 v2 c23 0 S24
        else
          aN S v3 400000 v5 fun c26 =>
          aG S c26 100000 0 fun x27 =>
          if x27 = v1 then
            aG S c26 100000 1 fun x30 =>
            if x30 = v2 then
              some (0, S)
            else
              bd (v5 + 1) fun x32 =>
              kX12_order_12 f v0 v1 v2 v3 v4 x32 S
          else
            bd (v5 + 1) fun x29 =>
            kX12_order_12 f v0 v1 v2 v3 v4 x29 S
def kX12_order (c0 : Nat) (a1 : Int32) (a2 : Int32) (S0 : ZS) : Option (Int32 × ZS) :=
  chk Prod.snd S0 <|
  gN S0 c0 14 4 fun c33 =>
  aL S0 c33 400000 fun x34 =>
  kX12_order_12 FU c0 a1 a2 c33 x34 0 S0
set_option maxRecDepth 100000 in
set_option maxHeartbeats 8000000 in
theorem mX12_order (E : EV) (l : Launch) (c0 : Nat) (a1 : Int32) (a2 : Int32) (S0 : ZS) (q0 : c0 ≠ 0 ∧ rk S0.n c0) : ∀ u, kX12_order c0 a1 a2 S0 = some u → MIL E l yX12_order cX12_order 7 (Option.some Jvm.ClassFile.FieldType.boolean) 1 (fun ad => [.ref (rA E ad c0), .int a1, .int a2]) S0 u := by
  intro u h
  unfold kX12_order at h
  obtain ⟨hcw, h⟩ := chk_inv h
  refine ML2.of (by decide +kernel) (fun ad => Nat.le_of_ble_eq_true rfl) hcw ?_
  intro p e s m args below meth c ad F hF C hA hr hnm ls hl hG
  have C : Cx p s m args meth c cX12_order 7 RX12 E := C
  have hx := C.1
  have hb := C.2.1
  have hU : F.uc = (u.2).c ∧ F.uw = (u.2).w := ⟨hF.2.2.2.2.1, hF.2.2.2.2.2⟩
  have hl : lv_has ls 7 [(0, .ref (rA E ad c0)), (1, .int a1), (2, .int a2)] := hl
  obtain ⟨b0, h0, e0⟩ : ∃ b, RA E ad S0.n c0 b ∧ b = rA E ad c0 := ⟨_, RA.of q0.1 q0.2, rfl⟩
  rw [← e0] at hl
  have j75 : ∀ f : Nat, ∀ (v0 : Nat) (v1 : Int32) (v2 : Int32) (v3 : Nat) (v4 : Int32) (S : ZS) (ad : Nat → Nat) (N : Nat) (bv0 : Nat) (bv3 : Nat) (H : Heap) (locs : List Loc) (ls : Array Slot) (cells slots : Nat), GL E s F H locs ad N S cells slots → RA E ad N v0 bv0 → RA E ad N v3 bv3 → lv_has ls 7 [(0, .ref bv0), (1, .int v1), (2, .int v2), (3, .ref bv3), (4, .int v4)] → kX12_order_75 f v0 v1 v2 v3 v4 S = some u → W p l e (F.R 1) s m args below meth c H locs cells slots (MQ below (QIL E s.heap.size F.ad S0 u) args s (F.c - F.uc) (F.w - F.uw) F.A) (F0 m 75 ls []) := by
    intro f
    induction f with
    | zero =>
      intro v0 v1 v2 v3 v4 S ad N bv0 bv3 H locs ls cells slots hG hv0 hv3 hl h
      unfold kX12_order_75 at h
      cases h
    | succ f ih =>
      intro v0 v1 v2 v3 v4 S ad N bv0 bv3 H locs ls cells slots hG hv0 hv3 hl h
      unfold kX12_order_75 at h
      refine lv_iload hx hb dX12_order_75 (lv_at hl 4 rfl) ?_
      refine lv_aload_n hx hb dX12_order_77 rfl (lv_at hl 0 rfl) ?_
      refine r2_gN C hG hv0 FQX12_25 rfl dX12_order_78 h (fun c1 bc1 h_c1 h => ?_)
      refine r2_len C hG h_c1 400000 (Or.inr (Or.inr (Or.inr (Or.inl rfl)))) dX12_order_81 h (fun x2 h => ?_)
      refine lv_icmp_ge (tgt := 102) hx hb dX12_order_82 (by decide) (fun g3 => ?_) (fun g3 => ?_)
      · have h := (if_inv h).1 g3
        refine lv_aload_n hx hb dX12_order_102 rfl (lv_at hl 3 rfl) ?_
        refine lv_aload_n hx hb dX12_order_103 rfl (lv_at hl 0 rfl) ?_
        refine r2_gN C hG hv0 FQX12_25 rfl dX12_order_104 h (fun c4 bc4 h_c4 h => ?_)
        refine r2_len C hG h_c4 400000 (Or.inr (Or.inr (Or.inr (Or.inl rfl)))) dX12_order_107 h (fun x5 h => ?_)
        refine lv_iconst (v := 2) hx hb dX12_order_108 (by decide) ?_
        refine r2_newI C hA hG LAAI dX12_order_109 hU h (fun bc6 c6 H ad8 S7 cells slots hG hx9 h_c6 h => ?_)
        have hv0 := hv0.up hx9
        have hv3 := hv3.up hx9
        refine lv_dup hx hb dX12_order_111 rfl ?_
        refine lv_iconst (v := 0) hx hb dX12_order_112 (by decide) ?_
        refine lv_iload_n hx hb dX12_order_113 rfl (lv_at hl 1 rfl) ?_
        refine r2_pAI C hG h_c6 dX12_order_114 h (fun H locs S9 hG h => ?_)
        refine lv_dup hx hb dX12_order_115 rfl ?_
        refine lv_iconst (v := 1) hx hb dX12_order_116 (by decide) ?_
        refine lv_iload_n hx hb dX12_order_117 rfl (lv_at hl 2 rfl) ?_
        refine r2_pAI C hG h_c6 dX12_order_118 h (fun H locs S10 hG h => ?_)
        refine r2_pAA C hG hv3 LAO h_c6 dX12_order_119 h (fun H locs S11 hG h => ?_)
        refine lv_aload_n hx hb dX12_order_120 rfl (lv_at hl 0 rfl) ?_
        refine lv_aload_n hx hb dX12_order_121 rfl (lv_at hl 3 rfl) ?_
        refine r2_pR C hG hv0 hv3.RV FQX12_25 (Or.inl rfl) rfl rfl rfl dX12_order_122 h (fun H locs S12 hG h => ?_)
        refine lv_iconst (v := 1) hx hb dX12_order_125 (by decide) ?_
        exact r2_iret C hF hG hr rfl dX12_order_126 h
      · have h := (if_inv h).2 g3
        refine lv_aload_n hx hb dX12_order_85 rfl (lv_at hl 3 rfl) ?_
        refine lv_iload hx hb dX12_order_86 (lv_at hl 4 rfl) ?_
        refine lv_aload_n hx hb dX12_order_88 rfl (lv_at hl 0 rfl) ?_
        refine r2_gN C hG hv0 FQX12_25 rfl dX12_order_89 h (fun c13 bc13 h_c13 h => ?_)
        refine lv_iload hx hb dX12_order_92 (lv_at hl 4 rfl) ?_
        refine r2_gAA C hG h_c13 dX12_order_94 h (fun c14 bc14 h_c14 h => ?_)
        refine r2_pAA C hG hv3 LAO h_c14 dX12_order_95 h (fun H locs S15 hG h => ?_)
        refine r_iinc (w := 1) (lv' := fun x16 => [(4, .int x16), (0, .ref bv0), (1, .int v1), (2, .int v2), (3, .ref bv3)]) C dX12_order_96 hl (k := 4) rfl (by decide) (by decide) (fun _ => rfl) h (fun x16 ls hl h => ?_)
        refine lv_goto (tgt := 75) hx hb dX12_order_99 (by decide) ?_
        exact ih v0 v1 v2 v3 x16 S15 _ _ _ _ _ _ _ _ _ hG hv0 hv3 (lv_sub hl [1, 2, 3, 4, 0] rfl) h
  have j12 : ∀ f : Nat, ∀ (v0 : Nat) (v1 : Int32) (v2 : Int32) (v3 : Nat) (v4 : Int32) (v5 : Int32) (S : ZS) (ad : Nat → Nat) (N : Nat) (bv0 : Nat) (bv3 : Nat) (H : Heap) (locs : List Loc) (ls : Array Slot) (cells slots : Nat), GL E s F H locs ad N S cells slots → RA E ad N v0 bv0 → RA E ad N v3 bv3 → lv_has ls 7 [(0, .ref bv0), (1, .int v1), (2, .int v2), (3, .ref bv3), (4, .int v4), (5, .int v5)] → kX12_order_12 f v0 v1 v2 v3 v4 v5 S = some u → W p l e (F.R 1) s m args below meth c H locs cells slots (MQ below (QIL E s.heap.size F.ad S0 u) args s (F.c - F.uc) (F.w - F.uw) F.A) (F0 m 12 ls []) := by
    intro f
    induction f with
    | zero =>
      intro v0 v1 v2 v3 v4 v5 S ad N bv0 bv3 H locs ls cells slots hG hv0 hv3 hl h
      unfold kX12_order_12 at h
      cases h
    | succ f ih =>
      intro v0 v1 v2 v3 v4 v5 S ad N bv0 bv3 H locs ls cells slots hG hv0 hv3 hl h
      unfold kX12_order_12 at h
      refine lv_iload hx hb dX12_order_12 (lv_at hl 5 rfl) ?_
      refine lv_iload hx hb dX12_order_14 (lv_at hl 4 rfl) ?_
      refine lv_icmp_ge (tgt := 49) hx hb dX12_order_16 (by decide) (fun g17 => ?_) (fun g17 => ?_)
      · have h := (if_inv h).1 g17
        refine lv_aload_n hx hb dX12_order_49 rfl (lv_at hl 0 rfl) ?_
        refine r2_gN C hG hv0 FQX12_25 rfl dX12_order_50 h (fun c18 bc18 h_c18 h => ?_)
        refine r2_len C hG h_c18 400000 (Or.inr (Or.inr (Or.inr (Or.inl rfl)))) dX12_order_53 h (fun x19 h => ?_)
        refine lv_bipush (v := 12) hx hb dX12_order_54 (by decide) ?_
        refine lv_icmp_ne (tgt := 61) hx hb dX12_order_56 (by decide) (fun g20 => ?_) (fun g20 => ?_)
        · have h := (if_inv h).2 g20
          refine lv_aload_n hx hb dX12_order_61 rfl (lv_at hl 0 rfl) ?_
          refine r2_gN C hG hv0 FQX12_25 rfl dX12_order_62 h (fun c21 bc21 h_c21 h => ?_)
          refine r2_len C hG h_c21 400000 (Or.inr (Or.inr (Or.inr (Or.inl rfl)))) dX12_order_65 h (fun x22 h => ?_)
          refine lv_iconst (v := 1) hx hb dX12_order_66 (by decide) ?_
          refine lv_iadd hx hb dX12_order_67 ?_
          refine r2_newA C hA hG LKAX12_16 LAO dX12_order_68 hU h (fun bc23 c23 H ad25 S24 cells slots hG hx9 h_c23 h => ?_)
          have hv0 := hv0.up hx9
          have hv3 := hv3.up hx9
          refine lv_astore_n (lv' := [(3, .ref bc23), (0, .ref bv0), (1, .int v1), (2, .int v2), (4, .int v4), (5, .int v5)]) hx hb dX12_order_71 rfl hl (by decide) rfl (fun ls hl => ?_)
          refine lv_iconst (v := 0) hx hb dX12_order_72 (by decide) ?_
          refine lv_istore (lv' := [(4, .int 0), (3, .ref bc23), (0, .ref bv0), (1, .int v1), (2, .int v2), (5, .int v5)]) hx hb dX12_order_73 hl (by decide) rfl (fun ls hl => ?_)
          exact j75 FU v0 v1 v2 c23 0 S24 _ _ _ _ _ _ _ _ _ hG hv0 h_c23 (lv_sub hl [2, 3, 4, 1, 0] rfl) h
        · have h := (if_inv h).1 g20
          refine lv_iconst (v := 0) hx hb dX12_order_59 (by decide) ?_
          exact r2_iret C hF hG hr rfl dX12_order_60 h
      · have h := (if_inv h).2 g17
        refine lv_aload_n hx hb dX12_order_19 rfl (lv_at hl 3 rfl) ?_
        refine lv_iload hx hb dX12_order_20 (lv_at hl 5 rfl) ?_
        refine r2_gAA C hG hv3 dX12_order_22 h (fun c26 bc26 h_c26 h => ?_)
        refine lv_astore (lv' := [(6, .ref bc26), (0, .ref bv0), (1, .int v1), (2, .int v2), (3, .ref bv3), (4, .int v4), (5, .int v5)]) hx hb dX12_order_23 hl (by decide) rfl (fun ls hl => ?_)
        refine lv_aload hx hb dX12_order_25 (lv_at hl 0 rfl) ?_
        refine lv_iconst (v := 0) hx hb dX12_order_27 (by decide) ?_
        refine r2_gAI C hG h_c26 dX12_order_28 h (fun x27 h => ?_)
        refine lv_iload_n hx hb dX12_order_29 rfl (lv_at hl 2 rfl) ?_
        refine lv_icmp_ne (tgt := 43) hx hb dX12_order_30 (by decide) (fun g28 => ?_) (fun g28 => ?_)
        · have h := (if_inv h).2 g28
          refine r_iinc (w := 1) (lv' := fun x29 => [(5, .int x29), (6, .ref bc26), (0, .ref bv0), (1, .int v1), (2, .int v2), (3, .ref bv3), (4, .int v4)]) C dX12_order_43 hl (k := 6) rfl (by decide) (by decide) (fun _ => rfl) h (fun x29 ls hl h => ?_)
          refine lv_goto (tgt := 12) hx hb dX12_order_46 (by decide) ?_
          exact ih v0 v1 v2 v3 v4 x29 S _ _ _ _ _ _ _ _ _ hG hv0 hv3 (lv_sub hl [2, 3, 4, 5, 6, 0] rfl) h
        · have h := (if_inv h).1 g28
          refine lv_aload hx hb dX12_order_33 (lv_at hl 0 rfl) ?_
          refine lv_iconst (v := 1) hx hb dX12_order_35 (by decide) ?_
          refine r2_gAI C hG h_c26 dX12_order_36 h (fun x30 h => ?_)
          refine lv_iload_n hx hb dX12_order_37 rfl (lv_at hl 3 rfl) ?_
          refine lv_icmp_ne (tgt := 43) hx hb dX12_order_38 (by decide) (fun g31 => ?_) (fun g31 => ?_)
          · have h := (if_inv h).2 g31
            refine r_iinc (w := 1) (lv' := fun x32 => [(5, .int x32), (6, .ref bc26), (0, .ref bv0), (1, .int v1), (2, .int v2), (3, .ref bv3), (4, .int v4)]) C dX12_order_43 hl (k := 6) rfl (by decide) (by decide) (fun _ => rfl) h (fun x32 ls hl h => ?_)
            refine lv_goto (tgt := 12) hx hb dX12_order_46 (by decide) ?_
            exact ih v0 v1 v2 v3 v4 x32 S _ _ _ _ _ _ _ _ _ hG hv0 hv3 (lv_sub hl [2, 3, 4, 5, 6, 0] rfl) h
          · have h := (if_inv h).1 g31
            refine lv_iconst (v := 0) hx hb dX12_order_41 (by decide) ?_
            exact r2_iret C hF hG hr rfl dX12_order_42 h
  refine lv_aload_n hx hb dX12_order_0 rfl (lv_at hl 0 rfl) ?_
  refine r2_gN C hG h0 FQX12_25 rfl dX12_order_1 h (fun c33 bc33 h_c33 h => ?_)
  refine lv_astore_n (lv' := [(3, .ref bc33), (0, .ref b0), (1, .int a1), (2, .int a2)]) hx hb dX12_order_4 rfl hl (by decide) rfl (fun ls hl => ?_)
  refine lv_aload_n hx hb dX12_order_5 rfl (lv_at hl 0 rfl) ?_
  refine r2_len C hG h_c33 400000 (Or.inr (Or.inr (Or.inr (Or.inl rfl)))) dX12_order_6 h (fun x34 h => ?_)
  refine lv_istore (lv' := [(4, .int x34), (3, .ref bc33), (0, .ref b0), (1, .int a1), (2, .int a2)]) hx hb dX12_order_7 hl (by decide) rfl (fun ls hl => ?_)
  refine lv_iconst (v := 0) hx hb dX12_order_9 (by decide) ?_
  refine lv_istore (lv' := [(5, .int 0), (4, .int x34), (3, .ref bc33), (0, .ref b0), (1, .int a1), (2, .int a2)]) hx hb dX12_order_10 hl (by decide) rfl (fun ls hl => ?_)
  exact j12 FU c0 a1 a2 c33 x34 0 S0 _ _ _ _ _ _ _ _ _ hG h0 h_c33 (lv_sub hl [3, 4, 5, 2, 1, 0] rfl) h
def kX12_isCovered (c0 : Nat) (a1 : Int32) (S0 : ZS) : Option (Int32 × ZS) :=
  chk Prod.snd S0 <|
  gI S0 c0 14 5 fun x1 =>
  if x1 ≤ 0 then
    some (0, S0)
  else
    gN S0 c0 14 4 fun c3 =>
    aN S0 c3 400000 0 fun c4 =>
    aG S0 c4 100000 1 fun x5 =>
    if x5 = a1 then
      some (1, S0)
    else
      some (0, S0)
set_option maxRecDepth 100000 in
set_option maxHeartbeats 8000000 in
theorem mX12_isCovered (E : EV) (l : Launch) (c0 : Nat) (a1 : Int32) (S0 : ZS) (q0 : c0 ≠ 0 ∧ rk S0.n c0) : ∀ u, kX12_isCovered c0 a1 S0 = some u → MIL E l yX12_isCovered cX12_isCovered 2 (Option.some Jvm.ClassFile.FieldType.boolean) 1 (fun ad => [.ref (rA E ad c0), .int a1]) S0 u := by
  intro u h
  unfold kX12_isCovered at h
  obtain ⟨hcw, h⟩ := chk_inv h
  refine ML2.of (by decide +kernel) (fun ad => Nat.le_of_ble_eq_true rfl) hcw ?_
  intro p e s m args below meth c ad F hF C hA hr hnm ls hl hG
  have C : Cx p s m args meth c cX12_isCovered 2 RX12 E := C
  have hx := C.1
  have hb := C.2.1
  have hU : F.uc = (u.2).c ∧ F.uw = (u.2).w := ⟨hF.2.2.2.2.1, hF.2.2.2.2.2⟩
  have hl : lv_has ls 2 [(0, .ref (rA E ad c0)), (1, .int a1)] := hl
  obtain ⟨b0, h0, e0⟩ : ∃ b, RA E ad S0.n c0 b ∧ b = rA E ad c0 := ⟨_, RA.of q0.1 q0.2, rfl⟩
  rw [← e0] at hl
  refine lv_aload_n hx hb dX12_isCovered_0 rfl (lv_at hl 0 rfl) ?_
  refine r2_gI C hG h0 FQX12_39 rfl dX12_isCovered_1 h (fun x1 h => ?_)
  refine lv_if_le (tgt := 23) hx hb dX12_isCovered_4 (by decide) (fun g2 => ?_) (fun g2 => ?_)
  · have h := (if_inv h).1 g2
    refine lv_iconst (v := 0) hx hb dX12_isCovered_23 (by decide) ?_
    exact r2_iret C hF hG hr rfl dX12_isCovered_24 h
  · have h := (if_inv h).2 g2
    refine lv_aload_n hx hb dX12_isCovered_7 rfl (lv_at hl 0 rfl) ?_
    refine r2_gN C hG h0 FQX12_25 rfl dX12_isCovered_8 h (fun c3 bc3 h_c3 h => ?_)
    refine lv_iconst (v := 0) hx hb dX12_isCovered_11 (by decide) ?_
    refine r2_gAA C hG h_c3 dX12_isCovered_12 h (fun c4 bc4 h_c4 h => ?_)
    refine lv_iconst (v := 1) hx hb dX12_isCovered_13 (by decide) ?_
    refine r2_gAI C hG h_c4 dX12_isCovered_14 h (fun x5 h => ?_)
    refine lv_iload_n hx hb dX12_isCovered_15 rfl (lv_at hl 1 rfl) ?_
    refine lv_icmp_ne (tgt := 23) hx hb dX12_isCovered_16 (by decide) (fun g6 => ?_) (fun g6 => ?_)
    · have h := (if_inv h).2 g6
      refine lv_iconst (v := 0) hx hb dX12_isCovered_23 (by decide) ?_
      exact r2_iret C hF hG hr rfl dX12_isCovered_24 h
    · have h := (if_inv h).1 g6
      refine lv_iconst (v := 1) hx hb dX12_isCovered_19 (by decide) ?_
      refine lv_goto (tgt := 24) hx hb dX12_isCovered_20 (by decide) ?_
      exact r2_iret C hF hG hr rfl dX12_isCovered_24 h
def kX12_light_73 (K9 : Nat → Int32 → Int32 → Int32 → Int32 → ZS → Option (Int32 × ZS)) (v0 : Nat) (v1 : Int32) (v3 : Int32) (v4 : Int32) (v5 : Nat) (vt0 : Int32) (S : ZS) : Option (Int32 × ZS) :=
      bd vt0 fun x1 =>
      aG S v5 100000 2 fun x2 =>
      bd (v3 + (x2 * 2)) fun x3 =>
      bd (v4 + 1) fun x4 =>
      K9 v0 v1 x1 x3 x4 S
def kX12_light_9  : Nat → Nat → Int32 → Int32 → Int32 → Int32 → ZS → Option (Int32 × ZS)
  | 0, _, _, _, _, _, _ => none
  | f + 1, v0, v1, v2, v3, v4, S =>
        if v1 ≤ v4 then
          some (v2, S)
        else
          gN S v0 14 2 fun c6 =>
          gN S v0 14 3 fun c7 =>
          aG S c7 100000 v4 fun x8 =>
          aN S c6 400000 x8 fun c9 =>
          gI S v0 14 0 fun x10 =>
          if x10 < v3 then
            kX12_light_73 (kX12_light_9 f) v0 v1 v3 v4 c9 0 S
          else
            gI S v0 14 0 fun x12 =>
            if x12 < (-v3) then
              kX12_light_73 (kX12_light_9 f) v0 v1 v3 v4 c9 0 S
            else
              gN S v0 14 3 fun c14 =>
              aG S c14 100000 v4 fun x15 =>
              rcv S v0 14 <| b2 Prod.snd (kX12_isCovered v0 x15 S) fun x18 S16 =>
              if x18 = 0 then
                aG S16 c9 100000 0 fun x20 =>
                dv (v2 * x20) 100 fun x21 =>
                kX12_light_73 (kX12_light_9 f) v0 v1 v3 v4 c9 x21 S16
              else
                kX12_light_73 (kX12_light_9 f) v0 v1 v3 v4 c9 0 S16
def kX12_light (c0 : Nat) (a1 : Int32) (S0 : ZS) : Option (Int32 × ZS) :=
  chk Prod.snd S0 <|
  kX12_light_9 FU c0 a1 10000 0 0 S0
set_option maxRecDepth 100000 in
set_option maxHeartbeats 8000000 in
theorem mX12_light (E : EV) (l : Launch) (c0 : Nat) (a1 : Int32) (S0 : ZS) (q0 : c0 ≠ 0 ∧ rk S0.n c0) : ∀ u, kX12_light c0 a1 S0 = some u → MIL E l yX12_light cX12_light 6 (Option.some Jvm.ClassFile.FieldType.int) 2 (fun ad => [.ref (rA E ad c0), .int a1]) S0 u := by
  intro u h
  unfold kX12_light at h
  obtain ⟨hcw, h⟩ := chk_inv h
  refine ML2.of (by decide +kernel) (fun ad => Nat.le_of_ble_eq_true rfl) hcw ?_
  intro p e s m args below meth c ad F hF C hA hr hnm ls hl hG
  have C : Cx p s m args meth c cX12_light 6 RX12 E := C
  have hx := C.1
  have hb := C.2.1
  have hU : F.uc = (u.2).c ∧ F.uw = (u.2).w := ⟨hF.2.2.2.2.1, hF.2.2.2.2.2⟩
  have hl : lv_has ls 6 [(0, .ref (rA E ad c0)), (1, .int a1)] := hl
  obtain ⟨b0, h0, e0⟩ : ∃ b, RA E ad S0.n c0 b ∧ b = rA E ad c0 := ⟨_, RA.of q0.1 q0.2, rfl⟩
  rw [← e0] at hl
  have j73 : ∀ (K9 : Nat → Int32 → Int32 → Int32 → Int32 → ZS → Option (Int32 × ZS)), (∀ (v0 : Nat) (v1 : Int32) (v2 : Int32) (v3 : Int32) (v4 : Int32) (S : ZS) (ad : Nat → Nat) (N : Nat) (bv0 : Nat) (H : Heap) (locs : List Loc) (ls : Array Slot) (cells slots : Nat), GL E s F H locs ad N S cells slots → RA E ad N v0 bv0 → lv_has ls 6 [(0, .ref bv0), (1, .int v1), (2, .int v2), (3, .int v3), (4, .int v4)] → K9 v0 v1 v2 v3 v4 S = some u → W p l e (F.R 2) s m args below meth c H locs cells slots (MQ below (QIL E s.heap.size F.ad S0 u) args s (F.c - F.uc) (F.w - F.uw) F.A) (F0 m 9 ls [])) → ∀ (v0 : Nat) (v1 : Int32) (v3 : Int32) (v4 : Int32) (v5 : Nat) (vt0 : Int32) (S : ZS) (ad : Nat → Nat) (N : Nat) (bv0 : Nat) (bv5 : Nat) (H : Heap) (locs : List Loc) (ls : Array Slot) (cells slots : Nat), GL E s F H locs ad N S cells slots → RA E ad N v0 bv0 → RA E ad N v5 bv5 → lv_has ls 6 [(0, .ref bv0), (1, .int v1), (3, .int v3), (4, .int v4), (5, .ref bv5)] → kX12_light_73 K9 v0 v1 v3 v4 v5 vt0 S = some u → W p l e (F.R 2) s m args below meth c H locs cells slots (MQ below (QIL E s.heap.size F.ad S0 u) args s (F.c - F.uc) (F.w - F.uw) F.A) (F0 m 73 ls [.int vt0]) := by
    intro K9 hK9 v0 v1 v3 v4 v5 vt0 S ad N bv0 bv5 H locs ls cells slots hG hv0 hv5 hl h
    unfold kX12_light_73 at h
    refine r_nm h (fun x1 h => ?_)
    refine lv_istore_n (lv' := [(2, .int x1), (0, .ref bv0), (1, .int v1), (3, .int v3), (4, .int v4), (5, .ref bv5)]) hx hb dX12_light_73 rfl hl (by decide) rfl (fun ls hl => ?_)
    refine lv_iload_n hx hb dX12_light_74 rfl (lv_at hl 3 rfl) ?_
    refine lv_aload hx hb dX12_light_75 (lv_at hl 5 rfl) ?_
    refine lv_iconst (v := 2) hx hb dX12_light_77 (by decide) ?_
    refine r2_gAI C hG hv5 dX12_light_78 h (fun x2 h => ?_)
    refine lv_iconst (v := 2) hx hb dX12_light_79 (by decide) ?_
    refine lv_imul hx hb dX12_light_80 ?_
    refine lv_iadd hx hb dX12_light_81 ?_
    refine r_nm h (fun x3 h => ?_)
    refine lv_istore_n (lv' := [(3, .int x3), (2, .int x1), (0, .ref bv0), (1, .int v1), (4, .int v4), (5, .ref bv5)]) hx hb dX12_light_82 rfl hl (by decide) rfl (fun ls hl => ?_)
    refine r_iinc (w := 1) (lv' := fun x4 => [(4, .int x4), (3, .int x3), (2, .int x1), (0, .ref bv0), (1, .int v1), (5, .ref bv5)]) C dX12_light_83 hl (k := 4) rfl (by decide) (by decide) (fun _ => rfl) h (fun x4 ls hl h => ?_)
    refine lv_goto (tgt := 9) hx hb dX12_light_86 (by decide) ?_
    exact hK9 v0 v1 x1 x3 x4 S _ _ _ _ _ _ _ _ hG hv0 (lv_sub hl [3, 4, 2, 1, 0] rfl) h
  have j9 : ∀ f : Nat, ∀ (v0 : Nat) (v1 : Int32) (v2 : Int32) (v3 : Int32) (v4 : Int32) (S : ZS) (ad : Nat → Nat) (N : Nat) (bv0 : Nat) (H : Heap) (locs : List Loc) (ls : Array Slot) (cells slots : Nat), GL E s F H locs ad N S cells slots → RA E ad N v0 bv0 → lv_has ls 6 [(0, .ref bv0), (1, .int v1), (2, .int v2), (3, .int v3), (4, .int v4)] → kX12_light_9 f v0 v1 v2 v3 v4 S = some u → W p l e (F.R 2) s m args below meth c H locs cells slots (MQ below (QIL E s.heap.size F.ad S0 u) args s (F.c - F.uc) (F.w - F.uw) F.A) (F0 m 9 ls []) := by
    intro f
    induction f with
    | zero =>
      intro v0 v1 v2 v3 v4 S ad N bv0 H locs ls cells slots hG hv0 hl h
      unfold kX12_light_9 at h
      cases h
    | succ f ih =>
      intro v0 v1 v2 v3 v4 S ad N bv0 H locs ls cells slots hG hv0 hl h
      unfold kX12_light_9 at h
      refine lv_iload hx hb dX12_light_9 (lv_at hl 4 rfl) ?_
      refine lv_iload_n hx hb dX12_light_11 rfl (lv_at hl 1 rfl) ?_
      refine lv_icmp_ge (tgt := 89) hx hb dX12_light_12 (by decide) (fun g5 => ?_) (fun g5 => ?_)
      · have h := (if_inv h).1 g5
        refine lv_iload_n hx hb dX12_light_89 rfl (lv_at hl 2 rfl) ?_
        exact r2_iret C hF hG hr rfl dX12_light_90 h
      · have h := (if_inv h).2 g5
        refine lv_aload_n hx hb dX12_light_15 rfl (lv_at hl 0 rfl) ?_
        refine r2_gN C hG hv0 FQX12_18 rfl dX12_light_16 h (fun c6 bc6 h_c6 h => ?_)
        refine lv_aload_n hx hb dX12_light_19 rfl (lv_at hl 0 rfl) ?_
        refine r2_gN C hG hv0 FQX12_22 rfl dX12_light_20 h (fun c7 bc7 h_c7 h => ?_)
        refine lv_iload hx hb dX12_light_23 (lv_at hl 4 rfl) ?_
        refine r2_gAI C hG h_c7 dX12_light_25 h (fun x8 h => ?_)
        refine r2_gAA C hG h_c6 dX12_light_26 h (fun c9 bc9 h_c9 h => ?_)
        refine lv_astore (lv' := [(5, .ref bc9), (0, .ref bv0), (1, .int v1), (2, .int v2), (3, .int v3), (4, .int v4)]) hx hb dX12_light_27 hl (by decide) rfl (fun ls hl => ?_)
        refine lv_iload_n hx hb dX12_light_29 rfl (lv_at hl 4 rfl) ?_
        refine lv_aload_n hx hb dX12_light_30 rfl (lv_at hl 1 rfl) ?_
        refine r2_gI C hG hv0 FQX12_7 rfl dX12_light_31 h (fun x10 h => ?_)
        refine lv_icmp_gt (tgt := 60) hx hb dX12_light_34 (by decide) (fun g11 => ?_) (fun g11 => ?_)
        · have h := (if_inv h).1 g11
          refine lv_iconst (v := 0) hx hb dX12_light_60 (by decide) ?_
          refine lv_goto (tgt := 73) hx hb dX12_light_61 (by decide) ?_
          exact j73 (kX12_light_9 f) ih v0 v1 v3 v4 c9 0 S _ _ _ _ _ _ _ _ _ hG hv0 h_c9 (lv_sub hl [1, 2, 4, 5, 0] rfl) h
        · have h := (if_inv h).2 g11
          refine lv_iload_n hx hb dX12_light_37 rfl (lv_at hl 4 rfl) ?_
          refine lv_ineg hx hb dX12_light_38 ?_
          refine lv_aload_n hx hb dX12_light_39 rfl (lv_at hl 1 rfl) ?_
          refine r2_gI C hG hv0 FQX12_7 rfl dX12_light_40 h (fun x12 h => ?_)
          refine lv_icmp_gt (tgt := 60) hx hb dX12_light_43 (by decide) (fun g13 => ?_) (fun g13 => ?_)
          · have h := (if_inv h).1 g13
            refine lv_iconst (v := 0) hx hb dX12_light_60 (by decide) ?_
            refine lv_goto (tgt := 73) hx hb dX12_light_61 (by decide) ?_
            exact j73 (kX12_light_9 f) ih v0 v1 v3 v4 c9 0 S _ _ _ _ _ _ _ _ _ hG hv0 h_c9 (lv_sub hl [1, 2, 4, 5, 0] rfl) h
          · have h := (if_inv h).2 g13
            refine lv_aload_n hx hb dX12_light_46 rfl (lv_at hl 1 rfl) ?_
            refine lv_aload_n hx hb dX12_light_47 rfl (lv_at hl 1 rfl) ?_
            refine r2_gN C hG hv0 FQX12_22 rfl dX12_light_48 h (fun c14 bc14 h_c14 h => ?_)
            refine lv_iload hx hb dX12_light_51 (lv_at hl 5 rfl) ?_
            refine r2_gAI C hG h_c14 dX12_light_53 h (fun x15 h => ?_)
            refine r2_cVI C hA hl.1 hG hv0 [.int x15] [] (mX12_isCovered E l v0 x15 S (RAq hG hv0)) (by rw [hv0.1]) QLX12_48 KP14 rfl (rm2 (by decide) (by decide)) (Nat.le_of_ble_eq_true rfl) rfl dX12_light_54 hU h (fun x18 S16 H locs ad17 cells slots hG hx9 h => ?_)
            have h_c9 := h_c9.up hx9
            have hv0 := hv0.up hx9
            refine lv_if_eq (tgt := 64) hx hb dX12_light_57 (by decide) (fun g19 => ?_) (fun g19 => ?_)
            · have h := (if_inv h).1 g19
              refine lv_iload_n hx hb dX12_light_64 rfl (lv_at hl 3 rfl) ?_
              refine lv_aload hx hb dX12_light_65 (lv_at hl 0 rfl) ?_
              refine lv_iconst (v := 0) hx hb dX12_light_67 (by decide) ?_
              refine r2_gAI C hG h_c9 dX12_light_68 h (fun x20 h => ?_)
              refine lv_imul hx hb dX12_light_69 ?_
              refine lv_bipush (v := 100) hx hb dX12_light_70 (by decide) ?_
              refine r_div C dX12_light_72 h (fun x21 h => ?_)
              exact j73 (kX12_light_9 f) ih v0 v1 v3 v4 c9 x21 S16 _ _ _ _ _ _ _ _ _ hG hv0 h_c9 (lv_sub hl [1, 2, 4, 5, 0] rfl) h
            · have h := (if_inv h).2 g19
              refine lv_iconst (v := 0) hx hb dX12_light_60 (by decide) ?_
              refine lv_goto (tgt := 73) hx hb dX12_light_61 (by decide) ?_
              exact j73 (kX12_light_9 f) ih v0 v1 v3 v4 c9 0 S16 _ _ _ _ _ _ _ _ _ hG hv0 h_c9 (lv_sub hl [1, 2, 4, 5, 0] rfl) h
  refine lv_sipush (v := 10000) hx hb dX12_light_0 (by decide) ?_
  refine lv_istore_n (lv' := [(2, .int 10000), (0, .ref b0), (1, .int a1)]) hx hb dX12_light_3 rfl hl (by decide) rfl (fun ls hl => ?_)
  refine lv_iconst (v := 0) hx hb dX12_light_4 (by decide) ?_
  refine lv_istore_n (lv' := [(3, .int 0), (2, .int 10000), (0, .ref b0), (1, .int a1)]) hx hb dX12_light_5 rfl hl (by decide) rfl (fun ls hl => ?_)
  refine lv_iconst (v := 0) hx hb dX12_light_6 (by decide) ?_
  refine lv_istore (lv' := [(4, .int 0), (3, .int 0), (2, .int 10000), (0, .ref b0), (1, .int a1)]) hx hb dX12_light_7 hl (by decide) rfl (fun ls hl => ?_)
  exact j9 FU c0 a1 10000 0 0 S0 _ _ _ _ _ _ _ _ hG h0 (lv_sub hl [3, 4, 2, 1, 0] rfl) h
def kX12_end (c0 : Nat) (S0 : ZS) : Option (Int32 × ZS) :=
  chk Prod.snd S0 <|
  gN S0 c0 14 3 fun c1 =>
  aL S0 c1 100000 fun x2 =>
  rcv S0 c0 14 <| b2 Prod.snd (kX12_light c0 x2 S0) fun x5 S3 =>
  some (x5, S3)
set_option maxRecDepth 100000 in
set_option maxHeartbeats 8000000 in
theorem mX12_end (E : EV) (l : Launch) (c0 : Nat) (S0 : ZS) (q0 : c0 ≠ 0 ∧ rk S0.n c0) : ∀ u, kX12_end c0 S0 = some u → MIL E l yX12_end cX12_end 1 (Option.some Jvm.ClassFile.FieldType.int) 3 (fun ad => [.ref (rA E ad c0)]) S0 u := by
  intro u h
  unfold kX12_end at h
  obtain ⟨hcw, h⟩ := chk_inv h
  refine ML2.of (by decide +kernel) (fun ad => Nat.le_of_ble_eq_true rfl) hcw ?_
  intro p e s m args below meth c ad F hF C hA hr hnm ls hl hG
  have C : Cx p s m args meth c cX12_end 1 RX12 E := C
  have hx := C.1
  have hb := C.2.1
  have hU : F.uc = (u.2).c ∧ F.uw = (u.2).w := ⟨hF.2.2.2.2.1, hF.2.2.2.2.2⟩
  have hl : lv_has ls 1 [(0, .ref (rA E ad c0))] := hl
  obtain ⟨b0, h0, e0⟩ : ∃ b, RA E ad S0.n c0 b ∧ b = rA E ad c0 := ⟨_, RA.of q0.1 q0.2, rfl⟩
  rw [← e0] at hl
  refine lv_aload_n hx hb dX12_end_0 rfl (lv_at hl 0 rfl) ?_
  refine lv_aload_n hx hb dX12_end_1 rfl (lv_at hl 0 rfl) ?_
  refine r2_gN C hG h0 FQX12_22 rfl dX12_end_2 h (fun c1 bc1 h_c1 h => ?_)
  refine r2_len C hG h_c1 100000 (Or.inl rfl) dX12_end_5 h (fun x2 h => ?_)
  refine r2_cVI C hA hl.1 hG h0 [.int x2] [] (mX12_light E l c0 x2 S0 (RAq hG h0)) (by rw [h0.1]) QLX12_52 KP14 rfl (rm2 (by decide) (by decide)) (Nat.le_of_ble_eq_true rfl) rfl dX12_end_6 hU h (fun x5 S3 H locs ad4 cells slots hG hx9 h => ?_)
  have h0 := h0.up hx9
  exact r2_iret C hF hG hr rfl dX12_end_9 h
def kX12_tilt_4  : Nat → Nat → Int32 → Int32 → Int32 → ZS → Option (Int32 × ZS)
  | 0, _, _, _, _, _ => none
  | f + 1, v0, v1, v2, v3, S =>
        if v1 ≤ v3 then
          some (v2, S)
        else
          gN S v0 14 2 fun c2 =>
          gN S v0 14 3 fun c3 =>
          aG S c3 100000 v3 fun x4 =>
          aN S c2 400000 x4 fun c5 =>
          aG S c5 100000 2 fun x6 =>
          gN S v0 14 2 fun c7 =>
          gN S v0 14 3 fun c8 =>
          aG S c8 100000 v3 fun x9 =>
          aN S c7 400000 x9 fun c10 =>
          aG S c10 100000 2 fun x11 =>
          bd (v2 + (x6 + x11)) fun x12 =>
          bd (v3 + 1) fun x13 =>
          kX12_tilt_4 f v0 v1 x12 x13 S
def kX12_tilt (c0 : Nat) (a1 : Int32) (S0 : ZS) : Option (Int32 × ZS) :=
  chk Prod.snd S0 <|
  kX12_tilt_4 FU c0 a1 0 0 S0
set_option maxRecDepth 100000 in
set_option maxHeartbeats 8000000 in
theorem mX12_tilt (E : EV) (l : Launch) (c0 : Nat) (a1 : Int32) (S0 : ZS) (q0 : c0 ≠ 0 ∧ rk S0.n c0) : ∀ u, kX12_tilt c0 a1 S0 = some u → MIL E l yX12_tilt cX12_tilt 4 (Option.some Jvm.ClassFile.FieldType.int) 1 (fun ad => [.ref (rA E ad c0), .int a1]) S0 u := by
  intro u h
  unfold kX12_tilt at h
  obtain ⟨hcw, h⟩ := chk_inv h
  refine ML2.of (by decide +kernel) (fun ad => Nat.le_of_ble_eq_true rfl) hcw ?_
  intro p e s m args below meth c ad F hF C hA hr hnm ls hl hG
  have C : Cx p s m args meth c cX12_tilt 4 RX12 E := C
  have hx := C.1
  have hb := C.2.1
  have hU : F.uc = (u.2).c ∧ F.uw = (u.2).w := ⟨hF.2.2.2.2.1, hF.2.2.2.2.2⟩
  have hl : lv_has ls 4 [(0, .ref (rA E ad c0)), (1, .int a1)] := hl
  obtain ⟨b0, h0, e0⟩ : ∃ b, RA E ad S0.n c0 b ∧ b = rA E ad c0 := ⟨_, RA.of q0.1 q0.2, rfl⟩
  rw [← e0] at hl
  have j4 : ∀ f : Nat, ∀ (v0 : Nat) (v1 : Int32) (v2 : Int32) (v3 : Int32) (S : ZS) (ad : Nat → Nat) (N : Nat) (bv0 : Nat) (H : Heap) (locs : List Loc) (ls : Array Slot) (cells slots : Nat), GL E s F H locs ad N S cells slots → RA E ad N v0 bv0 → lv_has ls 4 [(0, .ref bv0), (1, .int v1), (2, .int v2), (3, .int v3)] → kX12_tilt_4 f v0 v1 v2 v3 S = some u → W p l e (F.R 1) s m args below meth c H locs cells slots (MQ below (QIL E s.heap.size F.ad S0 u) args s (F.c - F.uc) (F.w - F.uw) F.A) (F0 m 4 ls []) := by
    intro f
    induction f with
    | zero =>
      intro v0 v1 v2 v3 S ad N bv0 H locs ls cells slots hG hv0 hl h
      unfold kX12_tilt_4 at h
      cases h
    | succ f ih =>
      intro v0 v1 v2 v3 S ad N bv0 H locs ls cells slots hG hv0 hl h
      unfold kX12_tilt_4 at h
      refine lv_iload_n hx hb dX12_tilt_4 rfl (lv_at hl 3 rfl) ?_
      refine lv_iload_n hx hb dX12_tilt_5 rfl (lv_at hl 1 rfl) ?_
      refine lv_icmp_ge (tgt := 45) hx hb dX12_tilt_6 (by decide) (fun g1 => ?_) (fun g1 => ?_)
      · have h := (if_inv h).1 g1
        refine lv_iload_n hx hb dX12_tilt_45 rfl (lv_at hl 2 rfl) ?_
        exact r2_iret C hF hG hr rfl dX12_tilt_46 h
      · have h := (if_inv h).2 g1
        refine lv_iload_n hx hb dX12_tilt_9 rfl (lv_at hl 2 rfl) ?_
        refine lv_aload_n hx hb dX12_tilt_10 rfl (lv_at hl 0 rfl) ?_
        refine r2_gN C hG hv0 FQX12_18 rfl dX12_tilt_11 h (fun c2 bc2 h_c2 h => ?_)
        refine lv_aload_n hx hb dX12_tilt_14 rfl (lv_at hl 0 rfl) ?_
        refine r2_gN C hG hv0 FQX12_22 rfl dX12_tilt_15 h (fun c3 bc3 h_c3 h => ?_)
        refine lv_iload_n hx hb dX12_tilt_18 rfl (lv_at hl 3 rfl) ?_
        refine r2_gAI C hG h_c3 dX12_tilt_19 h (fun x4 h => ?_)
        refine r2_gAA C hG h_c2 dX12_tilt_20 h (fun c5 bc5 h_c5 h => ?_)
        refine lv_iconst (v := 2) hx hb dX12_tilt_21 (by decide) ?_
        refine r2_gAI C hG h_c5 dX12_tilt_22 h (fun x6 h => ?_)
        refine lv_aload_n hx hb dX12_tilt_23 rfl (lv_at hl 0 rfl) ?_
        refine r2_gN C hG hv0 FQX12_18 rfl dX12_tilt_24 h (fun c7 bc7 h_c7 h => ?_)
        refine lv_aload_n hx hb dX12_tilt_27 rfl (lv_at hl 0 rfl) ?_
        refine r2_gN C hG hv0 FQX12_22 rfl dX12_tilt_28 h (fun c8 bc8 h_c8 h => ?_)
        refine lv_iload_n hx hb dX12_tilt_31 rfl (lv_at hl 3 rfl) ?_
        refine r2_gAI C hG h_c8 dX12_tilt_32 h (fun x9 h => ?_)
        refine r2_gAA C hG h_c7 dX12_tilt_33 h (fun c10 bc10 h_c10 h => ?_)
        refine lv_iconst (v := 2) hx hb dX12_tilt_34 (by decide) ?_
        refine r2_gAI C hG h_c10 dX12_tilt_35 h (fun x11 h => ?_)
        refine lv_iadd hx hb dX12_tilt_36 ?_
        refine lv_iadd hx hb dX12_tilt_37 ?_
        refine r_nm h (fun x12 h => ?_)
        refine lv_istore_n (lv' := [(2, .int x12), (0, .ref bv0), (1, .int v1), (3, .int v3)]) hx hb dX12_tilt_38 rfl hl (by decide) rfl (fun ls hl => ?_)
        refine r_iinc (w := 1) (lv' := fun x13 => [(3, .int x13), (2, .int x12), (0, .ref bv0), (1, .int v1)]) C dX12_tilt_39 hl (k := 3) rfl (by decide) (by decide) (fun _ => rfl) h (fun x13 ls hl h => ?_)
        refine lv_goto (tgt := 4) hx hb dX12_tilt_42 (by decide) ?_
        exact ih v0 v1 x12 x13 S _ _ _ _ _ _ _ _ hG hv0 (lv_sub hl [2, 3, 1, 0] rfl) h
  refine lv_iconst (v := 0) hx hb dX12_tilt_0 (by decide) ?_
  refine lv_istore_n (lv' := [(2, .int 0), (0, .ref b0), (1, .int a1)]) hx hb dX12_tilt_1 rfl hl (by decide) rfl (fun ls hl => ?_)
  refine lv_iconst (v := 0) hx hb dX12_tilt_2 (by decide) ?_
  refine lv_istore_n (lv' := [(3, .int 0), (2, .int 0), (0, .ref b0), (1, .int a1)]) hx hb dX12_tilt_3 rfl hl (by decide) rfl (fun ls hl => ?_)
  exact j4 FU c0 a1 0 0 S0 _ _ _ _ _ _ _ _ hG h0 (lv_sub hl [2, 3, 1, 0] rfl) h
def kX12_isSeen (c0 : Nat) (S0 : ZS) : Option (Int32 × ZS) :=
  chk Prod.snd S0 <|
  rcv S0 c0 14 <| b2 Prod.snd (kX12_end c0 S0) fun x3 S1 =>
  gI S1 c0 14 1 fun x4 =>
  if x3 < x4 then
    some (0, S1)
  else
    gN S1 c0 14 3 fun c6 =>
    aL S1 c6 100000 fun x7 =>
    rcv S1 c0 14 <| b2 Prod.snd (kX12_tilt c0 x7 S1) fun x10 S8 =>
    bd (if 0 ≤ x10 then x10 else 0 - x10) fun x11 =>
    gI S8 c0 14 0 fun x12 =>
    if x12 < x11 then
      some (0, S8)
    else
      some (1, S8)
set_option maxRecDepth 100000 in
set_option maxHeartbeats 8000000 in
theorem mX12_isSeen (E : EV) (l : Launch) (c0 : Nat) (S0 : ZS) (q0 : c0 ≠ 0 ∧ rk S0.n c0) : ∀ u, kX12_isSeen c0 S0 = some u → MIL E l yX12_isSeen cX12_isSeen 1 (Option.some Jvm.ClassFile.FieldType.boolean) 4 (fun ad => [.ref (rA E ad c0)]) S0 u := by
  intro u h
  unfold kX12_isSeen at h
  obtain ⟨hcw, h⟩ := chk_inv h
  refine ML2.of (by decide +kernel) (fun ad => Nat.le_of_ble_eq_true rfl) hcw ?_
  intro p e s m args below meth c ad F hF C hA hr hnm ls hl hG
  have C : Cx p s m args meth c cX12_isSeen 1 RX12 E := C
  have hx := C.1
  have hb := C.2.1
  have hU : F.uc = (u.2).c ∧ F.uw = (u.2).w := ⟨hF.2.2.2.2.1, hF.2.2.2.2.2⟩
  have hl : lv_has ls 1 [(0, .ref (rA E ad c0))] := hl
  obtain ⟨b0, h0, e0⟩ : ∃ b, RA E ad S0.n c0 b ∧ b = rA E ad c0 := ⟨_, RA.of q0.1 q0.2, rfl⟩
  rw [← e0] at hl
  refine lv_aload_n hx hb dX12_isSeen_0 rfl (lv_at hl 0 rfl) ?_
  refine r2_cVI C hA hl.1 hG h0 [] [] (mX12_end E l c0 S0 (RAq hG h0)) (by rw [h0.1]) QLX12_56 KP14 rfl (rm2 (by decide) (by decide)) (Nat.le_of_ble_eq_true rfl) rfl dX12_isSeen_1 hU h (fun x3 S1 H locs ad2 cells slots hG hx9 h => ?_)
  have h0 := h0.up hx9
  refine lv_aload_n hx hb dX12_isSeen_4 rfl (lv_at hl 0 rfl) ?_
  refine r2_gI C hG h0 FQX12_13 rfl dX12_isSeen_5 h (fun x4 h => ?_)
  refine lv_icmp_lt (tgt := 34) hx hb dX12_isSeen_8 (by decide) (fun g5 => ?_) (fun g5 => ?_)
  · have h := (if_inv h).1 g5
    refine lv_iconst (v := 0) hx hb dX12_isSeen_34 (by decide) ?_
    exact r2_iret C hF hG hr rfl dX12_isSeen_35 h
  · have h := (if_inv h).2 g5
    refine lv_aload_n hx hb dX12_isSeen_11 rfl (lv_at hl 0 rfl) ?_
    refine lv_aload_n hx hb dX12_isSeen_12 rfl (lv_at hl 0 rfl) ?_
    refine r2_gN C hG h0 FQX12_22 rfl dX12_isSeen_13 h (fun c6 bc6 h_c6 h => ?_)
    refine r2_len C hG h_c6 100000 (Or.inl rfl) dX12_isSeen_16 h (fun x7 h => ?_)
    refine r2_cVI C hA hl.1 hG h0 [.int x7] [] (mX12_tilt E l c0 x7 S1 (RAq hG h0)) (by rw [h0.1]) QLX12_60 KP14 rfl (rm2 (by decide) (by decide)) (Nat.le_of_ble_eq_true rfl) rfl dX12_isSeen_17 hU h (fun x10 S8 H locs ad9 cells slots hG hx9 h => ?_)
    have h0 := h0.up hx9
    refine r_abs C hl.1 QLX12_63 ⟨(Nat.le_of_ble_eq_true rfl), (Nat.le_of_ble_eq_true rfl), (GLr hG).1, (GLr hG).2⟩ dX12_isSeen_20 ?_
    refine r_nm h (fun x11 h => ?_)
    refine lv_aload_n hx hb dX12_isSeen_23 rfl (lv_at hl 0 rfl) ?_
    refine r2_gI C hG h0 FQX12_7 rfl dX12_isSeen_24 h (fun x12 h => ?_)
    refine lv_icmp_gt (tgt := 34) hx hb dX12_isSeen_27 (by decide) (fun g13 => ?_) (fun g13 => ?_)
    · have h := (if_inv h).1 g13
      refine lv_iconst (v := 0) hx hb dX12_isSeen_34 (by decide) ?_
      exact r2_iret C hF hG hr rfl dX12_isSeen_35 h
    · have h := (if_inv h).2 g13
      refine lv_iconst (v := 1) hx hb dX12_isSeen_30 (by decide) ?_
      refine lv_goto (tgt := 35) hx hb dX12_isSeen_31 (by decide) ?_
      exact r2_iret C hF hG hr rfl dX12_isSeen_35 h
def kX12_place_2  : Nat → Nat → Int32 → Int32 → ZS → Option (Int32 × ZS)
  | 0, _, _, _, _ => none
  | f + 1, v0, v1, v2, S =>
        gN S v0 14 3 fun c1 =>
        aG S c1 100000 v2 fun x2 =>
        if x2 = v1 then
          some (v2, S)
        else
          bd (v2 + 1) fun x4 =>
          kX12_place_2 f v0 v1 x4 S
def kX12_place (c0 : Nat) (a1 : Int32) (S0 : ZS) : Option (Int32 × ZS) :=
  chk Prod.snd S0 <|
  kX12_place_2 FU c0 a1 0 S0
set_option maxRecDepth 100000 in
set_option maxHeartbeats 8000000 in
theorem mX12_place (E : EV) (l : Launch) (c0 : Nat) (a1 : Int32) (S0 : ZS) (q0 : c0 ≠ 0 ∧ rk S0.n c0) : ∀ u, kX12_place c0 a1 S0 = some u → MIL E l yX12_place cX12_place 3 (Option.some Jvm.ClassFile.FieldType.int) 1 (fun ad => [.ref (rA E ad c0), .int a1]) S0 u := by
  intro u h
  unfold kX12_place at h
  obtain ⟨hcw, h⟩ := chk_inv h
  refine ML2.of (by decide +kernel) (fun ad => Nat.le_of_ble_eq_true rfl) hcw ?_
  intro p e s m args below meth c ad F hF C hA hr hnm ls hl hG
  have C : Cx p s m args meth c cX12_place 3 RX12 E := C
  have hx := C.1
  have hb := C.2.1
  have hU : F.uc = (u.2).c ∧ F.uw = (u.2).w := ⟨hF.2.2.2.2.1, hF.2.2.2.2.2⟩
  have hl : lv_has ls 3 [(0, .ref (rA E ad c0)), (1, .int a1)] := hl
  obtain ⟨b0, h0, e0⟩ : ∃ b, RA E ad S0.n c0 b ∧ b = rA E ad c0 := ⟨_, RA.of q0.1 q0.2, rfl⟩
  rw [← e0] at hl
  have j2 : ∀ f : Nat, ∀ (v0 : Nat) (v1 : Int32) (v2 : Int32) (S : ZS) (ad : Nat → Nat) (N : Nat) (bv0 : Nat) (H : Heap) (locs : List Loc) (ls : Array Slot) (cells slots : Nat), GL E s F H locs ad N S cells slots → RA E ad N v0 bv0 → lv_has ls 3 [(0, .ref bv0), (1, .int v1), (2, .int v2)] → kX12_place_2 f v0 v1 v2 S = some u → W p l e (F.R 1) s m args below meth c H locs cells slots (MQ below (QIL E s.heap.size F.ad S0 u) args s (F.c - F.uc) (F.w - F.uw) F.A) (F0 m 2 ls []) := by
    intro f
    induction f with
    | zero =>
      intro v0 v1 v2 S ad N bv0 H locs ls cells slots hG hv0 hl h
      unfold kX12_place_2 at h
      cases h
    | succ f ih =>
      intro v0 v1 v2 S ad N bv0 H locs ls cells slots hG hv0 hl h
      unfold kX12_place_2 at h
      refine lv_aload_n hx hb dX12_place_2 rfl (lv_at hl 0 rfl) ?_
      refine r2_gN C hG hv0 FQX12_22 rfl dX12_place_3 h (fun c1 bc1 h_c1 h => ?_)
      refine lv_iload_n hx hb dX12_place_6 rfl (lv_at hl 2 rfl) ?_
      refine r2_gAI C hG h_c1 dX12_place_7 h (fun x2 h => ?_)
      refine lv_iload_n hx hb dX12_place_8 rfl (lv_at hl 1 rfl) ?_
      refine lv_icmp_eq (tgt := 18) hx hb dX12_place_9 (by decide) (fun g3 => ?_) (fun g3 => ?_)
      · have h := (if_inv h).1 g3
        refine lv_iload_n hx hb dX12_place_18 rfl (lv_at hl 2 rfl) ?_
        exact r2_iret C hF hG hr rfl dX12_place_19 h
      · have h := (if_inv h).2 g3
        refine r_iinc (w := 1) (lv' := fun x4 => [(2, .int x4), (0, .ref bv0), (1, .int v1)]) C dX12_place_12 hl (k := 2) rfl (by decide) (by decide) (fun _ => rfl) h (fun x4 ls hl h => ?_)
        refine lv_goto (tgt := 2) hx hb dX12_place_15 (by decide) ?_
        exact ih v0 v1 x4 S _ _ _ _ _ _ _ _ hG hv0 (lv_sub hl [1, 2, 0] rfl) h
  refine lv_iconst (v := 0) hx hb dX12_place_0 (by decide) ?_
  refine lv_istore_n (lv' := [(2, .int 0), (0, .ref b0), (1, .int a1)]) hx hb dX12_place_1 rfl hl (by decide) rfl (fun ls hl => ?_)
  exact j2 FU c0 a1 0 S0 _ _ _ _ _ _ _ _ hG h0 (lv_sub hl [1, 2, 0] rfl) h
def kX12_waits_11  : Nat → Int32 → Nat → Int32 → Int32 → ZS → Option (Int32 × ZS)
  | 0, _, _, _, _, _ => none
  | f + 1, v1, v2, v3, v4, S =>
        if v3 ≤ v4 then
          some (0, S)
        else
          aN S v2 400000 v4 fun c2 =>
          aG S c2 100000 1 fun x3 =>
          if x3 = v1 then
            some (1, S)
          else
            bd (v4 + 1) fun x5 =>
            kX12_waits_11 f v1 v2 v3 x5 S
def kX12_waits (c0 : Nat) (a1 : Int32) (S0 : ZS) : Option (Int32 × ZS) :=
  chk Prod.snd S0 <|
  gN S0 c0 14 4 fun c6 =>
  aL S0 c6 400000 fun x7 =>
  kX12_waits_11 FU a1 c6 x7 0 S0
set_option maxRecDepth 100000 in
set_option maxHeartbeats 8000000 in
theorem mX12_waits (E : EV) (l : Launch) (c0 : Nat) (a1 : Int32) (S0 : ZS) (q0 : c0 ≠ 0 ∧ rk S0.n c0) : ∀ u, kX12_waits c0 a1 S0 = some u → MIL E l yX12_waits cX12_waits 6 (Option.some Jvm.ClassFile.FieldType.boolean) 1 (fun ad => [.ref (rA E ad c0), .int a1]) S0 u := by
  intro u h
  unfold kX12_waits at h
  obtain ⟨hcw, h⟩ := chk_inv h
  refine ML2.of (by decide +kernel) (fun ad => Nat.le_of_ble_eq_true rfl) hcw ?_
  intro p e s m args below meth c ad F hF C hA hr hnm ls hl hG
  have C : Cx p s m args meth c cX12_waits 6 RX12 E := C
  have hx := C.1
  have hb := C.2.1
  have hU : F.uc = (u.2).c ∧ F.uw = (u.2).w := ⟨hF.2.2.2.2.1, hF.2.2.2.2.2⟩
  have hl : lv_has ls 6 [(0, .ref (rA E ad c0)), (1, .int a1)] := hl
  obtain ⟨b0, h0, e0⟩ : ∃ b, RA E ad S0.n c0 b ∧ b = rA E ad c0 := ⟨_, RA.of q0.1 q0.2, rfl⟩
  rw [← e0] at hl
  have j11 : ∀ f : Nat, ∀ (v1 : Int32) (v2 : Nat) (v3 : Int32) (v4 : Int32) (S : ZS) (ad : Nat → Nat) (N : Nat) (bv2 : Nat) (H : Heap) (locs : List Loc) (ls : Array Slot) (cells slots : Nat), GL E s F H locs ad N S cells slots → RA E ad N v2 bv2 → lv_has ls 6 [(1, .int v1), (2, .ref bv2), (3, .int v3), (4, .int v4)] → kX12_waits_11 f v1 v2 v3 v4 S = some u → W p l e (F.R 1) s m args below meth c H locs cells slots (MQ below (QIL E s.heap.size F.ad S0 u) args s (F.c - F.uc) (F.w - F.uw) F.A) (F0 m 11 ls []) := by
    intro f
    induction f with
    | zero =>
      intro v1 v2 v3 v4 S ad N bv2 H locs ls cells slots hG hv2 hl h
      unfold kX12_waits_11 at h
      cases h
    | succ f ih =>
      intro v1 v2 v3 v4 S ad N bv2 H locs ls cells slots hG hv2 hl h
      unfold kX12_waits_11 at h
      refine lv_iload hx hb dX12_waits_11 (lv_at hl 3 rfl) ?_
      refine lv_iload_n hx hb dX12_waits_13 rfl (lv_at hl 2 rfl) ?_
      refine lv_icmp_ge (tgt := 39) hx hb dX12_waits_14 (by decide) (fun g1 => ?_) (fun g1 => ?_)
      · have h := (if_inv h).1 g1
        refine lv_iconst (v := 0) hx hb dX12_waits_39 (by decide) ?_
        exact r2_iret C hF hG hr rfl dX12_waits_40 h
      · have h := (if_inv h).2 g1
        refine lv_aload_n hx hb dX12_waits_17 rfl (lv_at hl 1 rfl) ?_
        refine lv_iload hx hb dX12_waits_18 (lv_at hl 3 rfl) ?_
        refine r2_gAA C hG hv2 dX12_waits_20 h (fun c2 bc2 h_c2 h => ?_)
        refine lv_astore (lv' := [(5, .ref bc2), (1, .int v1), (2, .ref bv2), (3, .int v3), (4, .int v4)]) hx hb dX12_waits_21 hl (by decide) rfl (fun ls hl => ?_)
        refine lv_aload hx hb dX12_waits_23 (lv_at hl 0 rfl) ?_
        refine lv_iconst (v := 1) hx hb dX12_waits_25 (by decide) ?_
        refine r2_gAI C hG h_c2 dX12_waits_26 h (fun x3 h => ?_)
        refine lv_iload_n hx hb dX12_waits_27 rfl (lv_at hl 1 rfl) ?_
        refine lv_icmp_ne (tgt := 33) hx hb dX12_waits_28 (by decide) (fun g4 => ?_) (fun g4 => ?_)
        · have h := (if_inv h).2 g4
          refine r_iinc (w := 1) (lv' := fun x5 => [(4, .int x5), (5, .ref bc2), (1, .int v1), (2, .ref bv2), (3, .int v3)]) C dX12_waits_33 hl (k := 4) rfl (by decide) (by decide) (fun _ => rfl) h (fun x5 ls hl h => ?_)
          refine lv_goto (tgt := 11) hx hb dX12_waits_36 (by decide) ?_
          exact ih v1 v2 v3 x5 S _ _ _ _ _ _ _ _ hG hv2 (lv_sub hl [2, 3, 4, 0] rfl) h
        · have h := (if_inv h).1 g4
          refine lv_iconst (v := 1) hx hb dX12_waits_31 (by decide) ?_
          exact r2_iret C hF hG hr rfl dX12_waits_32 h
  refine lv_aload_n hx hb dX12_waits_0 rfl (lv_at hl 0 rfl) ?_
  refine r2_gN C hG h0 FQX12_25 rfl dX12_waits_1 h (fun c6 bc6 h_c6 h => ?_)
  refine lv_astore_n (lv' := [(2, .ref bc6), (0, .ref b0), (1, .int a1)]) hx hb dX12_waits_4 rfl hl (by decide) rfl (fun ls hl => ?_)
  refine lv_aload_n hx hb dX12_waits_5 rfl (lv_at hl 0 rfl) ?_
  refine r2_len C hG h_c6 400000 (Or.inr (Or.inr (Or.inr (Or.inl rfl)))) dX12_waits_6 h (fun x7 h => ?_)
  refine lv_istore_n (lv' := [(3, .int x7), (2, .ref bc6), (0, .ref b0), (1, .int a1)]) hx hb dX12_waits_7 rfl hl (by decide) rfl (fun ls hl => ?_)
  refine lv_iconst (v := 0) hx hb dX12_waits_8 (by decide) ?_
  refine lv_istore (lv' := [(4, .int 0), (3, .int x7), (2, .ref bc6), (0, .ref b0), (1, .int a1)]) hx hb dX12_waits_9 hl (by decide) rfl (fun ls hl => ?_)
  exact j11 FU a1 c6 x7 0 S0 _ _ _ _ _ _ _ _ hG h_c6 (lv_sub hl [4, 2, 1, 0] rfl) h
def kX12_take_50 (K21 : Nat → Int32 → Nat → Nat → Int32 → ZS → Option (Nat × ZS)) (v0 : Nat) (v1 : Int32) (v2 : Nat) (v3 : Nat) (v4 : Int32) (vt0 : Int32) (vt1 : Nat) (vt2 : Int32) (vt3 : Nat) (S : ZS) : Option (Nat × ZS) :=
      aN S vt1 400000 vt0 fun c1 =>
      aR S vt3 400000 100000 vt2 c1 fun S2 =>
      bd (v4 + 1) fun x3 =>
      K21 v0 v1 v2 v3 x3 S2
def kX12_take_21  : Nat → Nat → Int32 → Nat → Nat → Int32 → ZS → Option (Nat × ZS)
  | 0, _, _, _, _, _, _ => none
  | f + 1, v0, v1, v2, v3, v4, S =>
        aL S v3 400000 fun x4 =>
        if x4 ≤ v4 then
          pR S v0 14 4 v3 fun S6 =>
          if v1 = 0 then
            pI S6 v0 14 5 0 fun S8 =>
            some (v2, S8)
          else
            some (v2, S6)
        else
          gN S v0 14 4 fun c9 =>
          if v1 ≤ v4 then
            kX12_take_50 (kX12_take_21 f) v0 v1 v2 v3 v4 (v4 + 1) c9 v4 v3 S
          else
            kX12_take_50 (kX12_take_21 f) v0 v1 v2 v3 v4 v4 c9 v4 v3 S
def kX12_take (c0 : Nat) (a1 : Int32) (S0 : ZS) : Option (Nat × ZS) :=
  chk Prod.snd S0 <|
  gN S0 c0 14 4 fun c11 =>
  aN S0 c11 400000 a1 fun c12 =>
  gN S0 c0 14 4 fun c13 =>
  aL S0 c13 400000 fun x14 =>
  nA Prod.snd S0 400000 (x14 - 1) fun c15 S16 =>
  kX12_take_21 FU c0 a1 c12 c15 0 S16
set_option maxRecDepth 100000 in
set_option maxHeartbeats 8000000 in
theorem mX12_take (E : EV) (l : Launch) (c0 : Nat) (a1 : Int32) (S0 : ZS) (q0 : c0 ≠ 0 ∧ rk S0.n c0) : ∀ u, kX12_take c0 a1 S0 = some u → MRL E l yX12_take cX12_take 5 (Option.some (Jvm.ClassFile.FieldType.array Jvm.ClassFile.FieldType.int)) 1 (fun ad => [.ref (rA E ad c0), .int a1]) S0 u := by
  intro u h
  unfold kX12_take at h
  obtain ⟨hcw, h⟩ := chk_inv h
  refine ML2.of (by decide +kernel) (fun ad => Nat.le_of_ble_eq_true rfl) hcw ?_
  intro p e s m args below meth c ad F hF C hA hr hnm ls hl hG
  have C : Cx p s m args meth c cX12_take 5 RX12 E := C
  have hx := C.1
  have hb := C.2.1
  have hU : F.uc = (u.2).c ∧ F.uw = (u.2).w := ⟨hF.2.2.2.2.1, hF.2.2.2.2.2⟩
  have hl : lv_has ls 5 [(0, .ref (rA E ad c0)), (1, .int a1)] := hl
  obtain ⟨b0, h0, e0⟩ : ∃ b, RA E ad S0.n c0 b ∧ b = rA E ad c0 := ⟨_, RA.of q0.1 q0.2, rfl⟩
  rw [← e0] at hl
  have j50 : ∀ (K21 : Nat → Int32 → Nat → Nat → Int32 → ZS → Option (Nat × ZS)), (∀ (v0 : Nat) (v1 : Int32) (v2 : Nat) (v3 : Nat) (v4 : Int32) (S : ZS) (ad : Nat → Nat) (N : Nat) (bv0 : Nat) (bv2 : Nat) (bv3 : Nat) (H : Heap) (locs : List Loc) (ls : Array Slot) (cells slots : Nat), GL E s F H locs ad N S cells slots → RA E ad N v0 bv0 → RA E ad N v2 bv2 → RA E ad N v3 bv3 → lv_has ls 5 [(0, .ref bv0), (1, .int v1), (2, .ref bv2), (3, .ref bv3), (4, .int v4)] → K21 v0 v1 v2 v3 v4 S = some u → W p l e (F.R 1) s m args below meth c H locs cells slots (MQ below (QRL E s.heap.size F.ad S0 u) args s (F.c - F.uc) (F.w - F.uw) F.A) (F0 m 21 ls [])) → ∀ (v0 : Nat) (v1 : Int32) (v2 : Nat) (v3 : Nat) (v4 : Int32) (vt0 : Int32) (vt1 : Nat) (vt2 : Int32) (vt3 : Nat) (S : ZS) (ad : Nat → Nat) (N : Nat) (bv0 : Nat) (bv2 : Nat) (bv3 : Nat) (bvt1 : Nat) (bvt3 : Nat) (H : Heap) (locs : List Loc) (ls : Array Slot) (cells slots : Nat), GL E s F H locs ad N S cells slots → RA E ad N v0 bv0 → RA E ad N v2 bv2 → RA E ad N v3 bv3 → RA E ad N vt1 bvt1 → RA E ad N vt3 bvt3 → lv_has ls 5 [(0, .ref bv0), (1, .int v1), (2, .ref bv2), (3, .ref bv3), (4, .int v4)] → kX12_take_50 K21 v0 v1 v2 v3 v4 vt0 vt1 vt2 vt3 S = some u → W p l e (F.R 1) s m args below meth c H locs cells slots (MQ below (QRL E s.heap.size F.ad S0 u) args s (F.c - F.uc) (F.w - F.uw) F.A) (F0 m 50 ls [.int vt0, .ref bvt1, .int vt2, .ref bvt3]) := by
    intro K21 hK21 v0 v1 v2 v3 v4 vt0 vt1 vt2 vt3 S ad N bv0 bv2 bv3 bvt1 bvt3 H locs ls cells slots hG hv0 hv2 hv3 hvt1 hvt3 hl h
    unfold kX12_take_50 at h
    refine r2_gAA C hG hvt1 dX12_take_50 h (fun c1 bc1 h_c1 h => ?_)
    refine r2_pAA C hG hvt3 LAO h_c1 dX12_take_51 h (fun H locs S2 hG h => ?_)
    refine r_iinc (w := 1) (lv' := fun x3 => [(4, .int x3), (0, .ref bv0), (1, .int v1), (2, .ref bv2), (3, .ref bv3)]) C dX12_take_52 hl (k := 4) rfl (by decide) (by decide) (fun _ => rfl) h (fun x3 ls hl h => ?_)
    refine lv_goto (tgt := 21) hx hb dX12_take_55 (by decide) ?_
    exact hK21 v0 v1 v2 v3 x3 S2 _ _ _ _ _ _ _ _ _ _ hG hv0 hv2 hv3 (lv_sub hl [1, 2, 3, 4, 0] rfl) h
  have j21 : ∀ f : Nat, ∀ (v0 : Nat) (v1 : Int32) (v2 : Nat) (v3 : Nat) (v4 : Int32) (S : ZS) (ad : Nat → Nat) (N : Nat) (bv0 : Nat) (bv2 : Nat) (bv3 : Nat) (H : Heap) (locs : List Loc) (ls : Array Slot) (cells slots : Nat), GL E s F H locs ad N S cells slots → RA E ad N v0 bv0 → RA E ad N v2 bv2 → RA E ad N v3 bv3 → lv_has ls 5 [(0, .ref bv0), (1, .int v1), (2, .ref bv2), (3, .ref bv3), (4, .int v4)] → kX12_take_21 f v0 v1 v2 v3 v4 S = some u → W p l e (F.R 1) s m args below meth c H locs cells slots (MQ below (QRL E s.heap.size F.ad S0 u) args s (F.c - F.uc) (F.w - F.uw) F.A) (F0 m 21 ls []) := by
    intro f
    induction f with
    | zero =>
      intro v0 v1 v2 v3 v4 S ad N bv0 bv2 bv3 H locs ls cells slots hG hv0 hv2 hv3 hl h
      unfold kX12_take_21 at h
      cases h
    | succ f ih =>
      intro v0 v1 v2 v3 v4 S ad N bv0 bv2 bv3 H locs ls cells slots hG hv0 hv2 hv3 hl h
      unfold kX12_take_21 at h
      refine lv_iload hx hb dX12_take_21 (lv_at hl 4 rfl) ?_
      refine lv_aload_n hx hb dX12_take_23 rfl (lv_at hl 3 rfl) ?_
      refine r2_len C hG hv3 400000 (Or.inr (Or.inr (Or.inr (Or.inl rfl)))) dX12_take_24 h (fun x4 h => ?_)
      refine lv_icmp_ge (tgt := 58) hx hb dX12_take_25 (by decide) (fun g5 => ?_) (fun g5 => ?_)
      · have h := (if_inv h).1 g5
        refine lv_aload_n hx hb dX12_take_58 rfl (lv_at hl 0 rfl) ?_
        refine lv_aload_n hx hb dX12_take_59 rfl (lv_at hl 3 rfl) ?_
        refine r2_pR C hG hv0 hv3.RV FQX12_25 (Or.inl rfl) rfl rfl rfl dX12_take_60 h (fun H locs S6 hG h => ?_)
        refine lv_iload_n hx hb dX12_take_63 rfl (lv_at hl 1 rfl) ?_
        refine lv_if_ne (tgt := 72) hx hb dX12_take_64 (by decide) (fun g7 => ?_) (fun g7 => ?_)
        · have h := (if_inv h).2 g7
          refine lv_aload_n hx hb dX12_take_72 rfl (lv_at hl 2 rfl) ?_
          exact r2_aret C hF hG hv2 (Or.inr ⟨_, rfl⟩) hr dX12_take_73 h
        · have h := (if_inv h).1 g7
          refine lv_aload_n hx hb dX12_take_67 rfl (lv_at hl 0 rfl) ?_
          refine lv_iconst (v := 0) hx hb dX12_take_68 (by decide) ?_
          refine r2_pI C hG hv0 FQX12_39 (Or.inl rfl) rfl rfl rfl dX12_take_69 h (fun H locs S8 hG h => ?_)
          refine lv_aload_n hx hb dX12_take_72 rfl (lv_at hl 2 rfl) ?_
          exact r2_aret C hF hG hv2 (Or.inr ⟨_, rfl⟩) hr dX12_take_73 h
      · have h := (if_inv h).2 g5
        refine lv_aload_n hx hb dX12_take_28 rfl (lv_at hl 3 rfl) ?_
        refine lv_iload hx hb dX12_take_29 (lv_at hl 4 rfl) ?_
        refine lv_aload_n hx hb dX12_take_31 rfl (lv_at hl 0 rfl) ?_
        refine r2_gN C hG hv0 FQX12_25 rfl dX12_take_32 h (fun c9 bc9 h_c9 h => ?_)
        refine lv_iload hx hb dX12_take_35 (lv_at hl 4 rfl) ?_
        refine lv_iload_n hx hb dX12_take_37 rfl (lv_at hl 1 rfl) ?_
        refine lv_icmp_ge (tgt := 46) hx hb dX12_take_38 (by decide) (fun g10 => ?_) (fun g10 => ?_)
        · have h := (if_inv h).1 g10
          refine lv_iload hx hb dX12_take_46 (lv_at hl 4 rfl) ?_
          refine lv_iconst (v := 1) hx hb dX12_take_48 (by decide) ?_
          refine lv_iadd hx hb dX12_take_49 ?_
          exact j50 (kX12_take_21 f) ih v0 v1 v2 v3 v4 (v4 + 1) c9 v4 v3 S _ _ _ _ _ _ _ _ _ _ _ _ hG hv0 hv2 hv3 h_c9 hv3 (lv_sub hl [0, 1, 2, 3, 4] rfl) h
        · have h := (if_inv h).2 g10
          refine lv_iload hx hb dX12_take_41 (lv_at hl 4 rfl) ?_
          refine lv_goto (tgt := 50) hx hb dX12_take_43 (by decide) ?_
          exact j50 (kX12_take_21 f) ih v0 v1 v2 v3 v4 v4 c9 v4 v3 S _ _ _ _ _ _ _ _ _ _ _ _ hG hv0 hv2 hv3 h_c9 hv3 (lv_sub hl [0, 1, 2, 3, 4] rfl) h
  refine lv_aload_n hx hb dX12_take_0 rfl (lv_at hl 0 rfl) ?_
  refine r2_gN C hG h0 FQX12_25 rfl dX12_take_1 h (fun c11 bc11 h_c11 h => ?_)
  refine lv_iload_n hx hb dX12_take_4 rfl (lv_at hl 1 rfl) ?_
  refine r2_gAA C hG h_c11 dX12_take_5 h (fun c12 bc12 h_c12 h => ?_)
  refine lv_astore_n (lv' := [(2, .ref bc12), (0, .ref b0), (1, .int a1)]) hx hb dX12_take_6 rfl hl (by decide) rfl (fun ls hl => ?_)
  refine lv_aload_n hx hb dX12_take_7 rfl (lv_at hl 1 rfl) ?_
  refine r2_gN C hG h0 FQX12_25 rfl dX12_take_8 h (fun c13 bc13 h_c13 h => ?_)
  refine r2_len C hG h_c13 400000 (Or.inr (Or.inr (Or.inr (Or.inl rfl)))) dX12_take_11 h (fun x14 h => ?_)
  refine lv_iconst (v := 1) hx hb dX12_take_12 (by decide) ?_
  refine lv_isub hx hb dX12_take_13 ?_
  refine r2_newA C hA hG LKAX12_16 LAO dX12_take_14 hU h (fun bc15 c15 H ad17 S16 cells slots hG hx9 h_c15 h => ?_)
  have h_c12 := h_c12.up hx9
  have h0 := h0.up hx9
  refine lv_astore_n (lv' := [(3, .ref bc15), (2, .ref bc12), (0, .ref b0), (1, .int a1)]) hx hb dX12_take_17 rfl hl (by decide) rfl (fun ls hl => ?_)
  refine lv_iconst (v := 0) hx hb dX12_take_18 (by decide) ?_
  refine lv_istore (lv' := [(4, .int 0), (3, .ref bc15), (2, .ref bc12), (0, .ref b0), (1, .int a1)]) hx hb dX12_take_19 hl (by decide) rfl (fun ls hl => ?_)
  exact j21 FU c0 a1 c12 c15 0 S16 _ _ _ _ _ _ _ _ _ _ hG h0 h_c12 h_c15 (lv_sub hl [3, 4, 2, 1, 0] rfl) h
