def kX10_init_ZZ (c0 : Nat) (a1 : Int32) (a2 : Int32) (S0 : ZS) : Option (ZS) :=
  chk id S0 <|
  pI S0 c0 12 0 a1 fun S1 =>
  pI S1 c0 12 1 a2 fun S2 =>
  pR S2 c0 12 2 0 fun S3 =>
  pR S3 c0 12 3 0 fun S4 =>
  some S4
set_option maxRecDepth 100000 in
set_option maxHeartbeats 8000000 in
theorem mX10_init_ZZ (E : EV) (l : Launch) (c0 : Nat) (a1 : Int32) (a2 : Int32) (S0 : ZS) (q0 : c0 ≠ 0 ∧ rk S0.n c0) : ∀ u, kX10_init_ZZ c0 a1 a2 S0 = some u → MVL E l yX10_init cX10_init 5 none 2 (fun ad => [.ref (rA E ad c0), .int a1, .int a2, .null, .null]) S0 u := by
  intro u h
  unfold kX10_init_ZZ at h
  obtain ⟨hcw, h⟩ := chk_inv h
  refine ML2.of (by decide +kernel) (fun ad => Nat.le_of_ble_eq_true rfl) hcw ?_
  intro p e s m args below meth c ad F hF C hA hr hnm ls hl hG
  have C : Cx p s m args meth c cX10_init 5 RX10 E := C
  have hx := C.1
  have hb := C.2.1
  have hU : F.uc = (u).c ∧ F.uw = (u).w := ⟨hF.2.2.2.2.1, hF.2.2.2.2.2⟩
  have hl : lv_has ls 5 [(0, .ref (rA E ad c0)), (1, .int a1), (2, .int a2), (3, .null), (4, .null)] := hl
  obtain ⟨b0, h0, e0⟩ : ∃ b, RA E ad S0.n c0 b ∧ b = rA E ad c0 := ⟨_, RA.of q0.1 q0.2, rfl⟩
  rw [← e0] at hl
  refine lv_aload_n hx hb dX10_init_0 rfl (lv_at hl 0 rfl) ?_
  refine r2_obj C hl.1 (mTBi 1458 (by decide +kernel) rfl) QOI QOC ⟨(Nat.le_of_ble_eq_true rfl), (Nat.le_of_ble_eq_true rfl)⟩ dX10_init_1 ?_
  refine lv_aload_n hx hb dX10_init_4 rfl (lv_at hl 0 rfl) ?_
  refine lv_iload_n hx hb dX10_init_5 rfl (lv_at hl 1 rfl) ?_
  refine r2_pI C hG h0 FQX10_7 (Or.inr ⟨rfl, hnm⟩) rfl rfl rfl dX10_init_6 h (fun H locs S1 hG h => ?_)
  refine lv_aload_n hx hb dX10_init_9 rfl (lv_at hl 0 rfl) ?_
  refine lv_iload_n hx hb dX10_init_10 rfl (lv_at hl 2 rfl) ?_
  refine r2_pI C hG h0 FQX10_13 (Or.inr ⟨rfl, hnm⟩) rfl rfl rfl dX10_init_11 h (fun H locs S2 hG h => ?_)
  refine lv_aload_n hx hb dX10_init_14 rfl (lv_at hl 0 rfl) ?_
  refine lv_aload_nN hx hb dX10_init_15 rfl (lv_at hl 3 rfl) ?_
  refine r2_pR C hG h0 RV_0 FQX10_16 (Or.inr ⟨rfl, hnm⟩) rfl rfl rfl dX10_init_16 h (fun H locs S3 hG h => ?_)
  refine lv_aload_n hx hb dX10_init_19 rfl (lv_at hl 0 rfl) ?_
  refine lv_aloadN hx hb dX10_init_20 (lv_at hl 4 rfl) ?_
  refine r2_pR C hG h0 RV_0 FQX10_20 (Or.inr ⟨rfl, hnm⟩) rfl rfl rfl dX10_init_22 h (fun H locs S4 hG h => ?_)
  exact r2_vret C hF hG hr dX10_init_25 h
def kX10_init (c0 : Nat) (a1 : Int32) (a2 : Int32) (c3 : Nat) (c4 : Nat) (S0 : ZS) : Option (ZS) :=
  chk id S0 <|
  pI S0 c0 12 0 a1 fun S1 =>
  pI S1 c0 12 1 a2 fun S2 =>
  pR S2 c0 12 2 c3 fun S3 =>
  pR S3 c0 12 3 c4 fun S4 =>
  some S4
set_option maxRecDepth 100000 in
set_option maxHeartbeats 8000000 in
theorem mX10_init (E : EV) (l : Launch) (c0 : Nat) (a1 : Int32) (a2 : Int32) (c3 : Nat) (c4 : Nat) (S0 : ZS) (q0 : c0 ≠ 0 ∧ rk S0.n c0) (q3 : c3 ≠ 0 ∧ rk S0.n c3) (q4 : c4 ≠ 0 ∧ rk S0.n c4) : ∀ u, kX10_init c0 a1 a2 c3 c4 S0 = some u → MVL E l yX10_init cX10_init 5 none 2 (fun ad => [.ref (rA E ad c0), .int a1, .int a2, .ref (rA E ad c3), .ref (rA E ad c4)]) S0 u := by
  intro u h
  unfold kX10_init at h
  obtain ⟨hcw, h⟩ := chk_inv h
  refine ML2.of (by decide +kernel) (fun ad => Nat.le_of_ble_eq_true rfl) hcw ?_
  intro p e s m args below meth c ad F hF C hA hr hnm ls hl hG
  have C : Cx p s m args meth c cX10_init 5 RX10 E := C
  have hx := C.1
  have hb := C.2.1
  have hU : F.uc = (u).c ∧ F.uw = (u).w := ⟨hF.2.2.2.2.1, hF.2.2.2.2.2⟩
  have hl : lv_has ls 5 [(0, .ref (rA E ad c0)), (1, .int a1), (2, .int a2), (3, .ref (rA E ad c3)), (4, .ref (rA E ad c4))] := hl
  obtain ⟨b0, h0, e0⟩ : ∃ b, RA E ad S0.n c0 b ∧ b = rA E ad c0 := ⟨_, RA.of q0.1 q0.2, rfl⟩
  rw [← e0] at hl
  obtain ⟨b3, h3, e3⟩ : ∃ b, RA E ad S0.n c3 b ∧ b = rA E ad c3 := ⟨_, RA.of q3.1 q3.2, rfl⟩
  rw [← e3] at hl
  obtain ⟨b4, h4, e4⟩ : ∃ b, RA E ad S0.n c4 b ∧ b = rA E ad c4 := ⟨_, RA.of q4.1 q4.2, rfl⟩
  rw [← e4] at hl
  refine lv_aload_n hx hb dX10_init_0 rfl (lv_at hl 0 rfl) ?_
  refine r2_obj C hl.1 (mTBi 1458 (by decide +kernel) rfl) QOI QOC ⟨(Nat.le_of_ble_eq_true rfl), (Nat.le_of_ble_eq_true rfl)⟩ dX10_init_1 ?_
  refine lv_aload_n hx hb dX10_init_4 rfl (lv_at hl 0 rfl) ?_
  refine lv_iload_n hx hb dX10_init_5 rfl (lv_at hl 1 rfl) ?_
  refine r2_pI C hG h0 FQX10_7 (Or.inr ⟨rfl, hnm⟩) rfl rfl rfl dX10_init_6 h (fun H locs S1 hG h => ?_)
  refine lv_aload_n hx hb dX10_init_9 rfl (lv_at hl 0 rfl) ?_
  refine lv_iload_n hx hb dX10_init_10 rfl (lv_at hl 2 rfl) ?_
  refine r2_pI C hG h0 FQX10_13 (Or.inr ⟨rfl, hnm⟩) rfl rfl rfl dX10_init_11 h (fun H locs S2 hG h => ?_)
  refine lv_aload_n hx hb dX10_init_14 rfl (lv_at hl 0 rfl) ?_
  refine lv_aload_n hx hb dX10_init_15 rfl (lv_at hl 3 rfl) ?_
  refine r2_pR C hG h0 h3.RV FQX10_16 (Or.inr ⟨rfl, hnm⟩) rfl rfl rfl dX10_init_16 h (fun H locs S3 hG h => ?_)
  refine lv_aload_n hx hb dX10_init_19 rfl (lv_at hl 0 rfl) ?_
  refine lv_aload hx hb dX10_init_20 (lv_at hl 4 rfl) ?_
  refine r2_pR C hG h0 h4.RV FQX10_20 (Or.inr ⟨rfl, hnm⟩) rfl rfl rfl dX10_init_22 h (fun H locs S4 hG h => ?_)
  exact r2_vret C hF hG hr dX10_init_25 h
def kX10_init_Z (c0 : Nat) (a1 : Int32) (a2 : Int32) (c3 : Nat) (S0 : ZS) : Option (ZS) :=
  chk id S0 <|
  pI S0 c0 12 0 a1 fun S1 =>
  pI S1 c0 12 1 a2 fun S2 =>
  pR S2 c0 12 2 c3 fun S3 =>
  pR S3 c0 12 3 0 fun S4 =>
  some S4
set_option maxRecDepth 100000 in
set_option maxHeartbeats 8000000 in
theorem mX10_init_Z (E : EV) (l : Launch) (c0 : Nat) (a1 : Int32) (a2 : Int32) (c3 : Nat) (S0 : ZS) (q0 : c0 ≠ 0 ∧ rk S0.n c0) (q3 : c3 ≠ 0 ∧ rk S0.n c3) : ∀ u, kX10_init_Z c0 a1 a2 c3 S0 = some u → MVL E l yX10_init cX10_init 5 none 2 (fun ad => [.ref (rA E ad c0), .int a1, .int a2, .ref (rA E ad c3), .null]) S0 u := by
  intro u h
  unfold kX10_init_Z at h
  obtain ⟨hcw, h⟩ := chk_inv h
  refine ML2.of (by decide +kernel) (fun ad => Nat.le_of_ble_eq_true rfl) hcw ?_
  intro p e s m args below meth c ad F hF C hA hr hnm ls hl hG
  have C : Cx p s m args meth c cX10_init 5 RX10 E := C
  have hx := C.1
  have hb := C.2.1
  have hU : F.uc = (u).c ∧ F.uw = (u).w := ⟨hF.2.2.2.2.1, hF.2.2.2.2.2⟩
  have hl : lv_has ls 5 [(0, .ref (rA E ad c0)), (1, .int a1), (2, .int a2), (3, .ref (rA E ad c3)), (4, .null)] := hl
  obtain ⟨b0, h0, e0⟩ : ∃ b, RA E ad S0.n c0 b ∧ b = rA E ad c0 := ⟨_, RA.of q0.1 q0.2, rfl⟩
  rw [← e0] at hl
  obtain ⟨b3, h3, e3⟩ : ∃ b, RA E ad S0.n c3 b ∧ b = rA E ad c3 := ⟨_, RA.of q3.1 q3.2, rfl⟩
  rw [← e3] at hl
  refine lv_aload_n hx hb dX10_init_0 rfl (lv_at hl 0 rfl) ?_
  refine r2_obj C hl.1 (mTBi 1458 (by decide +kernel) rfl) QOI QOC ⟨(Nat.le_of_ble_eq_true rfl), (Nat.le_of_ble_eq_true rfl)⟩ dX10_init_1 ?_
  refine lv_aload_n hx hb dX10_init_4 rfl (lv_at hl 0 rfl) ?_
  refine lv_iload_n hx hb dX10_init_5 rfl (lv_at hl 1 rfl) ?_
  refine r2_pI C hG h0 FQX10_7 (Or.inr ⟨rfl, hnm⟩) rfl rfl rfl dX10_init_6 h (fun H locs S1 hG h => ?_)
  refine lv_aload_n hx hb dX10_init_9 rfl (lv_at hl 0 rfl) ?_
  refine lv_iload_n hx hb dX10_init_10 rfl (lv_at hl 2 rfl) ?_
  refine r2_pI C hG h0 FQX10_13 (Or.inr ⟨rfl, hnm⟩) rfl rfl rfl dX10_init_11 h (fun H locs S2 hG h => ?_)
  refine lv_aload_n hx hb dX10_init_14 rfl (lv_at hl 0 rfl) ?_
  refine lv_aload_n hx hb dX10_init_15 rfl (lv_at hl 3 rfl) ?_
  refine r2_pR C hG h0 h3.RV FQX10_16 (Or.inr ⟨rfl, hnm⟩) rfl rfl rfl dX10_init_16 h (fun H locs S3 hG h => ?_)
  refine lv_aload_n hx hb dX10_init_19 rfl (lv_at hl 0 rfl) ?_
  refine lv_aloadN hx hb dX10_init_20 (lv_at hl 4 rfl) ?_
  refine r2_pR C hG h0 RV_0 FQX10_20 (Or.inr ⟨rfl, hnm⟩) rfl rfl rfl dX10_init_22 h (fun H locs S4 hG h => ?_)
  exact r2_vret C hF hG hr dX10_init_25 h
def kX10_sum_63 (R : Nat → Int32 → Int32 → ZS → Option (Nat × ZS))  (vt0 : Int32) (vt1 : Int32) (vt2 : Nat) (vt3 : Nat) (S : ZS) : Option (Nat × ZS) :=
      b1 Prod.snd (kX10_init_ZZ vt2 vt1 vt0 S) fun S1 =>
      some (vt3, S1)
def kX10_sum_12 (R : Nat → Int32 → Int32 → ZS → Option (Nat × ZS))  (v0 : Nat) (v1 : Int32) (v2 : Int32) (vt0 : Int32) (vt1 : Nat) (S : ZS) : Option (Nat × ZS) :=
      rcv S vt1 11 <| b2 Prod.snd (kX9_next vt1 vt0 S) fun x5 S3 =>
      if 9 ≤ x5 then
        b2 Prod.snd (R v0 v1 (v2 - 1) S3) fun c9 S7 =>
        nO Prod.snd S7 12 4 fun c10 S11 =>
        if x5 = 9 then
          b1 Prod.snd (kX10_init_Z c10 x5 0 c9 S11) fun S19 =>
          some (c10, S19)
        else
          b2 Prod.snd (R v0 v1 (v2 - 1) S11) fun c16 S14 =>
          b1 Prod.snd (kX10_init c10 x5 0 c9 c16 S14) fun S17 =>
          some (c10, S17)
      else
        nO Prod.snd S3 12 4 fun c21 S22 =>
        if x5 ≤ 0 then
          rcv S22 v0 11 <| b2 Prod.snd (kX9_next v0 6 S22) fun x27 S25 =>
          if x27 = 0 then
            rcv S25 v0 11 <| b2 Prod.snd (kX9_next v0 1000000 S25) fun x34 S32 =>
            kX10_sum_63 R x34 x5 c21 c21 S32
          else
            rcv S25 v0 11 <| b2 Prod.snd (kX9_next v0 30 S25) fun x31 S29 =>
            kX10_sum_63 R x31 x5 c21 c21 S29
        else
          rcv S22 v0 11 <| b2 Prod.snd (kX9_next v0 v1 S22) fun x37 S35 =>
          kX10_sum_63 R x37 x5 c21 c21 S35
def kbX10_sum (R : Nat → Int32 → Int32 → ZS → Option (Nat × ZS)) (c0 : Nat) (a1 : Int32) (a2 : Int32) (S0 : ZS) : Option (Nat × ZS) :=
  chk Prod.snd S0 <|
  if a2 = 0 then
    kX10_sum_12 R c0 a1 a2 9 c0 S0
  else
    kX10_sum_12 R c0 a1 a2 16 c0 S0
set_option maxRecDepth 100000 in
set_option maxHeartbeats 8000000 in
theorem mX10_sum_b (E : EV) (l : Launch) (d : Nat) (R : Nat → Int32 → Int32 → ZS → Option (Nat × ZS)) (IH : ∀ (c0 : Nat) (a1 : Int32) (a2 : Int32) (S : ZS), (c0 ≠ 0 ∧ rk S.n c0) → ∀ u, R c0 a1 a2 S = some u → MRL E l yX10_sum cX10_sum 5 (Option.some (Jvm.ClassFile.FieldType.object "PeriscopeTrainLaw$Node")) (3 + d) (fun ad => [.ref (rA E ad c0), .int a1, .int a2]) S u) (c0 : Nat) (a1 : Int32) (a2 : Int32) (S0 : ZS) (q0 : c0 ≠ 0 ∧ rk S0.n c0) : ∀ u, kbX10_sum R c0 a1 a2 S0 = some u → MRL E l yX10_sum cX10_sum 5 (Option.some (Jvm.ClassFile.FieldType.object "PeriscopeTrainLaw$Node")) (3 + d + 1) (fun ad => [.ref (rA E ad c0), .int a1, .int a2]) S0 u := by
  intro u h
  unfold kbX10_sum at h
  obtain ⟨hcw, h⟩ := chk_inv h
  refine ML2.of (by decide +kernel) (fun ad => Nat.le_of_ble_eq_true rfl) hcw ?_
  intro p e s m args below meth c ad F hF C hA hr hnm ls hl hG
  have C : Cx p s m args meth c cX10_sum 5 RX10 E := C
  have hx := C.1
  have hb := C.2.1
  have hU : F.uc = (u.2).c ∧ F.uw = (u.2).w := ⟨hF.2.2.2.2.1, hF.2.2.2.2.2⟩
  have hl : lv_has ls 5 [(0, .ref (rA E ad c0)), (1, .int a1), (2, .int a2)] := hl
  obtain ⟨b0, h0, e0⟩ : ∃ b, RA E ad S0.n c0 b ∧ b = rA E ad c0 := ⟨_, RA.of q0.1 q0.2, rfl⟩
  rw [← e0] at hl
  have j63 : ∀ (vt0 : Int32) (vt1 : Int32) (vt2 : Nat) (vt3 : Nat) (S : ZS) (ad : Nat → Nat) (N : Nat) (bvt2 : Nat) (bvt3 : Nat) (H : Heap) (locs : List Loc) (ls : Array Slot) (cells slots : Nat), GL E s F H locs ad N S cells slots → RA E ad N vt2 bvt2 → RA E ad N vt3 bvt3 → lv_has ls 5 [] → kX10_sum_63 R vt0 vt1 vt2 vt3 S = some u → W p l e (F.R (3 + d + 1)) s m args below meth c H locs cells slots (MQ below (QRL E s.heap.size F.ad S0 u) args s (F.c - F.uc) (F.w - F.uw) F.A) (F0 m 63 ls [.int vt0, .int vt1, .ref bvt2, .ref bvt3]) := by
    intro vt0 vt1 vt2 vt3 S ad N bvt2 bvt3 H locs ls cells slots hG hvt2 hvt3 hl h
    unfold kX10_sum_63 at h
    refine lv_null hx hb dX10_sum_63 ?_
    refine lv_null hx hb dX10_sum_64 ?_
    refine r2_cIV C hA hl.1 hG [.int vt1, .int vt0, .null, .null] [.ref bvt3] (mX10_init_ZZ E l vt2 vt1 vt0 S (RAq hG hvt2)) (by rw [hvt2.1]) QLX10_30 rfl (rm2 (by omega) (by decide)) (Nat.le_of_ble_eq_true rfl) rfl dX10_sum_65 hU h (fun S1 H locs ad2 cells slots hG hx9 h => ?_)
    have hvt3 := hvt3.up hx9
    exact r2_aret C hF hG hvt3 (Or.inl ⟨_, rfl⟩) hr dX10_sum_68 h
  have j12 : ∀ (v0 : Nat) (v1 : Int32) (v2 : Int32) (vt0 : Int32) (vt1 : Nat) (S : ZS) (ad : Nat → Nat) (N : Nat) (bv0 : Nat) (bvt1 : Nat) (H : Heap) (locs : List Loc) (ls : Array Slot) (cells slots : Nat), GL E s F H locs ad N S cells slots → RA E ad N v0 bv0 → RA E ad N vt1 bvt1 → lv_has ls 5 [(0, .ref bv0), (1, .int v1), (2, .int v2)] → kX10_sum_12 R v0 v1 v2 vt0 vt1 S = some u → W p l e (F.R (3 + d + 1)) s m args below meth c H locs cells slots (MQ below (QRL E s.heap.size F.ad S0 u) args s (F.c - F.uc) (F.w - F.uw) F.A) (F0 m 12 ls [.int vt0, .ref bvt1]) := by
    intro v0 v1 v2 vt0 vt1 S ad N bv0 bvt1 H locs ls cells slots hG hv0 hvt1 hl h
    unfold kX10_sum_12 at h
    refine r2_cVI C hA hl.1 hG hvt1 [.int vt0] [] (mX9_next E l vt1 vt0 S (RAq hG hvt1)) (by rw [hvt1.1]) QLX10_23 KP11 rfl (rm2 (by omega) (by decide)) (Nat.le_of_ble_eq_true rfl) rfl dX10_sum_12 hU h (fun x5 S3 H locs ad4 cells slots hG hx9 h => ?_)
    have hv0 := hv0.up hx9
    refine lv_istore_n (lv' := [(3, .int x5), (0, .ref bv0), (1, .int v1), (2, .int v2)]) hx hb dX10_sum_15 rfl hl (by decide) rfl (fun ls hl => ?_)
    refine lv_iload_n hx hb dX10_sum_16 rfl (lv_at hl 0 rfl) ?_
    refine lv_bipush (v := 9) hx hb dX10_sum_17 (by decide) ?_
    refine lv_icmp_ge (tgt := 69) hx hb dX10_sum_19 (by decide) (fun g6 => ?_) (fun g6 => ?_)
    · have h := (if_inv h).1 g6
      refine lv_aload_n hx hb dX10_sum_69 rfl (lv_at hl 1 rfl) ?_
      refine lv_iload_n hx hb dX10_sum_70 rfl (lv_at hl 2 rfl) ?_
      refine lv_iload_n hx hb dX10_sum_71 rfl (lv_at hl 3 rfl) ?_
      refine lv_iconst (v := 1) hx hb dX10_sum_72 (by decide) ?_
      refine lv_isub hx hb dX10_sum_73 ?_
      refine r2_cSR C hA hl.1 hG [.ref bv0, .int v1, .int (v2 - 1)] [] (IH v0 v1 (v2 - 1) S3 (RAq hG hv0)) (by rw [hv0.1]) QLX10_33 rfl (rm2 (by omega) (by decide)) (Nat.le_of_ble_eq_true rfl) rfl dX10_sum_74 hU h (fun bc9 c9 S7 H locs ad8 cells slots hG hx9 h_c9 h => ?_)
      have hv0 := hv0.up hx9
      refine lv_astore (lv' := [(4, .ref bc9), (3, .int x5), (0, .ref bv0), (1, .int v1), (2, .int v2)]) hx hb dX10_sum_77 hl (by decide) rfl (fun ls hl => ?_)
      refine r2_new C hA hG KP12 (mTBi 1476 (by decide +kernel) rfl) (mTBi 1454 (by decide +kernel) rfl) (mTBi 63 (by decide +kernel) rfl) (by decide +kernel) dX10_sum_79 hU h (fun bc10 c10 H ad12 S11 cells slots hG hx9 h_c10 h => ?_)
      have h_c9 := h_c9.up hx9
      have hv0 := hv0.up hx9
      refine lv_dup hx hb dX10_sum_82 rfl ?_
      refine lv_iload_n hx hb dX10_sum_83 rfl (lv_at hl 1 rfl) ?_
      refine lv_iconst (v := 0) hx hb dX10_sum_84 (by decide) ?_
      refine lv_aload hx hb dX10_sum_85 (lv_at hl 0 rfl) ?_
      refine lv_iload_n hx hb dX10_sum_87 rfl (lv_at hl 1 rfl) ?_
      refine lv_bipush (v := 9) hx hb dX10_sum_88 (by decide) ?_
      refine lv_icmp_ne (tgt := 97) hx hb dX10_sum_90 (by decide) (fun g13 => ?_) (fun g13 => ?_)
      · have h := (if_inv h).2 g13
        refine lv_aload_n hx hb dX10_sum_97 rfl (lv_at hl 2 rfl) ?_
        refine lv_iload_n hx hb dX10_sum_98 rfl (lv_at hl 3 rfl) ?_
        refine lv_iload_n hx hb dX10_sum_99 rfl (lv_at hl 4 rfl) ?_
        refine lv_iconst (v := 1) hx hb dX10_sum_100 (by decide) ?_
        refine lv_isub hx hb dX10_sum_101 ?_
        refine r2_cSR C hA hl.1 hG [.ref bv0, .int v1, .int (v2 - 1)] [.ref bc9, .int 0, .int x5, .ref bc10, .ref bc10] (IH v0 v1 (v2 - 1) S11 (RAq hG hv0)) (by rw [hv0.1]) QLX10_33 rfl (rm2 (by omega) (by decide)) (Nat.le_of_ble_eq_true rfl) rfl dX10_sum_102 hU h (fun bc16 c16 S14 H locs ad15 cells slots hG hx9 h_c16 h => ?_)
        have h_c9 := h_c9.up hx9
        have hv0 := hv0.up hx9
        have h_c10 := h_c10.up hx9
        refine r2_cIV C hA hl.1 hG [.int x5, .int 0, .ref bc9, .ref bc16] [.ref bc10] (mX10_init E l c10 x5 0 c9 c16 S14 (RAq hG h_c10) (RAq hG h_c9) (RAq hG h_c16)) (by rw [h_c10.1, h_c9.1, h_c16.1]) QLX10_30 rfl (rm2 (by omega) (by decide)) (Nat.le_of_ble_eq_true rfl) rfl dX10_sum_105 hU h (fun S17 H locs ad18 cells slots hG hx9 h => ?_)
        have h_c9 := h_c9.up hx9
        have hv0 := hv0.up hx9
        have h_c10 := h_c10.up hx9
        exact r2_aret C hF hG h_c10 (Or.inl ⟨_, rfl⟩) hr dX10_sum_108 h
      · have h := (if_inv h).1 g13
        refine lv_null hx hb dX10_sum_93 ?_
        refine lv_goto (tgt := 105) hx hb dX10_sum_94 (by decide) ?_
        refine r2_cIV C hA hl.1 hG [.int x5, .int 0, .ref bc9, .null] [.ref bc10] (mX10_init_Z E l c10 x5 0 c9 S11 (RAq hG h_c10) (RAq hG h_c9)) (by rw [h_c10.1, h_c9.1]) QLX10_30 rfl (rm2 (by omega) (by decide)) (Nat.le_of_ble_eq_true rfl) rfl dX10_sum_105 hU h (fun S19 H locs ad20 cells slots hG hx9 h => ?_)
        have h_c9 := h_c9.up hx9
        have hv0 := hv0.up hx9
        have h_c10 := h_c10.up hx9
        exact r2_aret C hF hG h_c10 (Or.inl ⟨_, rfl⟩) hr dX10_sum_108 h
    · have h := (if_inv h).2 g6
      refine r2_new C hA hG KP12 (mTBi 1476 (by decide +kernel) rfl) (mTBi 1454 (by decide +kernel) rfl) (mTBi 63 (by decide +kernel) rfl) (by decide +kernel) dX10_sum_22 hU h (fun bc21 c21 H ad23 S22 cells slots hG hx9 h_c21 h => ?_)
      have hv0 := hv0.up hx9
      refine lv_dup hx hb dX10_sum_25 rfl ?_
      refine lv_iload_n hx hb dX10_sum_26 rfl (lv_at hl 0 rfl) ?_
      refine lv_iload_n hx hb dX10_sum_27 rfl (lv_at hl 0 rfl) ?_
      refine lv_if_le (tgt := 39) hx hb dX10_sum_28 (by decide) (fun g24 => ?_) (fun g24 => ?_)
      · have h := (if_inv h).1 g24
        refine lv_aload_n hx hb dX10_sum_39 rfl (lv_at hl 1 rfl) ?_
        refine lv_bipush (v := 6) hx hb dX10_sum_40 (by decide) ?_
        refine r2_cVI C hA hl.1 hG hv0 [.int 6] [.int x5, .ref bc21, .ref bc21] (mX9_next E l v0 6 S22 (RAq hG hv0)) (by rw [hv0.1]) QLX10_23 KP11 rfl (rm2 (by omega) (by decide)) (Nat.le_of_ble_eq_true rfl) rfl dX10_sum_42 hU h (fun x27 S25 H locs ad26 cells slots hG hx9 h => ?_)
        have hv0 := hv0.up hx9
        have h_c21 := h_c21.up hx9
        refine lv_if_ne (tgt := 57) hx hb dX10_sum_45 (by decide) (fun g28 => ?_) (fun g28 => ?_)
        · have h := (if_inv h).2 g28
          refine lv_aload_n hx hb dX10_sum_57 rfl (lv_at hl 1 rfl) ?_
          refine lv_bipush (v := 30) hx hb dX10_sum_58 (by decide) ?_
          refine r2_cVI C hA hl.1 hG hv0 [.int 30] [.int x5, .ref bc21, .ref bc21] (mX9_next E l v0 30 S25 (RAq hG hv0)) (by rw [hv0.1]) QLX10_23 KP11 rfl (rm2 (by omega) (by decide)) (Nat.le_of_ble_eq_true rfl) rfl dX10_sum_60 hU h (fun x31 S29 H locs ad30 cells slots hG hx9 h => ?_)
          have hv0 := hv0.up hx9
          have h_c21 := h_c21.up hx9
          exact j63 x31 x5 c21 c21 S29 _ _ _ _ _ _ _ _ _ hG h_c21 h_c21 (lv_sub hl [] rfl) h
        · have h := (if_inv h).1 g28
          refine lv_aload_n hx hb dX10_sum_48 rfl (lv_at hl 1 rfl) ?_
          refine lv_ldc (v := 1000000) hx hb C.2.2.2.1 (C.2.2.2.2.1 _ LQX10_29) dX10_sum_49 ?_
          refine r2_cVI C hA hl.1 hG hv0 [.int 1000000] [.int x5, .ref bc21, .ref bc21] (mX9_next E l v0 1000000 S25 (RAq hG hv0)) (by rw [hv0.1]) QLX10_23 KP11 rfl (rm2 (by omega) (by decide)) (Nat.le_of_ble_eq_true rfl) rfl dX10_sum_51 hU h (fun x34 S32 H locs ad33 cells slots hG hx9 h => ?_)
          have hv0 := hv0.up hx9
          have h_c21 := h_c21.up hx9
          refine lv_goto (tgt := 63) hx hb dX10_sum_54 (by decide) ?_
          exact j63 x34 x5 c21 c21 S32 _ _ _ _ _ _ _ _ _ hG h_c21 h_c21 (lv_sub hl [] rfl) h
      · have h := (if_inv h).2 g24
        refine lv_aload_n hx hb dX10_sum_31 rfl (lv_at hl 1 rfl) ?_
        refine lv_iload_n hx hb dX10_sum_32 rfl (lv_at hl 2 rfl) ?_
        refine r2_cVI C hA hl.1 hG hv0 [.int v1] [.int x5, .ref bc21, .ref bc21] (mX9_next E l v0 v1 S22 (RAq hG hv0)) (by rw [hv0.1]) QLX10_23 KP11 rfl (rm2 (by omega) (by decide)) (Nat.le_of_ble_eq_true rfl) rfl dX10_sum_33 hU h (fun x37 S35 H locs ad36 cells slots hG hx9 h => ?_)
        have hv0 := hv0.up hx9
        have h_c21 := h_c21.up hx9
        refine lv_goto (tgt := 63) hx hb dX10_sum_36 (by decide) ?_
        exact j63 x37 x5 c21 c21 S35 _ _ _ _ _ _ _ _ _ hG h_c21 h_c21 (lv_sub hl [] rfl) h
  refine lv_aload_n hx hb dX10_sum_0 rfl (lv_at hl 0 rfl) ?_
  refine lv_iload_n hx hb dX10_sum_1 rfl (lv_at hl 2 rfl) ?_
  refine lv_if_ne (tgt := 10) hx hb dX10_sum_2 (by decide) (fun g38 => ?_) (fun g38 => ?_)
  · have h := (if_inv h).2 g38
    refine lv_bipush (v := 16) hx hb dX10_sum_10 (by decide) ?_
    exact j12 c0 a1 a2 16 c0 S0 _ _ _ _ _ _ _ _ _ hG h0 h0 (lv_sub hl [0, 1, 2] rfl) h
  · have h := (if_inv h).1 g38
    refine lv_bipush (v := 9) hx hb dX10_sum_5 (by decide) ?_
    refine lv_goto (tgt := 12) hx hb dX10_sum_7 (by decide) ?_
    exact j12 c0 a1 a2 9 c0 S0 _ _ _ _ _ _ _ _ _ hG h0 h0 (lv_sub hl [0, 1, 2] rfl) h
def kRX10_sum : Nat → Nat → Int32 → Int32 → ZS → Option (Nat × ZS)
  | 0, _, _, _, _ => none
  | d + 1, c0, a1, a2, S => kbX10_sum (kRX10_sum d) c0 a1 a2 S
theorem mRX10_sum (E : EV) (l : Launch) : ∀ d, ∀ (c0 : Nat) (a1 : Int32) (a2 : Int32) (S : ZS), (c0 ≠ 0 ∧ rk S.n c0) → ∀ u, kRX10_sum d c0 a1 a2 S = some u → MRL E l yX10_sum cX10_sum 5 (Option.some (Jvm.ClassFile.FieldType.object "PeriscopeTrainLaw$Node")) (3 + d) (fun ad => [.ref (rA E ad c0), .int a1, .int a2]) S u := by
  intro d
  induction d with
  | zero =>
    intro c0 a1 a2 S q0 u h
    cases h
  | succ d ih =>
    intro c0 a1 a2 S q0 u h
    exact mX10_sum_b E l d (kRX10_sum d) ih c0 a1 a2 S q0 u h
def kX10_sum (c0 : Nat) (a1 : Int32) (a2 : Int32) (S : ZS) : Option (Nat × ZS) := kRX10_sum 12 c0 a1 a2 S
theorem mX10_sum (E : EV) (l : Launch) (c0 : Nat) (a1 : Int32) (a2 : Int32) (S : ZS) (q0 : c0 ≠ 0 ∧ rk S.n c0) : ∀ u, kX10_sum c0 a1 a2 S = some u → MRL E l yX10_sum cX10_sum 5 (Option.some (Jvm.ClassFile.FieldType.object "PeriscopeTrainLaw$Node")) 15 (fun ad => [.ref (rA E ad c0), .int a1, .int a2]) S u := fun u h => mRX10_sum E l 12 c0 a1 a2 S q0 u h
def kX10_test_11 (R : Nat → Int32 → Int32 → ZS → Option (Nat × ZS))  (v0 : Nat) (v1 : Int32) (v2 : Int32) (vt0 : Int32) (vt1 : Nat) (S : ZS) : Option (Nat × ZS) :=
      rcv S vt1 11 <| b2 Prod.snd (kX9_next vt1 vt0 S) fun x3 S1 =>
      if 2 ≤ x3 then
        if 5 ≤ x3 then
          b2 Prod.snd (R v0 v1 (v2 - 1) S1) fun c8 S6 =>
          nO Prod.snd S6 12 4 fun c9 S10 =>
          if x3 = 5 then
            b1 Prod.snd (kX10_init_Z c9 (18 + x3) 0 c8 S10) fun S18 =>
            some (c9, S18)
          else
            b2 Prod.snd (R v0 v1 (v2 - 1) S10) fun c15 S13 =>
            b1 Prod.snd (kX10_init c9 (18 + x3) 0 c8 c15 S13) fun S16 =>
            some (c9, S16)
        else
          nO Prod.snd S1 12 4 fun c20 S21 =>
          rcv S21 v0 11 <| b2 Prod.snd (kX9_next v0 5 S21) fun x25 S23 =>
          b2 Prod.snd (kX10_sum v0 v1 1 S23) fun c28 S26 =>
          b2 Prod.snd (kX10_sum v0 v1 0 S26) fun c31 S29 =>
          b1 Prod.snd (kX10_init c20 (16 + x25) 0 c28 c31 S29) fun S32 =>
          some (c20, S32)
      else
        nO Prod.snd S1 12 4 fun c34 S35 =>
        rcv S35 v0 11 <| b2 Prod.snd (kX9_next v0 v1 S35) fun x39 S37 =>
        b1 Prod.snd (kX10_init_ZZ c34 (21 + x3) x39 S37) fun S40 =>
        some (c34, S40)
def kbX10_test (R : Nat → Int32 → Int32 → ZS → Option (Nat × ZS)) (c0 : Nat) (a1 : Int32) (a2 : Int32) (S0 : ZS) : Option (Nat × ZS) :=
  chk Prod.snd S0 <|
  if a2 = 0 then
    kX10_test_11 R c0 a1 a2 5 c0 S0
  else
    kX10_test_11 R c0 a1 a2 8 c0 S0
set_option maxRecDepth 100000 in
set_option maxHeartbeats 8000000 in
theorem mX10_test_b (E : EV) (l : Launch) (d : Nat) (R : Nat → Int32 → Int32 → ZS → Option (Nat × ZS)) (IH : ∀ (c0 : Nat) (a1 : Int32) (a2 : Int32) (S : ZS), (c0 ≠ 0 ∧ rk S.n c0) → ∀ u, R c0 a1 a2 S = some u → MRL E l yX10_test cX10_test 5 (Option.some (Jvm.ClassFile.FieldType.object "PeriscopeTrainLaw$Node")) (16 + d) (fun ad => [.ref (rA E ad c0), .int a1, .int a2]) S u) (c0 : Nat) (a1 : Int32) (a2 : Int32) (S0 : ZS) (q0 : c0 ≠ 0 ∧ rk S0.n c0) : ∀ u, kbX10_test R c0 a1 a2 S0 = some u → MRL E l yX10_test cX10_test 5 (Option.some (Jvm.ClassFile.FieldType.object "PeriscopeTrainLaw$Node")) (16 + d + 1) (fun ad => [.ref (rA E ad c0), .int a1, .int a2]) S0 u := by
  intro u h
  unfold kbX10_test at h
  obtain ⟨hcw, h⟩ := chk_inv h
  refine ML2.of (by decide +kernel) (fun ad => Nat.le_of_ble_eq_true rfl) hcw ?_
  intro p e s m args below meth c ad F hF C hA hr hnm ls hl hG
  have C : Cx p s m args meth c cX10_test 5 RX10 E := C
  have hx := C.1
  have hb := C.2.1
  have hU : F.uc = (u.2).c ∧ F.uw = (u.2).w := ⟨hF.2.2.2.2.1, hF.2.2.2.2.2⟩
  have hl : lv_has ls 5 [(0, .ref (rA E ad c0)), (1, .int a1), (2, .int a2)] := hl
  obtain ⟨b0, h0, e0⟩ : ∃ b, RA E ad S0.n c0 b ∧ b = rA E ad c0 := ⟨_, RA.of q0.1 q0.2, rfl⟩
  rw [← e0] at hl
  have j11 : ∀ (v0 : Nat) (v1 : Int32) (v2 : Int32) (vt0 : Int32) (vt1 : Nat) (S : ZS) (ad : Nat → Nat) (N : Nat) (bv0 : Nat) (bvt1 : Nat) (H : Heap) (locs : List Loc) (ls : Array Slot) (cells slots : Nat), GL E s F H locs ad N S cells slots → RA E ad N v0 bv0 → RA E ad N vt1 bvt1 → lv_has ls 5 [(0, .ref bv0), (1, .int v1), (2, .int v2)] → kX10_test_11 R v0 v1 v2 vt0 vt1 S = some u → W p l e (F.R (16 + d + 1)) s m args below meth c H locs cells slots (MQ below (QRL E s.heap.size F.ad S0 u) args s (F.c - F.uc) (F.w - F.uw) F.A) (F0 m 11 ls [.int vt0, .ref bvt1]) := by
    intro v0 v1 v2 vt0 vt1 S ad N bv0 bvt1 H locs ls cells slots hG hv0 hvt1 hl h
    unfold kX10_test_11 at h
    refine r2_cVI C hA hl.1 hG hvt1 [.int vt0] [] (mX9_next E l vt1 vt0 S (RAq hG hvt1)) (by rw [hvt1.1]) QLX10_23 KP11 rfl (rm2 (by omega) (by decide)) (Nat.le_of_ble_eq_true rfl) rfl dX10_test_11 hU h (fun x3 S1 H locs ad2 cells slots hG hx9 h => ?_)
    have hv0 := hv0.up hx9
    refine lv_istore_n (lv' := [(3, .int x3), (0, .ref bv0), (1, .int v1), (2, .int v2)]) hx hb dX10_test_14 rfl hl (by decide) rfl (fun ls hl => ?_)
    refine lv_iload_n hx hb dX10_test_15 rfl (lv_at hl 0 rfl) ?_
    refine lv_iconst (v := 2) hx hb dX10_test_16 (by decide) ?_
    refine lv_icmp_ge (tgt := 39) hx hb dX10_test_17 (by decide) (fun g4 => ?_) (fun g4 => ?_)
    · have h := (if_inv h).1 g4
      refine lv_iload_n hx hb dX10_test_39 rfl (lv_at hl 0 rfl) ?_
      refine lv_iconst (v := 5) hx hb dX10_test_40 (by decide) ?_
      refine lv_icmp_ge (tgt := 73) hx hb dX10_test_41 (by decide) (fun g5 => ?_) (fun g5 => ?_)
      · have h := (if_inv h).1 g5
        refine lv_aload_n hx hb dX10_test_73 rfl (lv_at hl 1 rfl) ?_
        refine lv_iload_n hx hb dX10_test_74 rfl (lv_at hl 2 rfl) ?_
        refine lv_iload_n hx hb dX10_test_75 rfl (lv_at hl 3 rfl) ?_
        refine lv_iconst (v := 1) hx hb dX10_test_76 (by decide) ?_
        refine lv_isub hx hb dX10_test_77 ?_
        refine r2_cSR C hA hl.1 hG [.ref bv0, .int v1, .int (v2 - 1)] [] (IH v0 v1 (v2 - 1) S1 (RAq hG hv0)) (by rw [hv0.1]) QLX10_37 rfl (rm2 (by omega) (by decide)) (Nat.le_of_ble_eq_true rfl) rfl dX10_test_78 hU h (fun bc8 c8 S6 H locs ad7 cells slots hG hx9 h_c8 h => ?_)
        have hv0 := hv0.up hx9
        refine lv_astore (lv' := [(4, .ref bc8), (3, .int x3), (0, .ref bv0), (1, .int v1), (2, .int v2)]) hx hb dX10_test_81 hl (by decide) rfl (fun ls hl => ?_)
        refine r2_new C hA hG KP12 (mTBi 1476 (by decide +kernel) rfl) (mTBi 1454 (by decide +kernel) rfl) (mTBi 63 (by decide +kernel) rfl) (by decide +kernel) dX10_test_83 hU h (fun bc9 c9 H ad11 S10 cells slots hG hx9 h_c9 h => ?_)
        have h_c8 := h_c8.up hx9
        have hv0 := hv0.up hx9
        refine lv_dup hx hb dX10_test_86 rfl ?_
        refine lv_bipush (v := 18) hx hb dX10_test_87 (by decide) ?_
        refine lv_iload_n hx hb dX10_test_89 rfl (lv_at hl 1 rfl) ?_
        refine lv_iadd hx hb dX10_test_90 ?_
        refine lv_iconst (v := 0) hx hb dX10_test_91 (by decide) ?_
        refine lv_aload hx hb dX10_test_92 (lv_at hl 0 rfl) ?_
        refine lv_iload_n hx hb dX10_test_94 rfl (lv_at hl 1 rfl) ?_
        refine lv_iconst (v := 5) hx hb dX10_test_95 (by decide) ?_
        refine lv_icmp_ne (tgt := 103) hx hb dX10_test_96 (by decide) (fun g12 => ?_) (fun g12 => ?_)
        · have h := (if_inv h).2 g12
          refine lv_aload_n hx hb dX10_test_103 rfl (lv_at hl 2 rfl) ?_
          refine lv_iload_n hx hb dX10_test_104 rfl (lv_at hl 3 rfl) ?_
          refine lv_iload_n hx hb dX10_test_105 rfl (lv_at hl 4 rfl) ?_
          refine lv_iconst (v := 1) hx hb dX10_test_106 (by decide) ?_
          refine lv_isub hx hb dX10_test_107 ?_
          refine r2_cSR C hA hl.1 hG [.ref bv0, .int v1, .int (v2 - 1)] [.ref bc8, .int 0, .int (18 + x3), .ref bc9, .ref bc9] (IH v0 v1 (v2 - 1) S10 (RAq hG hv0)) (by rw [hv0.1]) QLX10_37 rfl (rm2 (by omega) (by decide)) (Nat.le_of_ble_eq_true rfl) rfl dX10_test_108 hU h (fun bc15 c15 S13 H locs ad14 cells slots hG hx9 h_c15 h => ?_)
          have h_c8 := h_c8.up hx9
          have hv0 := hv0.up hx9
          have h_c9 := h_c9.up hx9
          refine r2_cIV C hA hl.1 hG [.int (18 + x3), .int 0, .ref bc8, .ref bc15] [.ref bc9] (mX10_init E l c9 (18 + x3) 0 c8 c15 S13 (RAq hG h_c9) (RAq hG h_c8) (RAq hG h_c15)) (by rw [h_c9.1, h_c8.1, h_c15.1]) QLX10_30 rfl (rm2 (by omega) (by decide)) (Nat.le_of_ble_eq_true rfl) rfl dX10_test_111 hU h (fun S16 H locs ad17 cells slots hG hx9 h => ?_)
          have h_c8 := h_c8.up hx9
          have hv0 := hv0.up hx9
          have h_c9 := h_c9.up hx9
          exact r2_aret C hF hG h_c9 (Or.inl ⟨_, rfl⟩) hr dX10_test_114 h
        · have h := (if_inv h).1 g12
          refine lv_null hx hb dX10_test_99 ?_
          refine lv_goto (tgt := 111) hx hb dX10_test_100 (by decide) ?_
          refine r2_cIV C hA hl.1 hG [.int (18 + x3), .int 0, .ref bc8, .null] [.ref bc9] (mX10_init_Z E l c9 (18 + x3) 0 c8 S10 (RAq hG h_c9) (RAq hG h_c8)) (by rw [h_c9.1, h_c8.1]) QLX10_30 rfl (rm2 (by omega) (by decide)) (Nat.le_of_ble_eq_true rfl) rfl dX10_test_111 hU h (fun S18 H locs ad19 cells slots hG hx9 h => ?_)
          have h_c8 := h_c8.up hx9
          have hv0 := hv0.up hx9
          have h_c9 := h_c9.up hx9
          exact r2_aret C hF hG h_c9 (Or.inl ⟨_, rfl⟩) hr dX10_test_114 h
      · have h := (if_inv h).2 g5
        refine r2_new C hA hG KP12 (mTBi 1476 (by decide +kernel) rfl) (mTBi 1454 (by decide +kernel) rfl) (mTBi 63 (by decide +kernel) rfl) (by decide +kernel) dX10_test_44 hU h (fun bc20 c20 H ad22 S21 cells slots hG hx9 h_c20 h => ?_)
        have hv0 := hv0.up hx9
        refine lv_dup hx hb dX10_test_47 rfl ?_
        refine lv_bipush (v := 16) hx hb dX10_test_48 (by decide) ?_
        refine lv_aload_n hx hb dX10_test_50 rfl (lv_at hl 1 rfl) ?_
        refine lv_iconst (v := 5) hx hb dX10_test_51 (by decide) ?_
        refine r2_cVI C hA hl.1 hG hv0 [.int 5] [.int 16, .ref bc20, .ref bc20] (mX9_next E l v0 5 S21 (RAq hG hv0)) (by rw [hv0.1]) QLX10_23 KP11 rfl (rm2 (by omega) (by decide)) (Nat.le_of_ble_eq_true rfl) rfl dX10_test_52 hU h (fun x25 S23 H locs ad24 cells slots hG hx9 h => ?_)
        have hv0 := hv0.up hx9
        have h_c20 := h_c20.up hx9
        refine lv_iadd hx hb dX10_test_55 ?_
        refine lv_iconst (v := 0) hx hb dX10_test_56 (by decide) ?_
        refine lv_aload_n hx hb dX10_test_57 rfl (lv_at hl 1 rfl) ?_
        refine lv_iload_n hx hb dX10_test_58 rfl (lv_at hl 2 rfl) ?_
        refine lv_iconst (v := 1) hx hb dX10_test_59 (by decide) ?_
        refine r2_cSR C hA hl.1 hG [.ref bv0, .int v1, .int 1] [.int 0, .int (16 + x25), .ref bc20, .ref bc20] (mX10_sum E l v0 v1 1 S23 (RAq hG hv0)) (by rw [hv0.1]) QLX10_33 rfl (rm2 (by omega) (by decide)) (Nat.le_of_ble_eq_true rfl) rfl dX10_test_60 hU h (fun bc28 c28 S26 H locs ad27 cells slots hG hx9 h_c28 h => ?_)
        have hv0 := hv0.up hx9
        have h_c20 := h_c20.up hx9
        refine lv_aload_n hx hb dX10_test_63 rfl (lv_at hl 1 rfl) ?_
        refine lv_iload_n hx hb dX10_test_64 rfl (lv_at hl 2 rfl) ?_
        refine lv_iconst (v := 0) hx hb dX10_test_65 (by decide) ?_
        refine r2_cSR C hA hl.1 hG [.ref bv0, .int v1, .int 0] [.ref bc28, .int 0, .int (16 + x25), .ref bc20, .ref bc20] (mX10_sum E l v0 v1 0 S26 (RAq hG hv0)) (by rw [hv0.1]) QLX10_33 rfl (rm2 (by omega) (by decide)) (Nat.le_of_ble_eq_true rfl) rfl dX10_test_66 hU h (fun bc31 c31 S29 H locs ad30 cells slots hG hx9 h_c31 h => ?_)
        have hv0 := hv0.up hx9
        have h_c28 := h_c28.up hx9
        have h_c20 := h_c20.up hx9
        refine r2_cIV C hA hl.1 hG [.int (16 + x25), .int 0, .ref bc28, .ref bc31] [.ref bc20] (mX10_init E l c20 (16 + x25) 0 c28 c31 S29 (RAq hG h_c20) (RAq hG h_c28) (RAq hG h_c31)) (by rw [h_c20.1, h_c28.1, h_c31.1]) QLX10_30 rfl (rm2 (by omega) (by decide)) (Nat.le_of_ble_eq_true rfl) rfl dX10_test_69 hU h (fun S32 H locs ad33 cells slots hG hx9 h => ?_)
        have hv0 := hv0.up hx9
        have h_c20 := h_c20.up hx9
        exact r2_aret C hF hG h_c20 (Or.inl ⟨_, rfl⟩) hr dX10_test_72 h
    · have h := (if_inv h).2 g4
      refine r2_new C hA hG KP12 (mTBi 1476 (by decide +kernel) rfl) (mTBi 1454 (by decide +kernel) rfl) (mTBi 63 (by decide +kernel) rfl) (by decide +kernel) dX10_test_20 hU h (fun bc34 c34 H ad36 S35 cells slots hG hx9 h_c34 h => ?_)
      have hv0 := hv0.up hx9
      refine lv_dup hx hb dX10_test_23 rfl ?_
      refine lv_bipush (v := 21) hx hb dX10_test_24 (by decide) ?_
      refine lv_iload_n hx hb dX10_test_26 rfl (lv_at hl 0 rfl) ?_
      refine lv_iadd hx hb dX10_test_27 ?_
      refine lv_aload_n hx hb dX10_test_28 rfl (lv_at hl 1 rfl) ?_
      refine lv_iload_n hx hb dX10_test_29 rfl (lv_at hl 2 rfl) ?_
      refine r2_cVI C hA hl.1 hG hv0 [.int v1] [.int (21 + x3), .ref bc34, .ref bc34] (mX9_next E l v0 v1 S35 (RAq hG hv0)) (by rw [hv0.1]) QLX10_23 KP11 rfl (rm2 (by omega) (by decide)) (Nat.le_of_ble_eq_true rfl) rfl dX10_test_30 hU h (fun x39 S37 H locs ad38 cells slots hG hx9 h => ?_)
      have hv0 := hv0.up hx9
      have h_c34 := h_c34.up hx9
      refine lv_null hx hb dX10_test_33 ?_
      refine lv_null hx hb dX10_test_34 ?_
      refine r2_cIV C hA hl.1 hG [.int (21 + x3), .int x39, .null, .null] [.ref bc34] (mX10_init_ZZ E l c34 (21 + x3) x39 S37 (RAq hG h_c34)) (by rw [h_c34.1]) QLX10_30 rfl (rm2 (by omega) (by decide)) (Nat.le_of_ble_eq_true rfl) rfl dX10_test_35 hU h (fun S40 H locs ad41 cells slots hG hx9 h => ?_)
      have hv0 := hv0.up hx9
      have h_c34 := h_c34.up hx9
      exact r2_aret C hF hG h_c34 (Or.inl ⟨_, rfl⟩) hr dX10_test_38 h
  refine lv_aload_n hx hb dX10_test_0 rfl (lv_at hl 0 rfl) ?_
  refine lv_iload_n hx hb dX10_test_1 rfl (lv_at hl 2 rfl) ?_
  refine lv_if_ne (tgt := 9) hx hb dX10_test_2 (by decide) (fun g42 => ?_) (fun g42 => ?_)
  · have h := (if_inv h).2 g42
    refine lv_bipush (v := 8) hx hb dX10_test_9 (by decide) ?_
    exact j11 c0 a1 a2 8 c0 S0 _ _ _ _ _ _ _ _ _ hG h0 h0 (lv_sub hl [0, 1, 2] rfl) h
  · have h := (if_inv h).1 g42
    refine lv_iconst (v := 5) hx hb dX10_test_5 (by decide) ?_
    refine lv_goto (tgt := 11) hx hb dX10_test_6 (by decide) ?_
    exact j11 c0 a1 a2 5 c0 S0 _ _ _ _ _ _ _ _ _ hG h0 h0 (lv_sub hl [0, 1, 2] rfl) h
def kRX10_test : Nat → Nat → Int32 → Int32 → ZS → Option (Nat × ZS)
  | 0, _, _, _, _ => none
  | d + 1, c0, a1, a2, S => kbX10_test (kRX10_test d) c0 a1 a2 S
theorem mRX10_test (E : EV) (l : Launch) : ∀ d, ∀ (c0 : Nat) (a1 : Int32) (a2 : Int32) (S : ZS), (c0 ≠ 0 ∧ rk S.n c0) → ∀ u, kRX10_test d c0 a1 a2 S = some u → MRL E l yX10_test cX10_test 5 (Option.some (Jvm.ClassFile.FieldType.object "PeriscopeTrainLaw$Node")) (16 + d) (fun ad => [.ref (rA E ad c0), .int a1, .int a2]) S u := by
  intro d
  induction d with
  | zero =>
    intro c0 a1 a2 S q0 u h
    cases h
  | succ d ih =>
    intro c0 a1 a2 S q0 u h
    exact mX10_test_b E l d (kRX10_test d) ih c0 a1 a2 S q0 u h
def kX10_test (c0 : Nat) (a1 : Int32) (a2 : Int32) (S : ZS) : Option (Nat × ZS) := kRX10_test 12 c0 a1 a2 S
theorem mX10_test (E : EV) (l : Launch) (c0 : Nat) (a1 : Int32) (a2 : Int32) (S : ZS) (q0 : c0 ≠ 0 ∧ rk S.n c0) : ∀ u, kX10_test c0 a1 a2 S = some u → MRL E l yX10_test cX10_test 5 (Option.some (Jvm.ClassFile.FieldType.object "PeriscopeTrainLaw$Node")) 28 (fun ad => [.ref (rA E ad c0), .int a1, .int a2]) S u := fun u h => mRX10_test E l 12 c0 a1 a2 S q0 u h
def kX10_text_409 (R : Nat → ZS → Option (Nat × ZS))  (v0 : Nat) (S : ZS) : Option (Nat × ZS) :=
      gI S v0 12 0 fun x1 =>
      if 4 ≤ x1 then
        gI S v0 12 0 fun x3 =>
        if 9 ≤ x3 then
          gI S v0 12 0 fun x5 =>
          if 16 ≤ x5 then
            nO Prod.snd S 1 4 fun c7 S8 =>
            b1 Prod.snd (kJ4_init_da8c8 c7 S8) fun S10 =>
            gN S10 v0 12 2 fun c12 =>
            rcv S10 c12 12 <| b2 Prod.snd (R c12 S10) fun c15 S13 =>
            rcv S13 c7 1 <| b2 Prod.snd (kJ4_append_15ec4_C c7 c15 S13) fun c18 S16 =>
            gI S16 v0 12 0 fun x19 =>
            stN 1 (x19 - 12) fun x20 =>
            rcv S16 c18 1 <| b2 Prod.snd (kJ4_append_15ec4_S c18 x20 S16) fun c23 S21 =>
            gN S21 v0 12 3 fun c24 =>
            rcv S21 c24 12 <| b2 Prod.snd (R c24 S21) fun c27 S25 =>
            rcv S25 c23 1 <| b2 Prod.snd (kJ4_append_15ec4_C c23 c27 S25) fun c30 S28 =>
            rcv S28 c30 1 <| b2 Prod.snd (kJ4_toString_0e30d c30 S28) fun c33 S31 =>
            some (c33, S31)
          else
            nO Prod.snd S 1 4 fun c34 S35 =>
            b1 Prod.snd (kJ4_init_da8c8 c34 S35) fun S37 =>
            rcv S37 c34 1 <| b2 Prod.snd (kJ4_append_15ec4_S c34 88 S37) fun c41 S39 =>
            gN S39 v0 12 2 fun c42 =>
            rcv S39 c42 12 <| b2 Prod.snd (R c42 S39) fun c45 S43 =>
            rcv S43 c41 1 <| b2 Prod.snd (kJ4_append_15ec4_C c41 c45 S43) fun c48 S46 =>
            gI S46 v0 12 0 fun x49 =>
            stN 1 (x49 - 12) fun x50 =>
            rcv S46 c48 1 <| b2 Prod.snd (kJ4_append_15ec4_S c48 x50 S46) fun c53 S51 =>
            gN S51 v0 12 3 fun c54 =>
            rcv S51 c54 12 <| b2 Prod.snd (R c54 S51) fun c57 S55 =>
            rcv S55 c53 1 <| b2 Prod.snd (kJ4_append_15ec4_C c53 c57 S55) fun c60 S58 =>
            rcv S58 c60 1 <| b2 Prod.snd (kJ4_append_15ec4_S c60 77 S58) fun c63 S61 =>
            rcv S61 c63 1 <| b2 Prod.snd (kJ4_toString_0e30d c63 S61) fun c66 S64 =>
            some (c66, S64)
        else
          nO Prod.snd S 1 4 fun c67 S68 =>
          b1 Prod.snd (kJ4_init_da8c8 c67 S68) fun S70 =>
          gI S70 v0 12 0 fun x72 =>
          stN 0 (x72 - 1) fun x73 =>
          rcv S70 c67 1 <| b2 Prod.snd (kJ4_append_15ec4_S c67 x73 S70) fun c76 S74 =>
          rcv S74 c76 1 <| b2 Prod.snd (kJ4_append_15ec4_S c76 87 S74) fun c79 S77 =>
          gI S77 v0 12 1 fun x80 =>
          rcv S77 c79 1 <| b2 Prod.snd (kJ4_append_bf812 c79 x80 S77) fun c83 S81 =>
          rcv S81 c83 1 <| b2 Prod.snd (kJ4_toString_0e30d c83 S81) fun c86 S84 =>
          some (c86, S84)
      else
        gI S v0 12 0 fun x87 =>
        stN 0 (x87 - 1) fun x88 =>
        some (2 * x88 + 2, S)
def kbX10_text (R : Nat → ZS → Option (Nat × ZS)) (c0 : Nat) (S0 : ZS) : Option (Nat × ZS) :=
  chk Prod.snd S0 <|
  gI S0 c0 12 0 fun x89 =>
  if x89 = 0 then
    nO Prod.snd S0 1 4 fun c91 S92 =>
    b1 Prod.snd (kJ4_init_da8c8 c91 S92) fun S94 =>
    rcv S94 c91 1 <| b2 Prod.snd (kJ4_append_15ec4_S c91 73 S94) fun c98 S96 =>
    gI S96 c0 12 1 fun x99 =>
    rcv S96 c98 1 <| b2 Prod.snd (kJ4_append_bf812 c98 x99 S96) fun c102 S100 =>
    rcv S100 c102 1 <| b2 Prod.snd (kJ4_toString_0e30d c102 S100) fun c105 S103 =>
    some (c105, S103)
  else
  if x89 = 9 then
    nO Prod.snd S0 1 4 fun c107 S108 =>
    b1 Prod.snd (kJ4_init_da8c8 c107 S108) fun S110 =>
    rcv S110 c107 1 <| b2 Prod.snd (kJ4_append_15ec4_S c107 74 S110) fun c114 S112 =>
    gN S112 c0 12 2 fun c115 =>
    rcv S112 c115 12 <| b2 Prod.snd (R c115 S112) fun c118 S116 =>
    rcv S116 c114 1 <| b2 Prod.snd (kJ4_append_15ec4_C c114 c118 S116) fun c121 S119 =>
    rcv S119 c121 1 <| b2 Prod.snd (kJ4_toString_0e30d c121 S119) fun c124 S122 =>
    some (c124, S122)
  else
  if x89 = 10 then
    nO Prod.snd S0 1 4 fun c126 S127 =>
    b1 Prod.snd (kJ4_init_da8c8 c126 S127) fun S129 =>
    rcv S129 c126 1 <| b2 Prod.snd (kJ4_append_15ec4_S c126 75 S129) fun c133 S131 =>
    gN S131 c0 12 2 fun c134 =>
    rcv S131 c134 12 <| b2 Prod.snd (R c134 S131) fun c137 S135 =>
    rcv S135 c133 1 <| b2 Prod.snd (kJ4_append_15ec4_C c133 c137 S135) fun c140 S138 =>
    rcv S138 c140 1 <| b2 Prod.snd (kJ4_append_15ec4_S c140 76 S138) fun c143 S141 =>
    gN S141 c0 12 3 fun c144 =>
    rcv S141 c144 12 <| b2 Prod.snd (R c144 S141) fun c147 S145 =>
    rcv S145 c143 1 <| b2 Prod.snd (kJ4_append_15ec4_C c143 c147 S145) fun c150 S148 =>
    rcv S148 c150 1 <| b2 Prod.snd (kJ4_append_15ec4_S c150 77 S148) fun c153 S151 =>
    rcv S151 c153 1 <| b2 Prod.snd (kJ4_toString_0e30d c153 S151) fun c156 S154 =>
    some (c156, S154)
  else
  if x89 = 11 then
    nO Prod.snd S0 1 4 fun c158 S159 =>
    b1 Prod.snd (kJ4_init_da8c8 c158 S159) fun S161 =>
    rcv S161 c158 1 <| b2 Prod.snd (kJ4_append_15ec4_S c158 78 S161) fun c165 S163 =>
    gN S163 c0 12 2 fun c166 =>
    rcv S163 c166 12 <| b2 Prod.snd (R c166 S163) fun c169 S167 =>
    rcv S167 c165 1 <| b2 Prod.snd (kJ4_append_15ec4_C c165 c169 S167) fun c172 S170 =>
    rcv S170 c172 1 <| b2 Prod.snd (kJ4_append_15ec4_S c172 79 S170) fun c175 S173 =>
    gN S173 c0 12 3 fun c176 =>
    rcv S173 c176 12 <| b2 Prod.snd (R c176 S173) fun c179 S177 =>
    rcv S177 c175 1 <| b2 Prod.snd (kJ4_append_15ec4_C c175 c179 S177) fun c182 S180 =>
    rcv S180 c182 1 <| b2 Prod.snd (kJ4_append_15ec4_S c182 77 S180) fun c185 S183 =>
    rcv S183 c185 1 <| b2 Prod.snd (kJ4_toString_0e30d c185 S183) fun c188 S186 =>
    some (c188, S186)
  else
  if x89 = 21 then
    some (2 * 80 + 2, S0)
  else
  if x89 = 22 then
    nO Prod.snd S0 1 4 fun c191 S192 =>
    b1 Prod.snd (kJ4_init_da8c8 c191 S192) fun S194 =>
    rcv S194 c191 1 <| b2 Prod.snd (kJ4_append_15ec4_S c191 81 S194) fun c198 S196 =>
    gI S196 c0 12 1 fun x199 =>
    rcv S196 c198 1 <| b2 Prod.snd (kJ4_append_bf812 c198 x199 S196) fun c202 S200 =>
    rcv S200 c202 1 <| b2 Prod.snd (kJ4_toString_0e30d c202 S200) fun c205 S203 =>
    some (c205, S203)
  else
  if x89 = 23 then
    nO Prod.snd S0 1 4 fun c207 S208 =>
    b1 Prod.snd (kJ4_init_da8c8 c207 S208) fun S210 =>
    rcv S210 c207 1 <| b2 Prod.snd (kJ4_append_15ec4_S c207 82 S210) fun c214 S212 =>
    gN S212 c0 12 2 fun c215 =>
    rcv S212 c215 12 <| b2 Prod.snd (R c215 S212) fun c218 S216 =>
    rcv S216 c214 1 <| b2 Prod.snd (kJ4_append_15ec4_C c214 c218 S216) fun c221 S219 =>
    rcv S219 c221 1 <| b2 Prod.snd (kJ4_toString_0e30d c221 S219) fun c224 S222 =>
    some (c224, S222)
  else
  if x89 = 24 then
    nO Prod.snd S0 1 4 fun c226 S227 =>
    b1 Prod.snd (kJ4_init_da8c8 c226 S227) fun S229 =>
    rcv S229 c226 1 <| b2 Prod.snd (kJ4_append_15ec4_S c226 83 S229) fun c233 S231 =>
    gN S231 c0 12 2 fun c234 =>
    rcv S231 c234 12 <| b2 Prod.snd (R c234 S231) fun c237 S235 =>
    rcv S235 c233 1 <| b2 Prod.snd (kJ4_append_15ec4_C c233 c237 S235) fun c240 S238 =>
    rcv S238 c240 1 <| b2 Prod.snd (kJ4_append_15ec4_S c240 84 S238) fun c243 S241 =>
    gN S241 c0 12 3 fun c244 =>
    rcv S241 c244 12 <| b2 Prod.snd (R c244 S241) fun c247 S245 =>
    rcv S245 c243 1 <| b2 Prod.snd (kJ4_append_15ec4_C c243 c247 S245) fun c250 S248 =>
    rcv S248 c250 1 <| b2 Prod.snd (kJ4_append_15ec4_S c250 85 S248) fun c253 S251 =>
    rcv S251 c253 1 <| b2 Prod.snd (kJ4_toString_0e30d c253 S251) fun c256 S254 =>
    some (c256, S254)
  else
  if x89 = 25 then
    nO Prod.snd S0 1 4 fun c258 S259 =>
    b1 Prod.snd (kJ4_init_da8c8 c258 S259) fun S261 =>
    rcv S261 c258 1 <| b2 Prod.snd (kJ4_append_15ec4_S c258 83 S261) fun c265 S263 =>
    gN S263 c0 12 2 fun c266 =>
    rcv S263 c266 12 <| b2 Prod.snd (R c266 S263) fun c269 S267 =>
    rcv S267 c265 1 <| b2 Prod.snd (kJ4_append_15ec4_C c265 c269 S267) fun c272 S270 =>
    rcv S270 c272 1 <| b2 Prod.snd (kJ4_append_15ec4_S c272 86 S270) fun c275 S273 =>
    gN S273 c0 12 3 fun c276 =>
    rcv S273 c276 12 <| b2 Prod.snd (R c276 S273) fun c279 S277 =>
    rcv S277 c275 1 <| b2 Prod.snd (kJ4_append_15ec4_C c275 c279 S277) fun c282 S280 =>
    rcv S280 c282 1 <| b2 Prod.snd (kJ4_append_15ec4_S c282 85 S280) fun c285 S283 =>
    rcv S283 c285 1 <| b2 Prod.snd (kJ4_toString_0e30d c285 S283) fun c288 S286 =>
    some (c288, S286)
  else
    kX10_text_409 R c0 S0
set_option maxRecDepth 100000 in
set_option maxHeartbeats 8000000 in
theorem mX10_text_b (E : EV) (l : Launch) (d : Nat) (R : Nat → ZS → Option (Nat × ZS)) (IH : ∀ (c0 : Nat) (S : ZS), (c0 ≠ 0 ∧ rk S.n c0) → ∀ u, R c0 S = some u → MRL E l yX10_text cX10_text 1 (Option.some (Jvm.ClassFile.FieldType.object "java/lang/String")) (7 + d) (fun ad => [.ref (rA E ad c0)]) S u) (c0 : Nat) (S0 : ZS) (q0 : c0 ≠ 0 ∧ rk S0.n c0) : ∀ u, kbX10_text R c0 S0 = some u → MRL E l yX10_text cX10_text 1 (Option.some (Jvm.ClassFile.FieldType.object "java/lang/String")) (7 + d + 1) (fun ad => [.ref (rA E ad c0)]) S0 u := by
  intro u h
  unfold kbX10_text at h
  obtain ⟨hcw, h⟩ := chk_inv h
  refine ML2.of (by decide +kernel) (fun ad => Nat.le_of_ble_eq_true rfl) hcw ?_
  intro p e s m args below meth c ad F hF C hA hr hnm ls hl hG
  have C : Cx p s m args meth c cX10_text 1 RX10 E := C
  have hx := C.1
  have hb := C.2.1
  have hU : F.uc = (u.2).c ∧ F.uw = (u.2).w := ⟨hF.2.2.2.2.1, hF.2.2.2.2.2⟩
  have hl : lv_has ls 1 [(0, .ref (rA E ad c0))] := hl
  obtain ⟨b0, h0, e0⟩ : ∃ b, RA E ad S0.n c0 b ∧ b = rA E ad c0 := ⟨_, RA.of q0.1 q0.2, rfl⟩
  rw [← e0] at hl
  suffices h99 : ∀ (H : Heap) (locs : List Loc) (cells slots : Nat), GL E s F H locs ad S0.n S0 cells slots → W p l e (F.R (7 + d + 1)) s m args below meth c H locs cells slots (MQ below (QRL E s.heap.size F.ad S0 u) args s (F.c - F.uc) (F.w - F.uw) F.A) (F0 m 0 ls []) from h99 _ _ _ _ hG
  clear hG
  intro H locs cells slots hG
  have j409 : ∀ (v0 : Nat) (S : ZS) (ad : Nat → Nat) (N : Nat) (bv0 : Nat) (H : Heap) (locs : List Loc) (ls : Array Slot) (cells slots : Nat), GL E s F H locs ad N S cells slots → RA E ad N v0 bv0 → lv_has ls 1 [(0, .ref bv0)] → kX10_text_409 R v0 S = some u → W p l e (F.R (7 + d + 1)) s m args below meth c H locs cells slots (MQ below (QRL E s.heap.size F.ad S0 u) args s (F.c - F.uc) (F.w - F.uw) F.A) (F0 m 409 ls []) := by
    intro v0 S ad N bv0 H locs ls cells slots hG hv0 hl h
    unfold kX10_text_409 at h
    refine lv_aload_n hx hb dX10_text_409 rfl (lv_at hl 0 rfl) ?_
    refine r2_gI C hG hv0 FQX10_7 rfl dX10_text_410 h (fun x1 h => ?_)
    refine lv_iconst (v := 4) hx hb dX10_text_413 (by decide) ?_
    refine lv_icmp_ge (tgt := 430) hx hb dX10_text_414 (by decide) (fun g2 => ?_) (fun g2 => ?_)
    · have h := (if_inv h).1 g2
      refine lv_aload_n hx hb dX10_text_430 rfl (lv_at hl 0 rfl) ?_
      refine r2_gI C hG hv0 FQX10_7 rfl dX10_text_431 h (fun x3 h => ?_)
      refine lv_bipush (v := 9) hx hb dX10_text_434 (by decide) ?_
      refine lv_icmp_ge (tgt := 477) hx hb dX10_text_436 (by decide) (fun g4 => ?_) (fun g4 => ?_)
      · have h := (if_inv h).1 g4
        refine lv_aload_n hx hb dX10_text_477 rfl (lv_at hl 0 rfl) ?_
        refine r2_gI C hG hv0 FQX10_7 rfl dX10_text_478 h (fun x5 h => ?_)
        refine lv_bipush (v := 16) hx hb dX10_text_481 (by decide) ?_
        refine lv_icmp_ge (tgt := 543) hx hb dX10_text_483 (by decide) (fun g6 => ?_) (fun g6 => ?_)
        · have h := (if_inv h).1 g6
          refine r2_new C hA hG KP1 (mTBi 1533 (by decide +kernel) rfl) (mTBi 1502 (by decide +kernel) rfl) (mTBi 51 (by decide +kernel) rfl) (by decide +kernel) dX10_text_543 hU h (fun bc7 c7 H ad9 S8 cells slots hG hx9 h_c7 h => ?_)
          have hv0 := hv0.up hx9
          refine lv_dup hx hb dX10_text_546 rfl ?_
          refine r2_cIV C hA hl.1 hG [] [.ref bc7] (mJ4_init_da8c8 E l c7 S8 (RAq hG h_c7)) (by rw [h_c7.1]) QLX10_42 rfl (rm2 (by omega) (by decide)) (Nat.le_of_ble_eq_true rfl) rfl dX10_text_547 hU h (fun S10 H locs ad11 cells slots hG hx9 h => ?_)
          have hv0 := hv0.up hx9
          have h_c7 := h_c7.up hx9
          refine lv_aload_n hx hb dX10_text_550 rfl (lv_at hl 0 rfl) ?_
          refine r2_gN C hG hv0 FQX10_16 rfl dX10_text_551 h (fun c12 bc12 h_c12 h => ?_)
          refine r2_cVR C hA hl.1 hG h_c12 [] [.ref bc7] (IH c12 S10 (RAq hG h_c12)) (by rw [h_c12.1]) QLX10_58 KP12 rfl (rm2 (by omega) (by decide)) (Nat.le_of_ble_eq_true rfl) rfl dX10_text_554 hU h (fun bc15 c15 S13 H locs ad14 cells slots hG hx9 h_c15 h => ?_)
          have hv0 := hv0.up hx9
          have h_c7 := h_c7.up hx9
          refine r2_cVR C hA hl.1 hG h_c7 [.ref bc15] [] (mJ4_append_15ec4_C E l c7 c15 S13 (RAq hG h_c7) (RAq hG h_c15)) (by rw [h_c7.1, h_c15.1]) QLX10_45 KP1 rfl (rm2 (by omega) (by decide)) (Nat.le_of_ble_eq_true rfl) rfl dX10_text_557 hU h (fun bc18 c18 S16 H locs ad17 cells slots hG hx9 h_c18 h => ?_)
          have hv0 := hv0.up hx9
          refine r2_gST C hA hG 1 (by decide) FTX10_95 dX10_text_560 ?_
          refine lv_aload_n hx hb dX10_text_563 rfl (lv_at hl 0 rfl) ?_
          refine r2_gI C hG hv0 FQX10_7 rfl dX10_text_564 h (fun x19 h => ?_)
          refine lv_bipush (v := 12) hx hb dX10_text_567 (by decide) ?_
          refine lv_isub hx hb dX10_text_569 ?_
          refine r2_aST C hA hG (by decide) dX10_text_570 h (fun x20 h => ?_)
          refine r2_cVR C hA hl.1 hG h_c18 [.ref (E.aK x20)] [] (mJ4_append_15ec4_S E l c18 x20 S16 (RAq hG h_c18)) (by rw [h_c18.1]) QLX10_45 KP1 rfl (rm2 (by omega) (by decide)) (Nat.le_of_ble_eq_true rfl) rfl dX10_text_571 hU h (fun bc23 c23 S21 H locs ad22 cells slots hG hx9 h_c23 h => ?_)
          have hv0 := hv0.up hx9
          refine lv_aload_n hx hb dX10_text_574 rfl (lv_at hl 0 rfl) ?_
          refine r2_gN C hG hv0 FQX10_20 rfl dX10_text_575 h (fun c24 bc24 h_c24 h => ?_)
          refine r2_cVR C hA hl.1 hG h_c24 [] [.ref bc23] (IH c24 S21 (RAq hG h_c24)) (by rw [h_c24.1]) QLX10_58 KP12 rfl (rm2 (by omega) (by decide)) (Nat.le_of_ble_eq_true rfl) rfl dX10_text_578 hU h (fun bc27 c27 S25 H locs ad26 cells slots hG hx9 h_c27 h => ?_)
          have hv0 := hv0.up hx9
          have h_c23 := h_c23.up hx9
          refine r2_cVR C hA hl.1 hG h_c23 [.ref bc27] [] (mJ4_append_15ec4_C E l c23 c27 S25 (RAq hG h_c23) (RAq hG h_c27)) (by rw [h_c23.1, h_c27.1]) QLX10_45 KP1 rfl (rm2 (by omega) (by decide)) (Nat.le_of_ble_eq_true rfl) rfl dX10_text_581 hU h (fun bc30 c30 S28 H locs ad29 cells slots hG hx9 h_c30 h => ?_)
          have hv0 := hv0.up hx9
          refine r2_cVR C hA hl.1 hG h_c30 [] [] (mJ4_toString_0e30d E l c30 S28 (RAq hG h_c30)) (by rw [h_c30.1]) QLX10_52 KP1 rfl (rm2 (by omega) (by decide)) (Nat.le_of_ble_eq_true rfl) rfl dX10_text_584 hU h (fun bc33 c33 S31 H locs ad32 cells slots hG hx9 h_c33 h => ?_)
          have hv0 := hv0.up hx9
          exact r2_aret C hF hG h_c33 (Or.inl ⟨_, rfl⟩) hr dX10_text_587 h
        · have h := (if_inv h).2 g6
          refine r2_new C hA hG KP1 (mTBi 1533 (by decide +kernel) rfl) (mTBi 1502 (by decide +kernel) rfl) (mTBi 51 (by decide +kernel) rfl) (by decide +kernel) dX10_text_486 hU h (fun bc34 c34 H ad36 S35 cells slots hG hx9 h_c34 h => ?_)
          have hv0 := hv0.up hx9
          refine lv_dup hx hb dX10_text_489 rfl ?_
          refine r2_cIV C hA hl.1 hG [] [.ref bc34] (mJ4_init_da8c8 E l c34 S35 (RAq hG h_c34)) (by rw [h_c34.1]) QLX10_42 rfl (rm2 (by omega) (by decide)) (Nat.le_of_ble_eq_true rfl) rfl dX10_text_490 hU h (fun S37 H locs ad38 cells slots hG hx9 h => ?_)
          have hv0 := hv0.up hx9
          have h_c34 := h_c34.up hx9
          refine r_ldcS C 88 (by decide) ⟨rfl, rfl⟩ dX10_text_493 ?_
          refine r2_cVR C hA hl.1 hG h_c34 [.ref (E.aK 88)] [] (mJ4_append_15ec4_S E l c34 88 S37 (RAq hG h_c34)) (by rw [h_c34.1]) QLX10_45 KP1 rfl (rm2 (by omega) (by decide)) (Nat.le_of_ble_eq_true rfl) rfl dX10_text_495 hU h (fun bc41 c41 S39 H locs ad40 cells slots hG hx9 h_c41 h => ?_)
          have hv0 := hv0.up hx9
          refine lv_aload_n hx hb dX10_text_498 rfl (lv_at hl 0 rfl) ?_
          refine r2_gN C hG hv0 FQX10_16 rfl dX10_text_499 h (fun c42 bc42 h_c42 h => ?_)
          refine r2_cVR C hA hl.1 hG h_c42 [] [.ref bc41] (IH c42 S39 (RAq hG h_c42)) (by rw [h_c42.1]) QLX10_58 KP12 rfl (rm2 (by omega) (by decide)) (Nat.le_of_ble_eq_true rfl) rfl dX10_text_502 hU h (fun bc45 c45 S43 H locs ad44 cells slots hG hx9 h_c45 h => ?_)
          have hv0 := hv0.up hx9
          have h_c41 := h_c41.up hx9
          refine r2_cVR C hA hl.1 hG h_c41 [.ref bc45] [] (mJ4_append_15ec4_C E l c41 c45 S43 (RAq hG h_c41) (RAq hG h_c45)) (by rw [h_c41.1, h_c45.1]) QLX10_45 KP1 rfl (rm2 (by omega) (by decide)) (Nat.le_of_ble_eq_true rfl) rfl dX10_text_505 hU h (fun bc48 c48 S46 H locs ad47 cells slots hG hx9 h_c48 h => ?_)
          have hv0 := hv0.up hx9
          refine r2_gST C hA hG 1 (by decide) FTX10_95 dX10_text_508 ?_
          refine lv_aload_n hx hb dX10_text_511 rfl (lv_at hl 0 rfl) ?_
          refine r2_gI C hG hv0 FQX10_7 rfl dX10_text_512 h (fun x49 h => ?_)
          refine lv_bipush (v := 12) hx hb dX10_text_515 (by decide) ?_
          refine lv_isub hx hb dX10_text_517 ?_
          refine r2_aST C hA hG (by decide) dX10_text_518 h (fun x50 h => ?_)
          refine r2_cVR C hA hl.1 hG h_c48 [.ref (E.aK x50)] [] (mJ4_append_15ec4_S E l c48 x50 S46 (RAq hG h_c48)) (by rw [h_c48.1]) QLX10_45 KP1 rfl (rm2 (by omega) (by decide)) (Nat.le_of_ble_eq_true rfl) rfl dX10_text_519 hU h (fun bc53 c53 S51 H locs ad52 cells slots hG hx9 h_c53 h => ?_)
          have hv0 := hv0.up hx9
          refine lv_aload_n hx hb dX10_text_522 rfl (lv_at hl 0 rfl) ?_
          refine r2_gN C hG hv0 FQX10_20 rfl dX10_text_523 h (fun c54 bc54 h_c54 h => ?_)
          refine r2_cVR C hA hl.1 hG h_c54 [] [.ref bc53] (IH c54 S51 (RAq hG h_c54)) (by rw [h_c54.1]) QLX10_58 KP12 rfl (rm2 (by omega) (by decide)) (Nat.le_of_ble_eq_true rfl) rfl dX10_text_526 hU h (fun bc57 c57 S55 H locs ad56 cells slots hG hx9 h_c57 h => ?_)
          have hv0 := hv0.up hx9
          have h_c53 := h_c53.up hx9
          refine r2_cVR C hA hl.1 hG h_c53 [.ref bc57] [] (mJ4_append_15ec4_C E l c53 c57 S55 (RAq hG h_c53) (RAq hG h_c57)) (by rw [h_c53.1, h_c57.1]) QLX10_45 KP1 rfl (rm2 (by omega) (by decide)) (Nat.le_of_ble_eq_true rfl) rfl dX10_text_529 hU h (fun bc60 c60 S58 H locs ad59 cells slots hG hx9 h_c60 h => ?_)
          have hv0 := hv0.up hx9
          refine r_ldcS C 77 (by decide) ⟨rfl, rfl⟩ dX10_text_532 ?_
          refine r2_cVR C hA hl.1 hG h_c60 [.ref (E.aK 77)] [] (mJ4_append_15ec4_S E l c60 77 S58 (RAq hG h_c60)) (by rw [h_c60.1]) QLX10_45 KP1 rfl (rm2 (by omega) (by decide)) (Nat.le_of_ble_eq_true rfl) rfl dX10_text_534 hU h (fun bc63 c63 S61 H locs ad62 cells slots hG hx9 h_c63 h => ?_)
          have hv0 := hv0.up hx9
          refine r2_cVR C hA hl.1 hG h_c63 [] [] (mJ4_toString_0e30d E l c63 S61 (RAq hG h_c63)) (by rw [h_c63.1]) QLX10_52 KP1 rfl (rm2 (by omega) (by decide)) (Nat.le_of_ble_eq_true rfl) rfl dX10_text_537 hU h (fun bc66 c66 S64 H locs ad65 cells slots hG hx9 h_c66 h => ?_)
          have hv0 := hv0.up hx9
          refine lv_goto (tgt := 587) hx hb dX10_text_540 (by decide) ?_
          exact r2_aret C hF hG h_c66 (Or.inl ⟨_, rfl⟩) hr dX10_text_587 h
      · have h := (if_inv h).2 g4
        refine r2_new C hA hG KP1 (mTBi 1533 (by decide +kernel) rfl) (mTBi 1502 (by decide +kernel) rfl) (mTBi 51 (by decide +kernel) rfl) (by decide +kernel) dX10_text_439 hU h (fun bc67 c67 H ad69 S68 cells slots hG hx9 h_c67 h => ?_)
        have hv0 := hv0.up hx9
        refine lv_dup hx hb dX10_text_442 rfl ?_
        refine r2_cIV C hA hl.1 hG [] [.ref bc67] (mJ4_init_da8c8 E l c67 S68 (RAq hG h_c67)) (by rw [h_c67.1]) QLX10_42 rfl (rm2 (by omega) (by decide)) (Nat.le_of_ble_eq_true rfl) rfl dX10_text_443 hU h (fun S70 H locs ad71 cells slots hG hx9 h => ?_)
        have hv0 := hv0.up hx9
        have h_c67 := h_c67.up hx9
        refine r2_gST C hA hG 0 (by decide) FTX10_85 dX10_text_446 ?_
        refine lv_aload_n hx hb dX10_text_449 rfl (lv_at hl 0 rfl) ?_
        refine r2_gI C hG hv0 FQX10_7 rfl dX10_text_450 h (fun x72 h => ?_)
        refine lv_iconst (v := 1) hx hb dX10_text_453 (by decide) ?_
        refine lv_isub hx hb dX10_text_454 ?_
        refine r2_aST C hA hG (by decide) dX10_text_455 h (fun x73 h => ?_)
        refine r2_cVR C hA hl.1 hG h_c67 [.ref (E.aK x73)] [] (mJ4_append_15ec4_S E l c67 x73 S70 (RAq hG h_c67)) (by rw [h_c67.1]) QLX10_45 KP1 rfl (rm2 (by omega) (by decide)) (Nat.le_of_ble_eq_true rfl) rfl dX10_text_456 hU h (fun bc76 c76 S74 H locs ad75 cells slots hG hx9 h_c76 h => ?_)
        have hv0 := hv0.up hx9
        refine r_ldcS C 87 (by decide) ⟨rfl, rfl⟩ dX10_text_459 ?_
        refine r2_cVR C hA hl.1 hG h_c76 [.ref (E.aK 87)] [] (mJ4_append_15ec4_S E l c76 87 S74 (RAq hG h_c76)) (by rw [h_c76.1]) QLX10_45 KP1 rfl (rm2 (by omega) (by decide)) (Nat.le_of_ble_eq_true rfl) rfl dX10_text_461 hU h (fun bc79 c79 S77 H locs ad78 cells slots hG hx9 h_c79 h => ?_)
        have hv0 := hv0.up hx9
        refine lv_aload_n hx hb dX10_text_464 rfl (lv_at hl 0 rfl) ?_
        refine r2_gI C hG hv0 FQX10_13 rfl dX10_text_465 h (fun x80 h => ?_)
        refine r2_cVR C hA hl.1 hG h_c79 [.int x80] [] (mJ4_append_bf812 E l c79 x80 S77 (RAq hG h_c79)) (by rw [h_c79.1]) QLX10_49 KP1 rfl (rm2 (by omega) (by decide)) (Nat.le_of_ble_eq_true rfl) rfl dX10_text_468 hU h (fun bc83 c83 S81 H locs ad82 cells slots hG hx9 h_c83 h => ?_)
        have hv0 := hv0.up hx9
        refine r2_cVR C hA hl.1 hG h_c83 [] [] (mJ4_toString_0e30d E l c83 S81 (RAq hG h_c83)) (by rw [h_c83.1]) QLX10_52 KP1 rfl (rm2 (by omega) (by decide)) (Nat.le_of_ble_eq_true rfl) rfl dX10_text_471 hU h (fun bc86 c86 S84 H locs ad85 cells slots hG hx9 h_c86 h => ?_)
        have hv0 := hv0.up hx9
        refine lv_goto (tgt := 587) hx hb dX10_text_474 (by decide) ?_
        exact r2_aret C hF hG h_c86 (Or.inl ⟨_, rfl⟩) hr dX10_text_587 h
    · have h := (if_inv h).2 g2
      refine r2_gST C hA hG 0 (by decide) FTX10_85 dX10_text_417 ?_
      refine lv_aload_n hx hb dX10_text_420 rfl (lv_at hl 0 rfl) ?_
      refine r2_gI C hG hv0 FQX10_7 rfl dX10_text_421 h (fun x87 h => ?_)
      refine lv_iconst (v := 1) hx hb dX10_text_424 (by decide) ?_
      refine lv_isub hx hb dX10_text_425 ?_
      refine r2_aST C hA hG (by decide) dX10_text_426 h (fun x88 h => ?_)
      refine lv_goto (tgt := 587) hx hb dX10_text_427 (by decide) ?_
      exact r2_aret C hF hG (d := 2 * x88 + 2) RA_S (Or.inl ⟨_, rfl⟩) hr dX10_text_587 h
  refine lv_aload_n hx hb dX10_text_0 rfl (lv_at hl 0 rfl) ?_
  refine r2_gI C hG h0 FQX10_7 rfl dX10_text_1 h (fun x89 h => ?_)
  by_cases g90 : x89 = 0
  · have h := (if_inv h).1 g90
    refine lv_tableIn (off := 120) (tgt := 124) hx hb dX10_text_4 (by rw [g90]; decide +kernel) (by rw [g90]; decide +kernel) (by rw [g90]; decide +kernel) (by decide) ?_
    refine r2_new C hA hG KP1 (mTBi 1533 (by decide +kernel) rfl) (mTBi 1502 (by decide +kernel) rfl) (mTBi 51 (by decide +kernel) rfl) (by decide +kernel) dX10_text_124 hU h (fun bc91 c91 H ad93 S92 cells slots hG hx9 h_c91 h => ?_)
    have h0 := h0.up hx9
    refine lv_dup hx hb dX10_text_127 rfl ?_
    refine r2_cIV C hA hl.1 hG [] [.ref bc91] (mJ4_init_da8c8 E l c91 S92 (RAq hG h_c91)) (by rw [h_c91.1]) QLX10_42 rfl (rm2 (by omega) (by decide)) (Nat.le_of_ble_eq_true rfl) rfl dX10_text_128 hU h (fun S94 H locs ad95 cells slots hG hx9 h => ?_)
    have h0 := h0.up hx9
    have h_c91 := h_c91.up hx9
    refine r_ldcS C 73 (by decide) ⟨rfl, rfl⟩ dX10_text_131 ?_
    refine r2_cVR C hA hl.1 hG h_c91 [.ref (E.aK 73)] [] (mJ4_append_15ec4_S E l c91 73 S94 (RAq hG h_c91)) (by rw [h_c91.1]) QLX10_45 KP1 rfl (rm2 (by omega) (by decide)) (Nat.le_of_ble_eq_true rfl) rfl dX10_text_133 hU h (fun bc98 c98 S96 H locs ad97 cells slots hG hx9 h_c98 h => ?_)
    have h0 := h0.up hx9
    refine lv_aload_n hx hb dX10_text_136 rfl (lv_at hl 0 rfl) ?_
    refine r2_gI C hG h0 FQX10_13 rfl dX10_text_137 h (fun x99 h => ?_)
    refine r2_cVR C hA hl.1 hG h_c98 [.int x99] [] (mJ4_append_bf812 E l c98 x99 S96 (RAq hG h_c98)) (by rw [h_c98.1]) QLX10_49 KP1 rfl (rm2 (by omega) (by decide)) (Nat.le_of_ble_eq_true rfl) rfl dX10_text_140 hU h (fun bc102 c102 S100 H locs ad101 cells slots hG hx9 h_c102 h => ?_)
    have h0 := h0.up hx9
    refine r2_cVR C hA hl.1 hG h_c102 [] [] (mJ4_toString_0e30d E l c102 S100 (RAq hG h_c102)) (by rw [h_c102.1]) QLX10_52 KP1 rfl (rm2 (by omega) (by decide)) (Nat.le_of_ble_eq_true rfl) rfl dX10_text_143 hU h (fun bc105 c105 S103 H locs ad104 cells slots hG hx9 h_c105 h => ?_)
    have h0 := h0.up hx9
    exact r2_aret C hF hG h_c105 (Or.inl ⟨_, rfl⟩) hr dX10_text_146 h
  have h := (if_inv h).2 g90
  by_cases g106 : x89 = 9
  · have h := (if_inv h).1 g106
    refine lv_tableIn (off := 143) (tgt := 147) hx hb dX10_text_4 (by rw [g106]; decide +kernel) (by rw [g106]; decide +kernel) (by rw [g106]; decide +kernel) (by decide) ?_
    refine r2_new C hA hG KP1 (mTBi 1533 (by decide +kernel) rfl) (mTBi 1502 (by decide +kernel) rfl) (mTBi 51 (by decide +kernel) rfl) (by decide +kernel) dX10_text_147 hU h (fun bc107 c107 H ad109 S108 cells slots hG hx9 h_c107 h => ?_)
    have h0 := h0.up hx9
    refine lv_dup hx hb dX10_text_150 rfl ?_
    refine r2_cIV C hA hl.1 hG [] [.ref bc107] (mJ4_init_da8c8 E l c107 S108 (RAq hG h_c107)) (by rw [h_c107.1]) QLX10_42 rfl (rm2 (by omega) (by decide)) (Nat.le_of_ble_eq_true rfl) rfl dX10_text_151 hU h (fun S110 H locs ad111 cells slots hG hx9 h => ?_)
    have h0 := h0.up hx9
    have h_c107 := h_c107.up hx9
    refine r_ldcS C 74 (by decide) ⟨rfl, rfl⟩ dX10_text_154 ?_
    refine r2_cVR C hA hl.1 hG h_c107 [.ref (E.aK 74)] [] (mJ4_append_15ec4_S E l c107 74 S110 (RAq hG h_c107)) (by rw [h_c107.1]) QLX10_45 KP1 rfl (rm2 (by omega) (by decide)) (Nat.le_of_ble_eq_true rfl) rfl dX10_text_156 hU h (fun bc114 c114 S112 H locs ad113 cells slots hG hx9 h_c114 h => ?_)
    have h0 := h0.up hx9
    refine lv_aload_n hx hb dX10_text_159 rfl (lv_at hl 0 rfl) ?_
    refine r2_gN C hG h0 FQX10_16 rfl dX10_text_160 h (fun c115 bc115 h_c115 h => ?_)
    refine r2_cVR C hA hl.1 hG h_c115 [] [.ref bc114] (IH c115 S112 (RAq hG h_c115)) (by rw [h_c115.1]) QLX10_58 KP12 rfl (rm2 (by omega) (by decide)) (Nat.le_of_ble_eq_true rfl) rfl dX10_text_163 hU h (fun bc118 c118 S116 H locs ad117 cells slots hG hx9 h_c118 h => ?_)
    have h0 := h0.up hx9
    have h_c114 := h_c114.up hx9
    refine r2_cVR C hA hl.1 hG h_c114 [.ref bc118] [] (mJ4_append_15ec4_C E l c114 c118 S116 (RAq hG h_c114) (RAq hG h_c118)) (by rw [h_c114.1, h_c118.1]) QLX10_45 KP1 rfl (rm2 (by omega) (by decide)) (Nat.le_of_ble_eq_true rfl) rfl dX10_text_166 hU h (fun bc121 c121 S119 H locs ad120 cells slots hG hx9 h_c121 h => ?_)
    have h0 := h0.up hx9
    refine r2_cVR C hA hl.1 hG h_c121 [] [] (mJ4_toString_0e30d E l c121 S119 (RAq hG h_c121)) (by rw [h_c121.1]) QLX10_52 KP1 rfl (rm2 (by omega) (by decide)) (Nat.le_of_ble_eq_true rfl) rfl dX10_text_169 hU h (fun bc124 c124 S122 H locs ad123 cells slots hG hx9 h_c124 h => ?_)
    have h0 := h0.up hx9
    exact r2_aret C hF hG h_c124 (Or.inl ⟨_, rfl⟩) hr dX10_text_172 h
  have h := (if_inv h).2 g106
  by_cases g125 : x89 = 10
  · have h := (if_inv h).1 g125
    refine lv_tableIn (off := 169) (tgt := 173) hx hb dX10_text_4 (by rw [g125]; decide +kernel) (by rw [g125]; decide +kernel) (by rw [g125]; decide +kernel) (by decide) ?_
    refine r2_new C hA hG KP1 (mTBi 1533 (by decide +kernel) rfl) (mTBi 1502 (by decide +kernel) rfl) (mTBi 51 (by decide +kernel) rfl) (by decide +kernel) dX10_text_173 hU h (fun bc126 c126 H ad128 S127 cells slots hG hx9 h_c126 h => ?_)
    have h0 := h0.up hx9
    refine lv_dup hx hb dX10_text_176 rfl ?_
    refine r2_cIV C hA hl.1 hG [] [.ref bc126] (mJ4_init_da8c8 E l c126 S127 (RAq hG h_c126)) (by rw [h_c126.1]) QLX10_42 rfl (rm2 (by omega) (by decide)) (Nat.le_of_ble_eq_true rfl) rfl dX10_text_177 hU h (fun S129 H locs ad130 cells slots hG hx9 h => ?_)
    have h0 := h0.up hx9
    have h_c126 := h_c126.up hx9
    refine r_ldcS C 75 (by decide) ⟨rfl, rfl⟩ dX10_text_180 ?_
    refine r2_cVR C hA hl.1 hG h_c126 [.ref (E.aK 75)] [] (mJ4_append_15ec4_S E l c126 75 S129 (RAq hG h_c126)) (by rw [h_c126.1]) QLX10_45 KP1 rfl (rm2 (by omega) (by decide)) (Nat.le_of_ble_eq_true rfl) rfl dX10_text_182 hU h (fun bc133 c133 S131 H locs ad132 cells slots hG hx9 h_c133 h => ?_)
    have h0 := h0.up hx9
    refine lv_aload_n hx hb dX10_text_185 rfl (lv_at hl 0 rfl) ?_
    refine r2_gN C hG h0 FQX10_16 rfl dX10_text_186 h (fun c134 bc134 h_c134 h => ?_)
    refine r2_cVR C hA hl.1 hG h_c134 [] [.ref bc133] (IH c134 S131 (RAq hG h_c134)) (by rw [h_c134.1]) QLX10_58 KP12 rfl (rm2 (by omega) (by decide)) (Nat.le_of_ble_eq_true rfl) rfl dX10_text_189 hU h (fun bc137 c137 S135 H locs ad136 cells slots hG hx9 h_c137 h => ?_)
    have h0 := h0.up hx9
    have h_c133 := h_c133.up hx9
    refine r2_cVR C hA hl.1 hG h_c133 [.ref bc137] [] (mJ4_append_15ec4_C E l c133 c137 S135 (RAq hG h_c133) (RAq hG h_c137)) (by rw [h_c133.1, h_c137.1]) QLX10_45 KP1 rfl (rm2 (by omega) (by decide)) (Nat.le_of_ble_eq_true rfl) rfl dX10_text_192 hU h (fun bc140 c140 S138 H locs ad139 cells slots hG hx9 h_c140 h => ?_)
    have h0 := h0.up hx9
    refine r_ldcS C 76 (by decide) ⟨rfl, rfl⟩ dX10_text_195 ?_
    refine r2_cVR C hA hl.1 hG h_c140 [.ref (E.aK 76)] [] (mJ4_append_15ec4_S E l c140 76 S138 (RAq hG h_c140)) (by rw [h_c140.1]) QLX10_45 KP1 rfl (rm2 (by omega) (by decide)) (Nat.le_of_ble_eq_true rfl) rfl dX10_text_197 hU h (fun bc143 c143 S141 H locs ad142 cells slots hG hx9 h_c143 h => ?_)
    have h0 := h0.up hx9
    refine lv_aload_n hx hb dX10_text_200 rfl (lv_at hl 0 rfl) ?_
    refine r2_gN C hG h0 FQX10_20 rfl dX10_text_201 h (fun c144 bc144 h_c144 h => ?_)
    refine r2_cVR C hA hl.1 hG h_c144 [] [.ref bc143] (IH c144 S141 (RAq hG h_c144)) (by rw [h_c144.1]) QLX10_58 KP12 rfl (rm2 (by omega) (by decide)) (Nat.le_of_ble_eq_true rfl) rfl dX10_text_204 hU h (fun bc147 c147 S145 H locs ad146 cells slots hG hx9 h_c147 h => ?_)
    have h0 := h0.up hx9
    have h_c143 := h_c143.up hx9
    refine r2_cVR C hA hl.1 hG h_c143 [.ref bc147] [] (mJ4_append_15ec4_C E l c143 c147 S145 (RAq hG h_c143) (RAq hG h_c147)) (by rw [h_c143.1, h_c147.1]) QLX10_45 KP1 rfl (rm2 (by omega) (by decide)) (Nat.le_of_ble_eq_true rfl) rfl dX10_text_207 hU h (fun bc150 c150 S148 H locs ad149 cells slots hG hx9 h_c150 h => ?_)
    have h0 := h0.up hx9
    refine r_ldcS C 77 (by decide) ⟨rfl, rfl⟩ dX10_text_210 ?_
    refine r2_cVR C hA hl.1 hG h_c150 [.ref (E.aK 77)] [] (mJ4_append_15ec4_S E l c150 77 S148 (RAq hG h_c150)) (by rw [h_c150.1]) QLX10_45 KP1 rfl (rm2 (by omega) (by decide)) (Nat.le_of_ble_eq_true rfl) rfl dX10_text_212 hU h (fun bc153 c153 S151 H locs ad152 cells slots hG hx9 h_c153 h => ?_)
    have h0 := h0.up hx9
    refine r2_cVR C hA hl.1 hG h_c153 [] [] (mJ4_toString_0e30d E l c153 S151 (RAq hG h_c153)) (by rw [h_c153.1]) QLX10_52 KP1 rfl (rm2 (by omega) (by decide)) (Nat.le_of_ble_eq_true rfl) rfl dX10_text_215 hU h (fun bc156 c156 S154 H locs ad155 cells slots hG hx9 h_c156 h => ?_)
    have h0 := h0.up hx9
    exact r2_aret C hF hG h_c156 (Or.inl ⟨_, rfl⟩) hr dX10_text_218 h
  have h := (if_inv h).2 g125
  by_cases g157 : x89 = 11
  · have h := (if_inv h).1 g157
    refine lv_tableIn (off := 215) (tgt := 219) hx hb dX10_text_4 (by rw [g157]; decide +kernel) (by rw [g157]; decide +kernel) (by rw [g157]; decide +kernel) (by decide) ?_
    refine r2_new C hA hG KP1 (mTBi 1533 (by decide +kernel) rfl) (mTBi 1502 (by decide +kernel) rfl) (mTBi 51 (by decide +kernel) rfl) (by decide +kernel) dX10_text_219 hU h (fun bc158 c158 H ad160 S159 cells slots hG hx9 h_c158 h => ?_)
    have h0 := h0.up hx9
    refine lv_dup hx hb dX10_text_222 rfl ?_
    refine r2_cIV C hA hl.1 hG [] [.ref bc158] (mJ4_init_da8c8 E l c158 S159 (RAq hG h_c158)) (by rw [h_c158.1]) QLX10_42 rfl (rm2 (by omega) (by decide)) (Nat.le_of_ble_eq_true rfl) rfl dX10_text_223 hU h (fun S161 H locs ad162 cells slots hG hx9 h => ?_)
    have h0 := h0.up hx9
    have h_c158 := h_c158.up hx9
    refine r_ldcS C 78 (by decide) ⟨rfl, rfl⟩ dX10_text_226 ?_
    refine r2_cVR C hA hl.1 hG h_c158 [.ref (E.aK 78)] [] (mJ4_append_15ec4_S E l c158 78 S161 (RAq hG h_c158)) (by rw [h_c158.1]) QLX10_45 KP1 rfl (rm2 (by omega) (by decide)) (Nat.le_of_ble_eq_true rfl) rfl dX10_text_228 hU h (fun bc165 c165 S163 H locs ad164 cells slots hG hx9 h_c165 h => ?_)
    have h0 := h0.up hx9
    refine lv_aload_n hx hb dX10_text_231 rfl (lv_at hl 0 rfl) ?_
    refine r2_gN C hG h0 FQX10_16 rfl dX10_text_232 h (fun c166 bc166 h_c166 h => ?_)
    refine r2_cVR C hA hl.1 hG h_c166 [] [.ref bc165] (IH c166 S163 (RAq hG h_c166)) (by rw [h_c166.1]) QLX10_58 KP12 rfl (rm2 (by omega) (by decide)) (Nat.le_of_ble_eq_true rfl) rfl dX10_text_235 hU h (fun bc169 c169 S167 H locs ad168 cells slots hG hx9 h_c169 h => ?_)
    have h0 := h0.up hx9
    have h_c165 := h_c165.up hx9
    refine r2_cVR C hA hl.1 hG h_c165 [.ref bc169] [] (mJ4_append_15ec4_C E l c165 c169 S167 (RAq hG h_c165) (RAq hG h_c169)) (by rw [h_c165.1, h_c169.1]) QLX10_45 KP1 rfl (rm2 (by omega) (by decide)) (Nat.le_of_ble_eq_true rfl) rfl dX10_text_238 hU h (fun bc172 c172 S170 H locs ad171 cells slots hG hx9 h_c172 h => ?_)
    have h0 := h0.up hx9
    refine r_ldcS C 79 (by decide) ⟨rfl, rfl⟩ dX10_text_241 ?_
    refine r2_cVR C hA hl.1 hG h_c172 [.ref (E.aK 79)] [] (mJ4_append_15ec4_S E l c172 79 S170 (RAq hG h_c172)) (by rw [h_c172.1]) QLX10_45 KP1 rfl (rm2 (by omega) (by decide)) (Nat.le_of_ble_eq_true rfl) rfl dX10_text_243 hU h (fun bc175 c175 S173 H locs ad174 cells slots hG hx9 h_c175 h => ?_)
    have h0 := h0.up hx9
    refine lv_aload_n hx hb dX10_text_246 rfl (lv_at hl 0 rfl) ?_
    refine r2_gN C hG h0 FQX10_20 rfl dX10_text_247 h (fun c176 bc176 h_c176 h => ?_)
    refine r2_cVR C hA hl.1 hG h_c176 [] [.ref bc175] (IH c176 S173 (RAq hG h_c176)) (by rw [h_c176.1]) QLX10_58 KP12 rfl (rm2 (by omega) (by decide)) (Nat.le_of_ble_eq_true rfl) rfl dX10_text_250 hU h (fun bc179 c179 S177 H locs ad178 cells slots hG hx9 h_c179 h => ?_)
    have h0 := h0.up hx9
    have h_c175 := h_c175.up hx9
    refine r2_cVR C hA hl.1 hG h_c175 [.ref bc179] [] (mJ4_append_15ec4_C E l c175 c179 S177 (RAq hG h_c175) (RAq hG h_c179)) (by rw [h_c175.1, h_c179.1]) QLX10_45 KP1 rfl (rm2 (by omega) (by decide)) (Nat.le_of_ble_eq_true rfl) rfl dX10_text_253 hU h (fun bc182 c182 S180 H locs ad181 cells slots hG hx9 h_c182 h => ?_)
    have h0 := h0.up hx9
    refine r_ldcS C 77 (by decide) ⟨rfl, rfl⟩ dX10_text_256 ?_
    refine r2_cVR C hA hl.1 hG h_c182 [.ref (E.aK 77)] [] (mJ4_append_15ec4_S E l c182 77 S180 (RAq hG h_c182)) (by rw [h_c182.1]) QLX10_45 KP1 rfl (rm2 (by omega) (by decide)) (Nat.le_of_ble_eq_true rfl) rfl dX10_text_258 hU h (fun bc185 c185 S183 H locs ad184 cells slots hG hx9 h_c185 h => ?_)
    have h0 := h0.up hx9
    refine r2_cVR C hA hl.1 hG h_c185 [] [] (mJ4_toString_0e30d E l c185 S183 (RAq hG h_c185)) (by rw [h_c185.1]) QLX10_52 KP1 rfl (rm2 (by omega) (by decide)) (Nat.le_of_ble_eq_true rfl) rfl dX10_text_261 hU h (fun bc188 c188 S186 H locs ad187 cells slots hG hx9 h_c188 h => ?_)
    have h0 := h0.up hx9
    exact r2_aret C hF hG h_c188 (Or.inl ⟨_, rfl⟩) hr dX10_text_264 h
  have h := (if_inv h).2 g157
  by_cases g189 : x89 = 21
  · have h := (if_inv h).1 g189
    refine lv_tableIn (off := 261) (tgt := 265) hx hb dX10_text_4 (by rw [g189]; decide +kernel) (by rw [g189]; decide +kernel) (by rw [g189]; decide +kernel) (by decide) ?_
    refine r_ldcS C 80 (by decide) ⟨rfl, rfl⟩ dX10_text_265 ?_
    exact r2_aret C hF hG (d := 2 * 80 + 2) RA_S (Or.inl ⟨_, rfl⟩) hr dX10_text_267 h
  have h := (if_inv h).2 g189
  by_cases g190 : x89 = 22
  · have h := (if_inv h).1 g190
    refine lv_tableIn (off := 264) (tgt := 268) hx hb dX10_text_4 (by rw [g190]; decide +kernel) (by rw [g190]; decide +kernel) (by rw [g190]; decide +kernel) (by decide) ?_
    refine r2_new C hA hG KP1 (mTBi 1533 (by decide +kernel) rfl) (mTBi 1502 (by decide +kernel) rfl) (mTBi 51 (by decide +kernel) rfl) (by decide +kernel) dX10_text_268 hU h (fun bc191 c191 H ad193 S192 cells slots hG hx9 h_c191 h => ?_)
    have h0 := h0.up hx9
    refine lv_dup hx hb dX10_text_271 rfl ?_
    refine r2_cIV C hA hl.1 hG [] [.ref bc191] (mJ4_init_da8c8 E l c191 S192 (RAq hG h_c191)) (by rw [h_c191.1]) QLX10_42 rfl (rm2 (by omega) (by decide)) (Nat.le_of_ble_eq_true rfl) rfl dX10_text_272 hU h (fun S194 H locs ad195 cells slots hG hx9 h => ?_)
    have h0 := h0.up hx9
    have h_c191 := h_c191.up hx9
    refine r_ldcS C 81 (by decide) ⟨rfl, rfl⟩ dX10_text_275 ?_
    refine r2_cVR C hA hl.1 hG h_c191 [.ref (E.aK 81)] [] (mJ4_append_15ec4_S E l c191 81 S194 (RAq hG h_c191)) (by rw [h_c191.1]) QLX10_45 KP1 rfl (rm2 (by omega) (by decide)) (Nat.le_of_ble_eq_true rfl) rfl dX10_text_277 hU h (fun bc198 c198 S196 H locs ad197 cells slots hG hx9 h_c198 h => ?_)
    have h0 := h0.up hx9
    refine lv_aload_n hx hb dX10_text_280 rfl (lv_at hl 0 rfl) ?_
    refine r2_gI C hG h0 FQX10_13 rfl dX10_text_281 h (fun x199 h => ?_)
    refine r2_cVR C hA hl.1 hG h_c198 [.int x199] [] (mJ4_append_bf812 E l c198 x199 S196 (RAq hG h_c198)) (by rw [h_c198.1]) QLX10_49 KP1 rfl (rm2 (by omega) (by decide)) (Nat.le_of_ble_eq_true rfl) rfl dX10_text_284 hU h (fun bc202 c202 S200 H locs ad201 cells slots hG hx9 h_c202 h => ?_)
    have h0 := h0.up hx9
    refine r2_cVR C hA hl.1 hG h_c202 [] [] (mJ4_toString_0e30d E l c202 S200 (RAq hG h_c202)) (by rw [h_c202.1]) QLX10_52 KP1 rfl (rm2 (by omega) (by decide)) (Nat.le_of_ble_eq_true rfl) rfl dX10_text_287 hU h (fun bc205 c205 S203 H locs ad204 cells slots hG hx9 h_c205 h => ?_)
    have h0 := h0.up hx9
    exact r2_aret C hF hG h_c205 (Or.inl ⟨_, rfl⟩) hr dX10_text_290 h
  have h := (if_inv h).2 g190
  by_cases g206 : x89 = 23
  · have h := (if_inv h).1 g206
    refine lv_tableIn (off := 287) (tgt := 291) hx hb dX10_text_4 (by rw [g206]; decide +kernel) (by rw [g206]; decide +kernel) (by rw [g206]; decide +kernel) (by decide) ?_
    refine r2_new C hA hG KP1 (mTBi 1533 (by decide +kernel) rfl) (mTBi 1502 (by decide +kernel) rfl) (mTBi 51 (by decide +kernel) rfl) (by decide +kernel) dX10_text_291 hU h (fun bc207 c207 H ad209 S208 cells slots hG hx9 h_c207 h => ?_)
    have h0 := h0.up hx9
    refine lv_dup hx hb dX10_text_294 rfl ?_
    refine r2_cIV C hA hl.1 hG [] [.ref bc207] (mJ4_init_da8c8 E l c207 S208 (RAq hG h_c207)) (by rw [h_c207.1]) QLX10_42 rfl (rm2 (by omega) (by decide)) (Nat.le_of_ble_eq_true rfl) rfl dX10_text_295 hU h (fun S210 H locs ad211 cells slots hG hx9 h => ?_)
    have h0 := h0.up hx9
    have h_c207 := h_c207.up hx9
    refine r_ldcS C 82 (by decide) ⟨rfl, rfl⟩ dX10_text_298 ?_
    refine r2_cVR C hA hl.1 hG h_c207 [.ref (E.aK 82)] [] (mJ4_append_15ec4_S E l c207 82 S210 (RAq hG h_c207)) (by rw [h_c207.1]) QLX10_45 KP1 rfl (rm2 (by omega) (by decide)) (Nat.le_of_ble_eq_true rfl) rfl dX10_text_300 hU h (fun bc214 c214 S212 H locs ad213 cells slots hG hx9 h_c214 h => ?_)
    have h0 := h0.up hx9
    refine lv_aload_n hx hb dX10_text_303 rfl (lv_at hl 0 rfl) ?_
    refine r2_gN C hG h0 FQX10_16 rfl dX10_text_304 h (fun c215 bc215 h_c215 h => ?_)
    refine r2_cVR C hA hl.1 hG h_c215 [] [.ref bc214] (IH c215 S212 (RAq hG h_c215)) (by rw [h_c215.1]) QLX10_58 KP12 rfl (rm2 (by omega) (by decide)) (Nat.le_of_ble_eq_true rfl) rfl dX10_text_307 hU h (fun bc218 c218 S216 H locs ad217 cells slots hG hx9 h_c218 h => ?_)
    have h0 := h0.up hx9
    have h_c214 := h_c214.up hx9
    refine r2_cVR C hA hl.1 hG h_c214 [.ref bc218] [] (mJ4_append_15ec4_C E l c214 c218 S216 (RAq hG h_c214) (RAq hG h_c218)) (by rw [h_c214.1, h_c218.1]) QLX10_45 KP1 rfl (rm2 (by omega) (by decide)) (Nat.le_of_ble_eq_true rfl) rfl dX10_text_310 hU h (fun bc221 c221 S219 H locs ad220 cells slots hG hx9 h_c221 h => ?_)
    have h0 := h0.up hx9
    refine r2_cVR C hA hl.1 hG h_c221 [] [] (mJ4_toString_0e30d E l c221 S219 (RAq hG h_c221)) (by rw [h_c221.1]) QLX10_52 KP1 rfl (rm2 (by omega) (by decide)) (Nat.le_of_ble_eq_true rfl) rfl dX10_text_313 hU h (fun bc224 c224 S222 H locs ad223 cells slots hG hx9 h_c224 h => ?_)
    have h0 := h0.up hx9
    exact r2_aret C hF hG h_c224 (Or.inl ⟨_, rfl⟩) hr dX10_text_316 h
  have h := (if_inv h).2 g206
  by_cases g225 : x89 = 24
  · have h := (if_inv h).1 g225
    refine lv_tableIn (off := 313) (tgt := 317) hx hb dX10_text_4 (by rw [g225]; decide +kernel) (by rw [g225]; decide +kernel) (by rw [g225]; decide +kernel) (by decide) ?_
    refine r2_new C hA hG KP1 (mTBi 1533 (by decide +kernel) rfl) (mTBi 1502 (by decide +kernel) rfl) (mTBi 51 (by decide +kernel) rfl) (by decide +kernel) dX10_text_317 hU h (fun bc226 c226 H ad228 S227 cells slots hG hx9 h_c226 h => ?_)
    have h0 := h0.up hx9
    refine lv_dup hx hb dX10_text_320 rfl ?_
    refine r2_cIV C hA hl.1 hG [] [.ref bc226] (mJ4_init_da8c8 E l c226 S227 (RAq hG h_c226)) (by rw [h_c226.1]) QLX10_42 rfl (rm2 (by omega) (by decide)) (Nat.le_of_ble_eq_true rfl) rfl dX10_text_321 hU h (fun S229 H locs ad230 cells slots hG hx9 h => ?_)
    have h0 := h0.up hx9
    have h_c226 := h_c226.up hx9
    refine r_ldcS C 83 (by decide) ⟨rfl, rfl⟩ dX10_text_324 ?_
    refine r2_cVR C hA hl.1 hG h_c226 [.ref (E.aK 83)] [] (mJ4_append_15ec4_S E l c226 83 S229 (RAq hG h_c226)) (by rw [h_c226.1]) QLX10_45 KP1 rfl (rm2 (by omega) (by decide)) (Nat.le_of_ble_eq_true rfl) rfl dX10_text_326 hU h (fun bc233 c233 S231 H locs ad232 cells slots hG hx9 h_c233 h => ?_)
    have h0 := h0.up hx9
    refine lv_aload_n hx hb dX10_text_329 rfl (lv_at hl 0 rfl) ?_
    refine r2_gN C hG h0 FQX10_16 rfl dX10_text_330 h (fun c234 bc234 h_c234 h => ?_)
    refine r2_cVR C hA hl.1 hG h_c234 [] [.ref bc233] (IH c234 S231 (RAq hG h_c234)) (by rw [h_c234.1]) QLX10_58 KP12 rfl (rm2 (by omega) (by decide)) (Nat.le_of_ble_eq_true rfl) rfl dX10_text_333 hU h (fun bc237 c237 S235 H locs ad236 cells slots hG hx9 h_c237 h => ?_)
    have h0 := h0.up hx9
    have h_c233 := h_c233.up hx9
    refine r2_cVR C hA hl.1 hG h_c233 [.ref bc237] [] (mJ4_append_15ec4_C E l c233 c237 S235 (RAq hG h_c233) (RAq hG h_c237)) (by rw [h_c233.1, h_c237.1]) QLX10_45 KP1 rfl (rm2 (by omega) (by decide)) (Nat.le_of_ble_eq_true rfl) rfl dX10_text_336 hU h (fun bc240 c240 S238 H locs ad239 cells slots hG hx9 h_c240 h => ?_)
    have h0 := h0.up hx9
    refine r_ldcS C 84 (by decide) ⟨rfl, rfl⟩ dX10_text_339 ?_
    refine r2_cVR C hA hl.1 hG h_c240 [.ref (E.aK 84)] [] (mJ4_append_15ec4_S E l c240 84 S238 (RAq hG h_c240)) (by rw [h_c240.1]) QLX10_45 KP1 rfl (rm2 (by omega) (by decide)) (Nat.le_of_ble_eq_true rfl) rfl dX10_text_341 hU h (fun bc243 c243 S241 H locs ad242 cells slots hG hx9 h_c243 h => ?_)
    have h0 := h0.up hx9
    refine lv_aload_n hx hb dX10_text_344 rfl (lv_at hl 0 rfl) ?_
    refine r2_gN C hG h0 FQX10_20 rfl dX10_text_345 h (fun c244 bc244 h_c244 h => ?_)
    refine r2_cVR C hA hl.1 hG h_c244 [] [.ref bc243] (IH c244 S241 (RAq hG h_c244)) (by rw [h_c244.1]) QLX10_58 KP12 rfl (rm2 (by omega) (by decide)) (Nat.le_of_ble_eq_true rfl) rfl dX10_text_348 hU h (fun bc247 c247 S245 H locs ad246 cells slots hG hx9 h_c247 h => ?_)
    have h0 := h0.up hx9
    have h_c243 := h_c243.up hx9
    refine r2_cVR C hA hl.1 hG h_c243 [.ref bc247] [] (mJ4_append_15ec4_C E l c243 c247 S245 (RAq hG h_c243) (RAq hG h_c247)) (by rw [h_c243.1, h_c247.1]) QLX10_45 KP1 rfl (rm2 (by omega) (by decide)) (Nat.le_of_ble_eq_true rfl) rfl dX10_text_351 hU h (fun bc250 c250 S248 H locs ad249 cells slots hG hx9 h_c250 h => ?_)
    have h0 := h0.up hx9
    refine r_ldcS C 85 (by decide) ⟨rfl, rfl⟩ dX10_text_354 ?_
    refine r2_cVR C hA hl.1 hG h_c250 [.ref (E.aK 85)] [] (mJ4_append_15ec4_S E l c250 85 S248 (RAq hG h_c250)) (by rw [h_c250.1]) QLX10_45 KP1 rfl (rm2 (by omega) (by decide)) (Nat.le_of_ble_eq_true rfl) rfl dX10_text_356 hU h (fun bc253 c253 S251 H locs ad252 cells slots hG hx9 h_c253 h => ?_)
    have h0 := h0.up hx9
    refine r2_cVR C hA hl.1 hG h_c253 [] [] (mJ4_toString_0e30d E l c253 S251 (RAq hG h_c253)) (by rw [h_c253.1]) QLX10_52 KP1 rfl (rm2 (by omega) (by decide)) (Nat.le_of_ble_eq_true rfl) rfl dX10_text_359 hU h (fun bc256 c256 S254 H locs ad255 cells slots hG hx9 h_c256 h => ?_)
    have h0 := h0.up hx9
    exact r2_aret C hF hG h_c256 (Or.inl ⟨_, rfl⟩) hr dX10_text_362 h
  have h := (if_inv h).2 g225
  by_cases g257 : x89 = 25
  · have h := (if_inv h).1 g257
    refine lv_tableIn (off := 359) (tgt := 363) hx hb dX10_text_4 (by rw [g257]; decide +kernel) (by rw [g257]; decide +kernel) (by rw [g257]; decide +kernel) (by decide) ?_
    refine r2_new C hA hG KP1 (mTBi 1533 (by decide +kernel) rfl) (mTBi 1502 (by decide +kernel) rfl) (mTBi 51 (by decide +kernel) rfl) (by decide +kernel) dX10_text_363 hU h (fun bc258 c258 H ad260 S259 cells slots hG hx9 h_c258 h => ?_)
    have h0 := h0.up hx9
    refine lv_dup hx hb dX10_text_366 rfl ?_
    refine r2_cIV C hA hl.1 hG [] [.ref bc258] (mJ4_init_da8c8 E l c258 S259 (RAq hG h_c258)) (by rw [h_c258.1]) QLX10_42 rfl (rm2 (by omega) (by decide)) (Nat.le_of_ble_eq_true rfl) rfl dX10_text_367 hU h (fun S261 H locs ad262 cells slots hG hx9 h => ?_)
    have h0 := h0.up hx9
    have h_c258 := h_c258.up hx9
    refine r_ldcS C 83 (by decide) ⟨rfl, rfl⟩ dX10_text_370 ?_
    refine r2_cVR C hA hl.1 hG h_c258 [.ref (E.aK 83)] [] (mJ4_append_15ec4_S E l c258 83 S261 (RAq hG h_c258)) (by rw [h_c258.1]) QLX10_45 KP1 rfl (rm2 (by omega) (by decide)) (Nat.le_of_ble_eq_true rfl) rfl dX10_text_372 hU h (fun bc265 c265 S263 H locs ad264 cells slots hG hx9 h_c265 h => ?_)
    have h0 := h0.up hx9
    refine lv_aload_n hx hb dX10_text_375 rfl (lv_at hl 0 rfl) ?_
    refine r2_gN C hG h0 FQX10_16 rfl dX10_text_376 h (fun c266 bc266 h_c266 h => ?_)
    refine r2_cVR C hA hl.1 hG h_c266 [] [.ref bc265] (IH c266 S263 (RAq hG h_c266)) (by rw [h_c266.1]) QLX10_58 KP12 rfl (rm2 (by omega) (by decide)) (Nat.le_of_ble_eq_true rfl) rfl dX10_text_379 hU h (fun bc269 c269 S267 H locs ad268 cells slots hG hx9 h_c269 h => ?_)
    have h0 := h0.up hx9
    have h_c265 := h_c265.up hx9
    refine r2_cVR C hA hl.1 hG h_c265 [.ref bc269] [] (mJ4_append_15ec4_C E l c265 c269 S267 (RAq hG h_c265) (RAq hG h_c269)) (by rw [h_c265.1, h_c269.1]) QLX10_45 KP1 rfl (rm2 (by omega) (by decide)) (Nat.le_of_ble_eq_true rfl) rfl dX10_text_382 hU h (fun bc272 c272 S270 H locs ad271 cells slots hG hx9 h_c272 h => ?_)
    have h0 := h0.up hx9
    refine r_ldcS C 86 (by decide) ⟨rfl, rfl⟩ dX10_text_385 ?_
    refine r2_cVR C hA hl.1 hG h_c272 [.ref (E.aK 86)] [] (mJ4_append_15ec4_S E l c272 86 S270 (RAq hG h_c272)) (by rw [h_c272.1]) QLX10_45 KP1 rfl (rm2 (by omega) (by decide)) (Nat.le_of_ble_eq_true rfl) rfl dX10_text_387 hU h (fun bc275 c275 S273 H locs ad274 cells slots hG hx9 h_c275 h => ?_)
    have h0 := h0.up hx9
    refine lv_aload_n hx hb dX10_text_390 rfl (lv_at hl 0 rfl) ?_
    refine r2_gN C hG h0 FQX10_20 rfl dX10_text_391 h (fun c276 bc276 h_c276 h => ?_)
    refine r2_cVR C hA hl.1 hG h_c276 [] [.ref bc275] (IH c276 S273 (RAq hG h_c276)) (by rw [h_c276.1]) QLX10_58 KP12 rfl (rm2 (by omega) (by decide)) (Nat.le_of_ble_eq_true rfl) rfl dX10_text_394 hU h (fun bc279 c279 S277 H locs ad278 cells slots hG hx9 h_c279 h => ?_)
    have h0 := h0.up hx9
    have h_c275 := h_c275.up hx9
    refine r2_cVR C hA hl.1 hG h_c275 [.ref bc279] [] (mJ4_append_15ec4_C E l c275 c279 S277 (RAq hG h_c275) (RAq hG h_c279)) (by rw [h_c275.1, h_c279.1]) QLX10_45 KP1 rfl (rm2 (by omega) (by decide)) (Nat.le_of_ble_eq_true rfl) rfl dX10_text_397 hU h (fun bc282 c282 S280 H locs ad281 cells slots hG hx9 h_c282 h => ?_)
    have h0 := h0.up hx9
    refine r_ldcS C 85 (by decide) ⟨rfl, rfl⟩ dX10_text_400 ?_
    refine r2_cVR C hA hl.1 hG h_c282 [.ref (E.aK 85)] [] (mJ4_append_15ec4_S E l c282 85 S280 (RAq hG h_c282)) (by rw [h_c282.1]) QLX10_45 KP1 rfl (rm2 (by omega) (by decide)) (Nat.le_of_ble_eq_true rfl) rfl dX10_text_402 hU h (fun bc285 c285 S283 H locs ad284 cells slots hG hx9 h_c285 h => ?_)
    have h0 := h0.up hx9
    refine r2_cVR C hA hl.1 hG h_c285 [] [] (mJ4_toString_0e30d E l c285 S283 (RAq hG h_c285)) (by rw [h_c285.1]) QLX10_52 KP1 rfl (rm2 (by omega) (by decide)) (Nat.le_of_ble_eq_true rfl) rfl dX10_text_405 hU h (fun bc288 c288 S286 H locs ad287 cells slots hG hx9 h_c288 h => ?_)
    have h0 := h0.up hx9
    exact r2_aret C hF hG h_c288 (Or.inl ⟨_, rfl⟩) hr dX10_text_408 h
  have h := (if_inv h).2 g257
  have hd9 : W p l e (F.R (7 + d + 1)) s m args below meth c H locs cells slots (MQ below (QRL E s.heap.size F.ad S0 u) args s (F.c - F.uc) (F.w - F.uw) F.A) (F0 m 409 ls []) := by
    exact j409 c0 S0 _ _ _ _ _ _ _ _ hG h0 (lv_sub hl [0] rfl) h
  by_cases g289 : x89 = 1
  · exact lv_tableIn (off := 405) (tgt := 409) hx hb dX10_text_4 (by rw [g289]; decide +kernel) (by rw [g289]; decide +kernel) (by rw [g289]; decide +kernel) (by decide) hd9
  by_cases g290 : x89 = 2
  · exact lv_tableIn (off := 405) (tgt := 409) hx hb dX10_text_4 (by rw [g290]; decide +kernel) (by rw [g290]; decide +kernel) (by rw [g290]; decide +kernel) (by decide) hd9
  by_cases g291 : x89 = 3
  · exact lv_tableIn (off := 405) (tgt := 409) hx hb dX10_text_4 (by rw [g291]; decide +kernel) (by rw [g291]; decide +kernel) (by rw [g291]; decide +kernel) (by decide) hd9
  by_cases g292 : x89 = 4
  · exact lv_tableIn (off := 405) (tgt := 409) hx hb dX10_text_4 (by rw [g292]; decide +kernel) (by rw [g292]; decide +kernel) (by rw [g292]; decide +kernel) (by decide) hd9
  by_cases g293 : x89 = 5
  · exact lv_tableIn (off := 405) (tgt := 409) hx hb dX10_text_4 (by rw [g293]; decide +kernel) (by rw [g293]; decide +kernel) (by rw [g293]; decide +kernel) (by decide) hd9
  by_cases g294 : x89 = 6
  · exact lv_tableIn (off := 405) (tgt := 409) hx hb dX10_text_4 (by rw [g294]; decide +kernel) (by rw [g294]; decide +kernel) (by rw [g294]; decide +kernel) (by decide) hd9
  by_cases g295 : x89 = 7
  · exact lv_tableIn (off := 405) (tgt := 409) hx hb dX10_text_4 (by rw [g295]; decide +kernel) (by rw [g295]; decide +kernel) (by rw [g295]; decide +kernel) (by decide) hd9
  by_cases g296 : x89 = 8
  · exact lv_tableIn (off := 405) (tgt := 409) hx hb dX10_text_4 (by rw [g296]; decide +kernel) (by rw [g296]; decide +kernel) (by rw [g296]; decide +kernel) (by decide) hd9
  by_cases g297 : x89 = 12
  · exact lv_tableIn (off := 405) (tgt := 409) hx hb dX10_text_4 (by rw [g297]; decide +kernel) (by rw [g297]; decide +kernel) (by rw [g297]; decide +kernel) (by decide) hd9
  by_cases g298 : x89 = 13
  · exact lv_tableIn (off := 405) (tgt := 409) hx hb dX10_text_4 (by rw [g298]; decide +kernel) (by rw [g298]; decide +kernel) (by rw [g298]; decide +kernel) (by decide) hd9
  by_cases g299 : x89 = 14
  · exact lv_tableIn (off := 405) (tgt := 409) hx hb dX10_text_4 (by rw [g299]; decide +kernel) (by rw [g299]; decide +kernel) (by rw [g299]; decide +kernel) (by decide) hd9
  by_cases g300 : x89 = 15
  · exact lv_tableIn (off := 405) (tgt := 409) hx hb dX10_text_4 (by rw [g300]; decide +kernel) (by rw [g300]; decide +kernel) (by rw [g300]; decide +kernel) (by decide) hd9
  by_cases g301 : x89 = 16
  · exact lv_tableIn (off := 405) (tgt := 409) hx hb dX10_text_4 (by rw [g301]; decide +kernel) (by rw [g301]; decide +kernel) (by rw [g301]; decide +kernel) (by decide) hd9
  by_cases g302 : x89 = 17
  · exact lv_tableIn (off := 405) (tgt := 409) hx hb dX10_text_4 (by rw [g302]; decide +kernel) (by rw [g302]; decide +kernel) (by rw [g302]; decide +kernel) (by decide) hd9
  by_cases g303 : x89 = 18
  · exact lv_tableIn (off := 405) (tgt := 409) hx hb dX10_text_4 (by rw [g303]; decide +kernel) (by rw [g303]; decide +kernel) (by rw [g303]; decide +kernel) (by decide) hd9
  by_cases g304 : x89 = 19
  · exact lv_tableIn (off := 405) (tgt := 409) hx hb dX10_text_4 (by rw [g304]; decide +kernel) (by rw [g304]; decide +kernel) (by rw [g304]; decide +kernel) (by decide) hd9
  by_cases g305 : x89 = 20
  · exact lv_tableIn (off := 405) (tgt := 409) hx hb dX10_text_4 (by rw [g305]; decide +kernel) (by rw [g305]; decide +kernel) (by rw [g305]; decide +kernel) (by decide) hd9
  exact lv_tableOut (tgt := 409) hx hb dX10_text_4 (tab_out 26 (by decide) (lt_s (lt_s (lt_s (lt_s (lt_s (lt_s (lt_s (lt_s (lt_s (lt_s (lt_s (lt_s (lt_s (lt_s (lt_s (lt_s (lt_s (lt_s (lt_s (lt_s (lt_s (lt_s (lt_s (lt_s (lt_s (lt_s lt_0 (nei g90 (by decide))) (nei g289 (by decide))) (nei g290 (by decide))) (nei g291 (by decide))) (nei g292 (by decide))) (nei g293 (by decide))) (nei g294 (by decide))) (nei g295 (by decide))) (nei g296 (by decide))) (nei g106 (by decide))) (nei g125 (by decide))) (nei g157 (by decide))) (nei g297 (by decide))) (nei g298 (by decide))) (nei g299 (by decide))) (nei g300 (by decide))) (nei g301 (by decide))) (nei g302 (by decide))) (nei g303 (by decide))) (nei g304 (by decide))) (nei g305 (by decide))) (nei g189 (by decide))) (nei g190 (by decide))) (nei g206 (by decide))) (nei g225 (by decide))) (nei g257 (by decide)))) (by decide) hd9
def kRX10_text : Nat → Nat → ZS → Option (Nat × ZS)
  | 0, _, _ => none
  | d + 1, c0, S => kbX10_text (kRX10_text d) c0 S
theorem mRX10_text (E : EV) (l : Launch) : ∀ d, ∀ (c0 : Nat) (S : ZS), (c0 ≠ 0 ∧ rk S.n c0) → ∀ u, kRX10_text d c0 S = some u → MRL E l yX10_text cX10_text 1 (Option.some (Jvm.ClassFile.FieldType.object "java/lang/String")) (7 + d) (fun ad => [.ref (rA E ad c0)]) S u := by
  intro d
  induction d with
  | zero =>
    intro c0 S q0 u h
    cases h
  | succ d ih =>
    intro c0 S q0 u h
    exact mX10_text_b E l d (kRX10_text d) ih c0 S q0 u h
def kX10_text (c0 : Nat) (S : ZS) : Option (Nat × ZS) := kRX10_text 12 c0 S
theorem mX10_text (E : EV) (l : Launch) (c0 : Nat) (S : ZS) (q0 : c0 ≠ 0 ∧ rk S.n c0) : ∀ u, kX10_text c0 S = some u → MRL E l yX10_text cX10_text 1 (Option.some (Jvm.ClassFile.FieldType.object "java/lang/String")) 19 (fun ad => [.ref (rA E ad c0)]) S u := fun u h => mRX10_text E l 12 c0 S q0 u h
def kX10_both_142  (v0 : Int32) (v1 : Int32) (v2 : Int32) (S : ZS) : Option (Int32 × ZS) :=
      if v0 = 16 then
        if v2 ≤ v1 then
          some (0, S)
        else
          some (1, S)
      else
        if v0 = 17 then
          if v1 ≤ v2 then
            some (0, S)
          else
            some (1, S)
        else
          if v0 = 18 then
            if v1 = v2 then
              some (1, S)
            else
              some (0, S)
          else
            if v0 = 19 then
              if v2 < v1 then
                some (0, S)
              else
                some (1, S)
            else
              if v1 < v2 then
                some (0, S)
              else
                some (1, S)
def kX10_both (a0 : Int32) (a1 : Int32) (a2 : Int32) (S0 : ZS) : Option (Int32 × ZS) :=
  chk Prod.snd S0 <|
  if a0 = 10 then
    if a2 ≤ a1 then
      some (a2, S0)
    else
      some (a1, S0)
  else
  if a0 = 11 then
    if a2 ≤ a1 then
      some (a1, S0)
    else
      some (a2, S0)
  else
  if a0 = 12 then
    some ((a1 + a2), S0)
  else
  if a0 = 13 then
    some ((a1 - a2), S0)
  else
  if a0 = 14 then
    some ((a1 * a2), S0)
  else
  if a0 = 15 then
    if a2 = 0 then
      some (0, S0)
    else
      dv a1 a2 fun x19 =>
      some (x19, S0)
  else
  if a0 = 24 then
    some ((a1 * a2), S0)
  else
  if a0 = 25 then
    if (a1 + a2) ≤ 0 then
      some (0, S0)
    else
      some (1, S0)
  else
    kX10_both_142 a0 a1 a2 S0
set_option maxRecDepth 100000 in
set_option maxHeartbeats 8000000 in
theorem mX10_both (E : EV) (l : Launch) (a0 : Int32) (a1 : Int32) (a2 : Int32) (S0 : ZS) : ∀ u, kX10_both a0 a1 a2 S0 = some u → MIL E l yX10_both cX10_both 3 (Option.some Jvm.ClassFile.FieldType.int) 1 (fun ad => [.int a0, .int a1, .int a2]) S0 u := by
  intro u h
  unfold kX10_both at h
  obtain ⟨hcw, h⟩ := chk_inv h
  refine ML2.of (by decide +kernel) (fun ad => Nat.le_of_ble_eq_true rfl) hcw ?_
  intro p e s m args below meth c ad F hF C hA hr hnm ls hl hG
  have C : Cx p s m args meth c cX10_both 3 RX10 E := C
  have hx := C.1
  have hb := C.2.1
  have hU : F.uc = (u.2).c ∧ F.uw = (u.2).w := ⟨hF.2.2.2.2.1, hF.2.2.2.2.2⟩
  have hl : lv_has ls 3 [(0, .int a0), (1, .int a1), (2, .int a2)] := hl
  suffices h99 : ∀ (H : Heap) (locs : List Loc) (cells slots : Nat), GL E s F H locs ad S0.n S0 cells slots → W p l e (F.R 1) s m args below meth c H locs cells slots (MQ below (QIL E s.heap.size F.ad S0 u) args s (F.c - F.uc) (F.w - F.uw) F.A) (F0 m 0 ls []) from h99 _ _ _ _ hG
  clear hG
  intro H locs cells slots hG
  have j142 : ∀ (v0 : Int32) (v1 : Int32) (v2 : Int32) (S : ZS) (ad : Nat → Nat) (N : Nat) (H : Heap) (locs : List Loc) (ls : Array Slot) (cells slots : Nat), GL E s F H locs ad N S cells slots → lv_has ls 3 [(0, .int v0), (1, .int v1), (2, .int v2)] → kX10_both_142 v0 v1 v2 S = some u → W p l e (F.R 1) s m args below meth c H locs cells slots (MQ below (QIL E s.heap.size F.ad S0 u) args s (F.c - F.uc) (F.w - F.uw) F.A) (F0 m 142 ls []) := by
    intro v0 v1 v2 S ad N H locs ls cells slots hG hl h
    unfold kX10_both_142 at h
    refine lv_iload_n hx hb dX10_both_142 rfl (lv_at hl 0 rfl) ?_
    refine lv_bipush (v := 16) hx hb dX10_both_143 (by decide) ?_
    refine lv_icmp_ne (tgt := 156) hx hb dX10_both_145 (by decide) (fun g1 => ?_) (fun g1 => ?_)
    · have h := (if_inv h).2 g1
      refine lv_iload_n hx hb dX10_both_156 rfl (lv_at hl 0 rfl) ?_
      refine lv_bipush (v := 17) hx hb dX10_both_157 (by decide) ?_
      refine lv_icmp_ne (tgt := 170) hx hb dX10_both_159 (by decide) (fun g2 => ?_) (fun g2 => ?_)
      · have h := (if_inv h).2 g2
        refine lv_iload_n hx hb dX10_both_170 rfl (lv_at hl 0 rfl) ?_
        refine lv_bipush (v := 18) hx hb dX10_both_171 (by decide) ?_
        refine lv_icmp_ne (tgt := 184) hx hb dX10_both_173 (by decide) (fun g3 => ?_) (fun g3 => ?_)
        · have h := (if_inv h).2 g3
          refine lv_iload_n hx hb dX10_both_184 rfl (lv_at hl 0 rfl) ?_
          refine lv_bipush (v := 19) hx hb dX10_both_185 (by decide) ?_
          refine lv_icmp_ne (tgt := 198) hx hb dX10_both_187 (by decide) (fun g4 => ?_) (fun g4 => ?_)
          · have h := (if_inv h).2 g4
            refine lv_iload_n hx hb dX10_both_198 rfl (lv_at hl 1 rfl) ?_
            refine lv_iload_n hx hb dX10_both_199 rfl (lv_at hl 2 rfl) ?_
            refine lv_icmp_lt (tgt := 207) hx hb dX10_both_200 (by decide) (fun g5 => ?_) (fun g5 => ?_)
            · have h := (if_inv h).1 g5
              refine lv_iconst (v := 0) hx hb dX10_both_207 (by decide) ?_
              exact r2_iret C hF hG hr rfl dX10_both_208 h
            · have h := (if_inv h).2 g5
              refine lv_iconst (v := 1) hx hb dX10_both_203 (by decide) ?_
              refine lv_goto (tgt := 208) hx hb dX10_both_204 (by decide) ?_
              exact r2_iret C hF hG hr rfl dX10_both_208 h
          · have h := (if_inv h).1 g4
            refine lv_iload_n hx hb dX10_both_190 rfl (lv_at hl 1 rfl) ?_
            refine lv_iload_n hx hb dX10_both_191 rfl (lv_at hl 2 rfl) ?_
            refine lv_icmp_gt (tgt := 207) hx hb dX10_both_192 (by decide) (fun g6 => ?_) (fun g6 => ?_)
            · have h := (if_inv h).1 g6
              refine lv_iconst (v := 0) hx hb dX10_both_207 (by decide) ?_
              exact r2_iret C hF hG hr rfl dX10_both_208 h
            · have h := (if_inv h).2 g6
              refine lv_goto (tgt := 203) hx hb dX10_both_195 (by decide) ?_
              refine lv_iconst (v := 1) hx hb dX10_both_203 (by decide) ?_
              refine lv_goto (tgt := 208) hx hb dX10_both_204 (by decide) ?_
              exact r2_iret C hF hG hr rfl dX10_both_208 h
        · have h := (if_inv h).1 g3
          refine lv_iload_n hx hb dX10_both_176 rfl (lv_at hl 1 rfl) ?_
          refine lv_iload_n hx hb dX10_both_177 rfl (lv_at hl 2 rfl) ?_
          refine lv_icmp_ne (tgt := 207) hx hb dX10_both_178 (by decide) (fun g7 => ?_) (fun g7 => ?_)
          · have h := (if_inv h).2 g7
            refine lv_iconst (v := 0) hx hb dX10_both_207 (by decide) ?_
            exact r2_iret C hF hG hr rfl dX10_both_208 h
          · have h := (if_inv h).1 g7
            refine lv_goto (tgt := 203) hx hb dX10_both_181 (by decide) ?_
            refine lv_iconst (v := 1) hx hb dX10_both_203 (by decide) ?_
            refine lv_goto (tgt := 208) hx hb dX10_both_204 (by decide) ?_
            exact r2_iret C hF hG hr rfl dX10_both_208 h
      · have h := (if_inv h).1 g2
        refine lv_iload_n hx hb dX10_both_162 rfl (lv_at hl 1 rfl) ?_
        refine lv_iload_n hx hb dX10_both_163 rfl (lv_at hl 2 rfl) ?_
        refine lv_icmp_le (tgt := 207) hx hb dX10_both_164 (by decide) (fun g8 => ?_) (fun g8 => ?_)
        · have h := (if_inv h).1 g8
          refine lv_iconst (v := 0) hx hb dX10_both_207 (by decide) ?_
          exact r2_iret C hF hG hr rfl dX10_both_208 h
        · have h := (if_inv h).2 g8
          refine lv_goto (tgt := 203) hx hb dX10_both_167 (by decide) ?_
          refine lv_iconst (v := 1) hx hb dX10_both_203 (by decide) ?_
          refine lv_goto (tgt := 208) hx hb dX10_both_204 (by decide) ?_
          exact r2_iret C hF hG hr rfl dX10_both_208 h
    · have h := (if_inv h).1 g1
      refine lv_iload_n hx hb dX10_both_148 rfl (lv_at hl 1 rfl) ?_
      refine lv_iload_n hx hb dX10_both_149 rfl (lv_at hl 2 rfl) ?_
      refine lv_icmp_ge (tgt := 207) hx hb dX10_both_150 (by decide) (fun g9 => ?_) (fun g9 => ?_)
      · have h := (if_inv h).1 g9
        refine lv_iconst (v := 0) hx hb dX10_both_207 (by decide) ?_
        exact r2_iret C hF hG hr rfl dX10_both_208 h
      · have h := (if_inv h).2 g9
        refine lv_goto (tgt := 203) hx hb dX10_both_153 (by decide) ?_
        refine lv_iconst (v := 1) hx hb dX10_both_203 (by decide) ?_
        refine lv_goto (tgt := 208) hx hb dX10_both_204 (by decide) ?_
        exact r2_iret C hF hG hr rfl dX10_both_208 h
  refine lv_iload_n hx hb dX10_both_0 rfl (lv_at hl 0 rfl) ?_
  by_cases g10 : a0 = 10
  · have h := (if_inv h).1 g10
    refine lv_tableIn (off := 79) (tgt := 80) hx hb dX10_both_1 (by rw [g10]; decide +kernel) (by rw [g10]; decide +kernel) (by rw [g10]; decide +kernel) (by decide) ?_
    refine lv_iload_n hx hb dX10_both_80 rfl (lv_at hl 1 rfl) ?_
    refine lv_iload_n hx hb dX10_both_81 rfl (lv_at hl 2 rfl) ?_
    refine lv_icmp_ge (tgt := 89) hx hb dX10_both_82 (by decide) (fun g11 => ?_) (fun g11 => ?_)
    · have h := (if_inv h).1 g11
      refine lv_iload_n hx hb dX10_both_89 rfl (lv_at hl 2 rfl) ?_
      exact r2_iret C hF hG hr rfl dX10_both_90 h
    · have h := (if_inv h).2 g11
      refine lv_iload_n hx hb dX10_both_85 rfl (lv_at hl 1 rfl) ?_
      refine lv_goto (tgt := 90) hx hb dX10_both_86 (by decide) ?_
      exact r2_iret C hF hG hr rfl dX10_both_90 h
  have h := (if_inv h).2 g10
  by_cases g12 : a0 = 11
  · have h := (if_inv h).1 g12
    refine lv_tableIn (off := 90) (tgt := 91) hx hb dX10_both_1 (by rw [g12]; decide +kernel) (by rw [g12]; decide +kernel) (by rw [g12]; decide +kernel) (by decide) ?_
    refine lv_iload_n hx hb dX10_both_91 rfl (lv_at hl 1 rfl) ?_
    refine lv_iload_n hx hb dX10_both_92 rfl (lv_at hl 2 rfl) ?_
    refine lv_icmp_ge (tgt := 100) hx hb dX10_both_93 (by decide) (fun g13 => ?_) (fun g13 => ?_)
    · have h := (if_inv h).1 g13
      refine lv_iload_n hx hb dX10_both_100 rfl (lv_at hl 1 rfl) ?_
      exact r2_iret C hF hG hr rfl dX10_both_101 h
    · have h := (if_inv h).2 g13
      refine lv_iload_n hx hb dX10_both_96 rfl (lv_at hl 2 rfl) ?_
      refine lv_goto (tgt := 101) hx hb dX10_both_97 (by decide) ?_
      exact r2_iret C hF hG hr rfl dX10_both_101 h
  have h := (if_inv h).2 g12
  by_cases g14 : a0 = 12
  · have h := (if_inv h).1 g14
    refine lv_tableIn (off := 101) (tgt := 102) hx hb dX10_both_1 (by rw [g14]; decide +kernel) (by rw [g14]; decide +kernel) (by rw [g14]; decide +kernel) (by decide) ?_
    refine lv_iload_n hx hb dX10_both_102 rfl (lv_at hl 1 rfl) ?_
    refine lv_iload_n hx hb dX10_both_103 rfl (lv_at hl 2 rfl) ?_
    refine lv_iadd hx hb dX10_both_104 ?_
    exact r2_iret C hF hG hr rfl dX10_both_105 h
  have h := (if_inv h).2 g14
  by_cases g15 : a0 = 13
  · have h := (if_inv h).1 g15
    refine lv_tableIn (off := 105) (tgt := 106) hx hb dX10_both_1 (by rw [g15]; decide +kernel) (by rw [g15]; decide +kernel) (by rw [g15]; decide +kernel) (by decide) ?_
    refine lv_iload_n hx hb dX10_both_106 rfl (lv_at hl 1 rfl) ?_
    refine lv_iload_n hx hb dX10_both_107 rfl (lv_at hl 2 rfl) ?_
    refine lv_isub hx hb dX10_both_108 ?_
    exact r2_iret C hF hG hr rfl dX10_both_109 h
  have h := (if_inv h).2 g15
  by_cases g16 : a0 = 14
  · have h := (if_inv h).1 g16
    refine lv_tableIn (off := 109) (tgt := 110) hx hb dX10_both_1 (by rw [g16]; decide +kernel) (by rw [g16]; decide +kernel) (by rw [g16]; decide +kernel) (by decide) ?_
    refine lv_iload_n hx hb dX10_both_110 rfl (lv_at hl 1 rfl) ?_
    refine lv_iload_n hx hb dX10_both_111 rfl (lv_at hl 2 rfl) ?_
    refine lv_imul hx hb dX10_both_112 ?_
    exact r2_iret C hF hG hr rfl dX10_both_113 h
  have h := (if_inv h).2 g16
  by_cases g17 : a0 = 15
  · have h := (if_inv h).1 g17
    refine lv_tableIn (off := 113) (tgt := 114) hx hb dX10_both_1 (by rw [g17]; decide +kernel) (by rw [g17]; decide +kernel) (by rw [g17]; decide +kernel) (by decide) ?_
    refine lv_iload_n hx hb dX10_both_114 rfl (lv_at hl 2 rfl) ?_
    refine lv_if_ne (tgt := 122) hx hb dX10_both_115 (by decide) (fun g18 => ?_) (fun g18 => ?_)
    · have h := (if_inv h).2 g18
      refine lv_iload_n hx hb dX10_both_122 rfl (lv_at hl 1 rfl) ?_
      refine lv_iload_n hx hb dX10_both_123 rfl (lv_at hl 2 rfl) ?_
      refine r_div C dX10_both_124 h (fun x19 h => ?_)
      exact r2_iret C hF hG hr rfl dX10_both_125 h
    · have h := (if_inv h).1 g18
      refine lv_iconst (v := 0) hx hb dX10_both_118 (by decide) ?_
      refine lv_goto (tgt := 125) hx hb dX10_both_119 (by decide) ?_
      exact r2_iret C hF hG hr rfl dX10_both_125 h
  have h := (if_inv h).2 g17
  by_cases g20 : a0 = 24
  · have h := (if_inv h).1 g20
    refine lv_tableIn (off := 125) (tgt := 126) hx hb dX10_both_1 (by rw [g20]; decide +kernel) (by rw [g20]; decide +kernel) (by rw [g20]; decide +kernel) (by decide) ?_
    refine lv_iload_n hx hb dX10_both_126 rfl (lv_at hl 1 rfl) ?_
    refine lv_iload_n hx hb dX10_both_127 rfl (lv_at hl 2 rfl) ?_
    refine lv_imul hx hb dX10_both_128 ?_
    exact r2_iret C hF hG hr rfl dX10_both_129 h
  have h := (if_inv h).2 g20
  by_cases g21 : a0 = 25
  · have h := (if_inv h).1 g21
    refine lv_tableIn (off := 129) (tgt := 130) hx hb dX10_both_1 (by rw [g21]; decide +kernel) (by rw [g21]; decide +kernel) (by rw [g21]; decide +kernel) (by decide) ?_
    refine lv_iload_n hx hb dX10_both_130 rfl (lv_at hl 1 rfl) ?_
    refine lv_iload_n hx hb dX10_both_131 rfl (lv_at hl 2 rfl) ?_
    refine lv_iadd hx hb dX10_both_132 ?_
    refine lv_if_le (tgt := 140) hx hb dX10_both_133 (by decide) (fun g22 => ?_) (fun g22 => ?_)
    · have h := (if_inv h).1 g22
      refine lv_iconst (v := 0) hx hb dX10_both_140 (by decide) ?_
      exact r2_iret C hF hG hr rfl dX10_both_141 h
    · have h := (if_inv h).2 g22
      refine lv_iconst (v := 1) hx hb dX10_both_136 (by decide) ?_
      refine lv_goto (tgt := 141) hx hb dX10_both_137 (by decide) ?_
      exact r2_iret C hF hG hr rfl dX10_both_141 h
  have h := (if_inv h).2 g21
  have hd9 : W p l e (F.R 1) s m args below meth c H locs cells slots (MQ below (QIL E s.heap.size F.ad S0 u) args s (F.c - F.uc) (F.w - F.uw) F.A) (F0 m 142 ls []) := by
    exact j142 a0 a1 a2 S0 _ _ _ _ _ _ _ hG (lv_sub hl [0, 1, 2] rfl) h
  by_cases g23 : a0 = 16
  · exact lv_tableIn (off := 141) (tgt := 142) hx hb dX10_both_1 (by rw [g23]; decide +kernel) (by rw [g23]; decide +kernel) (by rw [g23]; decide +kernel) (by decide) hd9
  by_cases g24 : a0 = 17
  · exact lv_tableIn (off := 141) (tgt := 142) hx hb dX10_both_1 (by rw [g24]; decide +kernel) (by rw [g24]; decide +kernel) (by rw [g24]; decide +kernel) (by decide) hd9
  by_cases g25 : a0 = 18
  · exact lv_tableIn (off := 141) (tgt := 142) hx hb dX10_both_1 (by rw [g25]; decide +kernel) (by rw [g25]; decide +kernel) (by rw [g25]; decide +kernel) (by decide) hd9
  by_cases g26 : a0 = 19
  · exact lv_tableIn (off := 141) (tgt := 142) hx hb dX10_both_1 (by rw [g26]; decide +kernel) (by rw [g26]; decide +kernel) (by rw [g26]; decide +kernel) (by decide) hd9
  by_cases g27 : a0 = 20
  · exact lv_tableIn (off := 141) (tgt := 142) hx hb dX10_both_1 (by rw [g27]; decide +kernel) (by rw [g27]; decide +kernel) (by rw [g27]; decide +kernel) (by decide) hd9
  by_cases g28 : a0 = 21
  · exact lv_tableIn (off := 141) (tgt := 142) hx hb dX10_both_1 (by rw [g28]; decide +kernel) (by rw [g28]; decide +kernel) (by rw [g28]; decide +kernel) (by decide) hd9
  by_cases g29 : a0 = 22
  · exact lv_tableIn (off := 141) (tgt := 142) hx hb dX10_both_1 (by rw [g29]; decide +kernel) (by rw [g29]; decide +kernel) (by rw [g29]; decide +kernel) (by decide) hd9
  by_cases g30 : a0 = 23
  · exact lv_tableIn (off := 141) (tgt := 142) hx hb dX10_both_1 (by rw [g30]; decide +kernel) (by rw [g30]; decide +kernel) (by rw [g30]; decide +kernel) (by decide) hd9
  exact lv_tableOut (tgt := 142) hx hb dX10_both_1 (tab_out 16 (by decide) (lt_s (lt_s (lt_s (lt_s (lt_s (lt_s (lt_s (lt_s (lt_s (lt_s (lt_s (lt_s (lt_s (lt_s (lt_s (lt_s lt_0 (nei g10 (by decide))) (nei g12 (by decide))) (nei g14 (by decide))) (nei g15 (by decide))) (nei g16 (by decide))) (nei g17 (by decide))) (nei g23 (by decide))) (nei g24 (by decide))) (nei g25 (by decide))) (nei g26 (by decide))) (nei g27 (by decide))) (nei g28 (by decide))) (nei g29 (by decide))) (nei g30 (by decide))) (nei g20 (by decide))) (nei g21 (by decide)))) (by decide) hd9
def kX10_value_268 (R : Nat → Nat → ZS → Option (Int32 × ZS))  (v0 : Nat) (v1 : Nat) (S : ZS) : Option (Int32 × ZS) :=
      gI S v0 12 0 fun x1 =>
      gN S v0 12 2 fun c2 =>
      rcv S c2 12 <| b2 Prod.snd (R c2 v1 S) fun x5 S3 =>
      gN S3 v0 12 3 fun c6 =>
      rcv S3 c6 12 <| b2 Prod.snd (R c6 v1 S3) fun x9 S7 =>
      b2 Prod.snd (kX10_both x1 x5 x9 S7) fun x12 S10 =>
      some (x12, S10)
def kbX10_value (R : Nat → Nat → ZS → Option (Int32 × ZS)) (c0 : Nat) (c1 : Nat) (S0 : ZS) : Option (Int32 × ZS) :=
  chk Prod.snd S0 <|
  gI S0 c0 12 0 fun x13 =>
  if x13 = 0 then
    gI S0 c0 12 1 fun x15 =>
    some (x15, S0)
  else
  if x13 = 1 then
    gI S0 c1 14 6 fun x17 =>
    some (x17, S0)
  else
  if x13 = 2 then
    rcv S0 c1 14 <| b2 Prod.snd (kX12_end c1 S0) fun x21 S19 =>
    some (x21, S19)
  else
  if x13 = 3 then
    gN S0 c1 14 4 fun c23 =>
    aL S0 c23 400000 fun x24 =>
    some (x24, S0)
  else
  if x13 = 4 then
    gN S0 c1 14 2 fun c26 =>
    gI S0 c0 12 1 fun x27 =>
    aN S0 c26 400000 x27 fun c28 =>
    aG S0 c28 100000 2 fun x29 =>
    some (x29, S0)
  else
  if x13 = 5 then
    gN S0 c1 14 2 fun c31 =>
    gI S0 c0 12 1 fun x32 =>
    aN S0 c31 400000 x32 fun c33 =>
    aG S0 c33 100000 0 fun x34 =>
    some (x34, S0)
  else
  if x13 = 6 then
    gN S0 c1 14 2 fun c36 =>
    gI S0 c0 12 1 fun x37 =>
    aN S0 c36 400000 x37 fun c38 =>
    aG S0 c38 100000 1 fun x39 =>
    some (x39, S0)
  else
  if x13 = 7 then
    gI S0 c0 12 1 fun x41 =>
    rcv S0 c1 14 <| b2 Prod.snd (kX12_place c1 x41 S0) fun x44 S42 =>
    rcv S42 c1 14 <| b2 Prod.snd (kX12_light c1 x44 S42) fun x47 S45 =>
    gI S45 c0 12 1 fun x48 =>
    rcv S45 c1 14 <| b2 Prod.snd (kX12_place c1 x48 S45) fun x51 S49 =>
    rcv S49 c1 14 <| b2 Prod.snd (kX12_light c1 (x51 + 1) S49) fun x54 S52 =>
    some ((x47 - x54), S52)
  else
  if x13 = 8 then
    gI S0 c0 12 1 fun x56 =>
    rcv S0 c1 14 <| b2 Prod.snd (kX12_place c1 x56 S0) fun x59 S57 =>
    rcv S57 c1 14 <| b2 Prod.snd (kX12_tilt c1 (x59 + 1) S57) fun x62 S60 =>
    some (x62, S60)
  else
  if x13 = 9 then
    gN S0 c0 12 2 fun c64 =>
    rcv S0 c64 12 <| b2 Prod.snd (R c64 c1 S0) fun x67 S65 =>
    some ((0 - x67), S65)
  else
  if x13 = 21 then
    rcv S0 c1 14 <| b2 Prod.snd (kX12_isSeen c1 S0) fun x71 S69 =>
    if x71 = 0 then
      some (0, S69)
    else
      some (1, S69)
  else
  if x13 = 22 then
    gI S0 c0 12 1 fun x74 =>
    rcv S0 c1 14 <| b2 Prod.snd (kX12_waits c1 x74 S0) fun x77 S75 =>
    if x77 = 0 then
      some (0, S75)
    else
      some (1, S75)
  else
  if x13 = 23 then
    gN S0 c0 12 2 fun c80 =>
    rcv S0 c80 12 <| b2 Prod.snd (R c80 c1 S0) fun x83 S81 =>
    some ((1 - x83), S81)
  else
    kX10_value_268 R c0 c1 S0
set_option maxRecDepth 100000 in
set_option maxHeartbeats 8000000 in
theorem mX10_value_b (E : EV) (l : Launch) (d : Nat) (R : Nat → Nat → ZS → Option (Int32 × ZS)) (IH : ∀ (c0 : Nat) (c1 : Nat) (S : ZS), (c0 ≠ 0 ∧ rk S.n c0) → (c1 ≠ 0 ∧ rk S.n c1) → ∀ u, R c0 c1 S = some u → MIL E l yX10_value cX10_value 2 (Option.some Jvm.ClassFile.FieldType.int) (5 + d) (fun ad => [.ref (rA E ad c0), .ref (rA E ad c1)]) S u) (c0 : Nat) (c1 : Nat) (S0 : ZS) (q0 : c0 ≠ 0 ∧ rk S0.n c0) (q1 : c1 ≠ 0 ∧ rk S0.n c1) : ∀ u, kbX10_value R c0 c1 S0 = some u → MIL E l yX10_value cX10_value 2 (Option.some Jvm.ClassFile.FieldType.int) (5 + d + 1) (fun ad => [.ref (rA E ad c0), .ref (rA E ad c1)]) S0 u := by
  intro u h
  unfold kbX10_value at h
  obtain ⟨hcw, h⟩ := chk_inv h
  refine ML2.of (by decide +kernel) (fun ad => Nat.le_of_ble_eq_true rfl) hcw ?_
  intro p e s m args below meth c ad F hF C hA hr hnm ls hl hG
  have C : Cx p s m args meth c cX10_value 2 RX10 E := C
  have hx := C.1
  have hb := C.2.1
  have hU : F.uc = (u.2).c ∧ F.uw = (u.2).w := ⟨hF.2.2.2.2.1, hF.2.2.2.2.2⟩
  have hl : lv_has ls 2 [(0, .ref (rA E ad c0)), (1, .ref (rA E ad c1))] := hl
  obtain ⟨b0, h0, e0⟩ : ∃ b, RA E ad S0.n c0 b ∧ b = rA E ad c0 := ⟨_, RA.of q0.1 q0.2, rfl⟩
  rw [← e0] at hl
  obtain ⟨b1, h1, e1⟩ : ∃ b, RA E ad S0.n c1 b ∧ b = rA E ad c1 := ⟨_, RA.of q1.1 q1.2, rfl⟩
  rw [← e1] at hl
  suffices h99 : ∀ (H : Heap) (locs : List Loc) (cells slots : Nat), GL E s F H locs ad S0.n S0 cells slots → W p l e (F.R (5 + d + 1)) s m args below meth c H locs cells slots (MQ below (QIL E s.heap.size F.ad S0 u) args s (F.c - F.uc) (F.w - F.uw) F.A) (F0 m 0 ls []) from h99 _ _ _ _ hG
  clear hG
  intro H locs cells slots hG
  have j268 : ∀ (v0 : Nat) (v1 : Nat) (S : ZS) (ad : Nat → Nat) (N : Nat) (bv0 : Nat) (bv1 : Nat) (H : Heap) (locs : List Loc) (ls : Array Slot) (cells slots : Nat), GL E s F H locs ad N S cells slots → RA E ad N v0 bv0 → RA E ad N v1 bv1 → lv_has ls 2 [(0, .ref bv0), (1, .ref bv1)] → kX10_value_268 R v0 v1 S = some u → W p l e (F.R (5 + d + 1)) s m args below meth c H locs cells slots (MQ below (QIL E s.heap.size F.ad S0 u) args s (F.c - F.uc) (F.w - F.uw) F.A) (F0 m 268 ls []) := by
    intro v0 v1 S ad N bv0 bv1 H locs ls cells slots hG hv0 hv1 hl h
    unfold kX10_value_268 at h
    refine lv_aload_n hx hb dX10_value_268 rfl (lv_at hl 0 rfl) ?_
    refine r2_gI C hG hv0 FQX10_7 rfl dX10_value_269 h (fun x1 h => ?_)
    refine lv_aload_n hx hb dX10_value_272 rfl (lv_at hl 0 rfl) ?_
    refine r2_gN C hG hv0 FQX10_16 rfl dX10_value_273 h (fun c2 bc2 h_c2 h => ?_)
    refine lv_aload_n hx hb dX10_value_276 rfl (lv_at hl 1 rfl) ?_
    refine r2_cVI C hA hl.1 hG h_c2 [.ref bv1] [.int x1] (IH c2 v1 S (RAq hG h_c2) (RAq hG hv1)) (by rw [h_c2.1, hv1.1]) QLX10_123 KP12 rfl (rm2 (by omega) (by decide)) (Nat.le_of_ble_eq_true rfl) rfl dX10_value_277 hU h (fun x5 S3 H locs ad4 cells slots hG hx9 h => ?_)
    have hv0 := hv0.up hx9
    have hv1 := hv1.up hx9
    refine lv_aload_n hx hb dX10_value_280 rfl (lv_at hl 0 rfl) ?_
    refine r2_gN C hG hv0 FQX10_20 rfl dX10_value_281 h (fun c6 bc6 h_c6 h => ?_)
    refine lv_aload_n hx hb dX10_value_284 rfl (lv_at hl 1 rfl) ?_
    refine r2_cVI C hA hl.1 hG h_c6 [.ref bv1] [.int x5, .int x1] (IH c6 v1 S3 (RAq hG h_c6) (RAq hG hv1)) (by rw [h_c6.1, hv1.1]) QLX10_123 KP12 rfl (rm2 (by omega) (by decide)) (Nat.le_of_ble_eq_true rfl) rfl dX10_value_285 hU h (fun x9 S7 H locs ad8 cells slots hG hx9 h => ?_)
    have hv0 := hv0.up hx9
    have hv1 := hv1.up hx9
    refine r2_cSI C hA hl.1 hG [.int x1, .int x5, .int x9] [] (mX10_both E l x1 x5 x9 S7) rfl QLX10_135 rfl (rm2 (by omega) (by decide)) (Nat.le_of_ble_eq_true rfl) rfl dX10_value_288 hU h (fun x12 S10 H locs ad11 cells slots hG hx9 h => ?_)
    have hv0 := hv0.up hx9
    have hv1 := hv1.up hx9
    exact r2_iret C hF hG hr rfl dX10_value_291 h
  refine lv_aload_n hx hb dX10_value_0 rfl (lv_at hl 0 rfl) ?_
  refine r2_gI C hG h0 FQX10_7 rfl dX10_value_1 h (fun x13 h => ?_)
  by_cases g14 : x13 = 0
  · have h := (if_inv h).1 g14
    refine lv_tableIn (off := 112) (tgt := 116) hx hb dX10_value_4 (by rw [g14]; decide +kernel) (by rw [g14]; decide +kernel) (by rw [g14]; decide +kernel) (by decide) ?_
    refine lv_aload_n hx hb dX10_value_116 rfl (lv_at hl 0 rfl) ?_
    refine r2_gI C hG h0 FQX10_13 rfl dX10_value_117 h (fun x15 h => ?_)
    exact r2_iret C hF hG hr rfl dX10_value_120 h
  have h := (if_inv h).2 g14
  by_cases g16 : x13 = 1
  · have h := (if_inv h).1 g16
    refine lv_tableIn (off := 117) (tgt := 121) hx hb dX10_value_4 (by rw [g16]; decide +kernel) (by rw [g16]; decide +kernel) (by rw [g16]; decide +kernel) (by decide) ?_
    refine lv_aload_n hx hb dX10_value_121 rfl (lv_at hl 1 rfl) ?_
    refine r2_gI C hG h1 FQX10_98 rfl dX10_value_122 h (fun x17 h => ?_)
    exact r2_iret C hF hG hr rfl dX10_value_125 h
  have h := (if_inv h).2 g16
  by_cases g18 : x13 = 2
  · have h := (if_inv h).1 g18
    refine lv_tableIn (off := 122) (tgt := 126) hx hb dX10_value_4 (by rw [g18]; decide +kernel) (by rw [g18]; decide +kernel) (by rw [g18]; decide +kernel) (by decide) ?_
    refine lv_aload_n hx hb dX10_value_126 rfl (lv_at hl 1 rfl) ?_
    refine r2_cVI C hA hl.1 hG h1 [] [] (mX12_end E l c1 S0 (RAq hG h1)) (by rw [h1.1]) QLX10_103 KP14 rfl (rm2 (by omega) (by decide)) (Nat.le_of_ble_eq_true rfl) rfl dX10_value_127 hU h (fun x21 S19 H locs ad20 cells slots hG hx9 h => ?_)
    have h0 := h0.up hx9
    have h1 := h1.up hx9
    exact r2_iret C hF hG hr rfl dX10_value_130 h
  have h := (if_inv h).2 g18
  by_cases g22 : x13 = 3
  · have h := (if_inv h).1 g22
    refine lv_tableIn (off := 127) (tgt := 131) hx hb dX10_value_4 (by rw [g22]; decide +kernel) (by rw [g22]; decide +kernel) (by rw [g22]; decide +kernel) (by decide) ?_
    refine lv_aload_n hx hb dX10_value_131 rfl (lv_at hl 1 rfl) ?_
    refine r2_gN C hG h1 FQX10_107 rfl dX10_value_132 h (fun c23 bc23 h_c23 h => ?_)
    refine r2_len C hG h_c23 400000 (Or.inr (Or.inr (Or.inr (Or.inl rfl)))) dX10_value_135 h (fun x24 h => ?_)
    exact r2_iret C hF hG hr rfl dX10_value_136 h
  have h := (if_inv h).2 g22
  by_cases g25 : x13 = 4
  · have h := (if_inv h).1 g25
    refine lv_tableIn (off := 133) (tgt := 137) hx hb dX10_value_4 (by rw [g25]; decide +kernel) (by rw [g25]; decide +kernel) (by rw [g25]; decide +kernel) (by decide) ?_
    refine lv_aload_n hx hb dX10_value_137 rfl (lv_at hl 1 rfl) ?_
    refine r2_gN C hG h1 FQX10_111 rfl dX10_value_138 h (fun c26 bc26 h_c26 h => ?_)
    refine lv_aload_n hx hb dX10_value_141 rfl (lv_at hl 0 rfl) ?_
    refine r2_gI C hG h0 FQX10_13 rfl dX10_value_142 h (fun x27 h => ?_)
    refine r2_gAA C hG h_c26 dX10_value_145 h (fun c28 bc28 h_c28 h => ?_)
    refine lv_iconst (v := 2) hx hb dX10_value_146 (by decide) ?_
    refine r2_gAI C hG h_c28 dX10_value_147 h (fun x29 h => ?_)
    exact r2_iret C hF hG hr rfl dX10_value_148 h
  have h := (if_inv h).2 g25
  by_cases g30 : x13 = 5
  · have h := (if_inv h).1 g30
    refine lv_tableIn (off := 145) (tgt := 149) hx hb dX10_value_4 (by rw [g30]; decide +kernel) (by rw [g30]; decide +kernel) (by rw [g30]; decide +kernel) (by decide) ?_
    refine lv_aload_n hx hb dX10_value_149 rfl (lv_at hl 1 rfl) ?_
    refine r2_gN C hG h1 FQX10_111 rfl dX10_value_150 h (fun c31 bc31 h_c31 h => ?_)
    refine lv_aload_n hx hb dX10_value_153 rfl (lv_at hl 0 rfl) ?_
    refine r2_gI C hG h0 FQX10_13 rfl dX10_value_154 h (fun x32 h => ?_)
    refine r2_gAA C hG h_c31 dX10_value_157 h (fun c33 bc33 h_c33 h => ?_)
    refine lv_iconst (v := 0) hx hb dX10_value_158 (by decide) ?_
    refine r2_gAI C hG h_c33 dX10_value_159 h (fun x34 h => ?_)
    exact r2_iret C hF hG hr rfl dX10_value_160 h
  have h := (if_inv h).2 g30
  by_cases g35 : x13 = 6
  · have h := (if_inv h).1 g35
    refine lv_tableIn (off := 157) (tgt := 161) hx hb dX10_value_4 (by rw [g35]; decide +kernel) (by rw [g35]; decide +kernel) (by rw [g35]; decide +kernel) (by decide) ?_
    refine lv_aload_n hx hb dX10_value_161 rfl (lv_at hl 1 rfl) ?_
    refine r2_gN C hG h1 FQX10_111 rfl dX10_value_162 h (fun c36 bc36 h_c36 h => ?_)
    refine lv_aload_n hx hb dX10_value_165 rfl (lv_at hl 0 rfl) ?_
    refine r2_gI C hG h0 FQX10_13 rfl dX10_value_166 h (fun x37 h => ?_)
    refine r2_gAA C hG h_c36 dX10_value_169 h (fun c38 bc38 h_c38 h => ?_)
    refine lv_iconst (v := 1) hx hb dX10_value_170 (by decide) ?_
    refine r2_gAI C hG h_c38 dX10_value_171 h (fun x39 h => ?_)
    exact r2_iret C hF hG hr rfl dX10_value_172 h
  have h := (if_inv h).2 g35
  by_cases g40 : x13 = 7
  · have h := (if_inv h).1 g40
    refine lv_tableIn (off := 169) (tgt := 173) hx hb dX10_value_4 (by rw [g40]; decide +kernel) (by rw [g40]; decide +kernel) (by rw [g40]; decide +kernel) (by decide) ?_
    refine lv_aload_n hx hb dX10_value_173 rfl (lv_at hl 1 rfl) ?_
    refine lv_aload_n hx hb dX10_value_174 rfl (lv_at hl 1 rfl) ?_
    refine lv_aload_n hx hb dX10_value_175 rfl (lv_at hl 0 rfl) ?_
    refine r2_gI C hG h0 FQX10_13 rfl dX10_value_176 h (fun x41 h => ?_)
    refine r2_cVI C hA hl.1 hG h1 [.int x41] [.ref b1] (mX12_place E l c1 x41 S0 (RAq hG h1)) (by rw [h1.1]) QLX10_114 KP14 rfl (rm2 (by omega) (by decide)) (Nat.le_of_ble_eq_true rfl) rfl dX10_value_179 hU h (fun x44 S42 H locs ad43 cells slots hG hx9 h => ?_)
    have h0 := h0.up hx9
    have h1 := h1.up hx9
    refine r2_cVI C hA hl.1 hG h1 [.int x44] [] (mX12_light E l c1 x44 S42 (RAq hG h1)) (by rw [h1.1]) QLX10_117 KP14 rfl (rm2 (by omega) (by decide)) (Nat.le_of_ble_eq_true rfl) rfl dX10_value_182 hU h (fun x47 S45 H locs ad46 cells slots hG hx9 h => ?_)
    have h0 := h0.up hx9
    have h1 := h1.up hx9
    refine lv_aload_n hx hb dX10_value_185 rfl (lv_at hl 1 rfl) ?_
    refine lv_aload_n hx hb dX10_value_186 rfl (lv_at hl 1 rfl) ?_
    refine lv_aload_n hx hb dX10_value_187 rfl (lv_at hl 0 rfl) ?_
    refine r2_gI C hG h0 FQX10_13 rfl dX10_value_188 h (fun x48 h => ?_)
    refine r2_cVI C hA hl.1 hG h1 [.int x48] [.ref b1, .int x47] (mX12_place E l c1 x48 S45 (RAq hG h1)) (by rw [h1.1]) QLX10_114 KP14 rfl (rm2 (by omega) (by decide)) (Nat.le_of_ble_eq_true rfl) rfl dX10_value_191 hU h (fun x51 S49 H locs ad50 cells slots hG hx9 h => ?_)
    have h0 := h0.up hx9
    have h1 := h1.up hx9
    refine lv_iconst (v := 1) hx hb dX10_value_194 (by decide) ?_
    refine lv_iadd hx hb dX10_value_195 ?_
    refine r2_cVI C hA hl.1 hG h1 [.int (x51 + 1)] [.int x47] (mX12_light E l c1 (x51 + 1) S49 (RAq hG h1)) (by rw [h1.1]) QLX10_117 KP14 rfl (rm2 (by omega) (by decide)) (Nat.le_of_ble_eq_true rfl) rfl dX10_value_196 hU h (fun x54 S52 H locs ad53 cells slots hG hx9 h => ?_)
    have h0 := h0.up hx9
    have h1 := h1.up hx9
    refine lv_isub hx hb dX10_value_199 ?_
    exact r2_iret C hF hG hr rfl dX10_value_200 h
  have h := (if_inv h).2 g40
  by_cases g55 : x13 = 8
  · have h := (if_inv h).1 g55
    refine lv_tableIn (off := 197) (tgt := 201) hx hb dX10_value_4 (by rw [g55]; decide +kernel) (by rw [g55]; decide +kernel) (by rw [g55]; decide +kernel) (by decide) ?_
    refine lv_aload_n hx hb dX10_value_201 rfl (lv_at hl 1 rfl) ?_
    refine lv_aload_n hx hb dX10_value_202 rfl (lv_at hl 1 rfl) ?_
    refine lv_aload_n hx hb dX10_value_203 rfl (lv_at hl 0 rfl) ?_
    refine r2_gI C hG h0 FQX10_13 rfl dX10_value_204 h (fun x56 h => ?_)
    refine r2_cVI C hA hl.1 hG h1 [.int x56] [.ref b1] (mX12_place E l c1 x56 S0 (RAq hG h1)) (by rw [h1.1]) QLX10_114 KP14 rfl (rm2 (by omega) (by decide)) (Nat.le_of_ble_eq_true rfl) rfl dX10_value_207 hU h (fun x59 S57 H locs ad58 cells slots hG hx9 h => ?_)
    have h0 := h0.up hx9
    have h1 := h1.up hx9
    refine lv_iconst (v := 1) hx hb dX10_value_210 (by decide) ?_
    refine lv_iadd hx hb dX10_value_211 ?_
    refine r2_cVI C hA hl.1 hG h1 [.int (x59 + 1)] [] (mX12_tilt E l c1 (x59 + 1) S57 (RAq hG h1)) (by rw [h1.1]) QLX10_120 KP14 rfl (rm2 (by omega) (by decide)) (Nat.le_of_ble_eq_true rfl) rfl dX10_value_212 hU h (fun x62 S60 H locs ad61 cells slots hG hx9 h => ?_)
    have h0 := h0.up hx9
    have h1 := h1.up hx9
    exact r2_iret C hF hG hr rfl dX10_value_215 h
  have h := (if_inv h).2 g55
  by_cases g63 : x13 = 9
  · have h := (if_inv h).1 g63
    refine lv_tableIn (off := 212) (tgt := 216) hx hb dX10_value_4 (by rw [g63]; decide +kernel) (by rw [g63]; decide +kernel) (by rw [g63]; decide +kernel) (by decide) ?_
    refine lv_iconst (v := 0) hx hb dX10_value_216 (by decide) ?_
    refine lv_aload_n hx hb dX10_value_217 rfl (lv_at hl 0 rfl) ?_
    refine r2_gN C hG h0 FQX10_16 rfl dX10_value_218 h (fun c64 bc64 h_c64 h => ?_)
    refine lv_aload_n hx hb dX10_value_221 rfl (lv_at hl 1 rfl) ?_
    refine r2_cVI C hA hl.1 hG h_c64 [.ref b1] [.int 0] (IH c64 c1 S0 (RAq hG h_c64) (RAq hG h1)) (by rw [h_c64.1, h1.1]) QLX10_123 KP12 rfl (rm2 (by omega) (by decide)) (Nat.le_of_ble_eq_true rfl) rfl dX10_value_222 hU h (fun x67 S65 H locs ad66 cells slots hG hx9 h => ?_)
    have h0 := h0.up hx9
    have h1 := h1.up hx9
    refine lv_isub hx hb dX10_value_225 ?_
    exact r2_iret C hF hG hr rfl dX10_value_226 h
  have h := (if_inv h).2 g63
  by_cases g68 : x13 = 21
  · have h := (if_inv h).1 g68
    refine lv_tableIn (off := 223) (tgt := 227) hx hb dX10_value_4 (by rw [g68]; decide +kernel) (by rw [g68]; decide +kernel) (by rw [g68]; decide +kernel) (by decide) ?_
    refine lv_aload_n hx hb dX10_value_227 rfl (lv_at hl 1 rfl) ?_
    refine r2_cVI C hA hl.1 hG h1 [] [] (mX12_isSeen E l c1 S0 (RAq hG h1)) (by rw [h1.1]) QLX10_127 KP14 rfl (rm2 (by omega) (by decide)) (Nat.le_of_ble_eq_true rfl) rfl dX10_value_228 hU h (fun x71 S69 H locs ad70 cells slots hG hx9 h => ?_)
    have h0 := h0.up hx9
    have h1 := h1.up hx9
    refine lv_if_eq (tgt := 238) hx hb dX10_value_231 (by decide) (fun g72 => ?_) (fun g72 => ?_)
    · have h := (if_inv h).1 g72
      refine lv_iconst (v := 0) hx hb dX10_value_238 (by decide) ?_
      exact r2_iret C hF hG hr rfl dX10_value_239 h
    · have h := (if_inv h).2 g72
      refine lv_iconst (v := 1) hx hb dX10_value_234 (by decide) ?_
      refine lv_goto (tgt := 239) hx hb dX10_value_235 (by decide) ?_
      exact r2_iret C hF hG hr rfl dX10_value_239 h
  have h := (if_inv h).2 g68
  by_cases g73 : x13 = 22
  · have h := (if_inv h).1 g73
    refine lv_tableIn (off := 236) (tgt := 240) hx hb dX10_value_4 (by rw [g73]; decide +kernel) (by rw [g73]; decide +kernel) (by rw [g73]; decide +kernel) (by decide) ?_
    refine lv_aload_n hx hb dX10_value_240 rfl (lv_at hl 1 rfl) ?_
    refine lv_aload_n hx hb dX10_value_241 rfl (lv_at hl 0 rfl) ?_
    refine r2_gI C hG h0 FQX10_13 rfl dX10_value_242 h (fun x74 h => ?_)
    refine r2_cVI C hA hl.1 hG h1 [.int x74] [] (mX12_waits E l c1 x74 S0 (RAq hG h1)) (by rw [h1.1]) QLX10_131 KP14 rfl (rm2 (by omega) (by decide)) (Nat.le_of_ble_eq_true rfl) rfl dX10_value_245 hU h (fun x77 S75 H locs ad76 cells slots hG hx9 h => ?_)
    have h0 := h0.up hx9
    have h1 := h1.up hx9
    refine lv_if_eq (tgt := 255) hx hb dX10_value_248 (by decide) (fun g78 => ?_) (fun g78 => ?_)
    · have h := (if_inv h).1 g78
      refine lv_iconst (v := 0) hx hb dX10_value_255 (by decide) ?_
      exact r2_iret C hF hG hr rfl dX10_value_256 h
    · have h := (if_inv h).2 g78
      refine lv_iconst (v := 1) hx hb dX10_value_251 (by decide) ?_
      refine lv_goto (tgt := 256) hx hb dX10_value_252 (by decide) ?_
      exact r2_iret C hF hG hr rfl dX10_value_256 h
  have h := (if_inv h).2 g73
  by_cases g79 : x13 = 23
  · have h := (if_inv h).1 g79
    refine lv_tableIn (off := 253) (tgt := 257) hx hb dX10_value_4 (by rw [g79]; decide +kernel) (by rw [g79]; decide +kernel) (by rw [g79]; decide +kernel) (by decide) ?_
    refine lv_iconst (v := 1) hx hb dX10_value_257 (by decide) ?_
    refine lv_aload_n hx hb dX10_value_258 rfl (lv_at hl 0 rfl) ?_
    refine r2_gN C hG h0 FQX10_16 rfl dX10_value_259 h (fun c80 bc80 h_c80 h => ?_)
    refine lv_aload_n hx hb dX10_value_262 rfl (lv_at hl 1 rfl) ?_
    refine r2_cVI C hA hl.1 hG h_c80 [.ref b1] [.int 1] (IH c80 c1 S0 (RAq hG h_c80) (RAq hG h1)) (by rw [h_c80.1, h1.1]) QLX10_123 KP12 rfl (rm2 (by omega) (by decide)) (Nat.le_of_ble_eq_true rfl) rfl dX10_value_263 hU h (fun x83 S81 H locs ad82 cells slots hG hx9 h => ?_)
    have h0 := h0.up hx9
    have h1 := h1.up hx9
    refine lv_isub hx hb dX10_value_266 ?_
    exact r2_iret C hF hG hr rfl dX10_value_267 h
  have h := (if_inv h).2 g79
  have hd9 : W p l e (F.R (5 + d + 1)) s m args below meth c H locs cells slots (MQ below (QIL E s.heap.size F.ad S0 u) args s (F.c - F.uc) (F.w - F.uw) F.A) (F0 m 268 ls []) := by
    exact j268 c0 c1 S0 _ _ _ _ _ _ _ _ _ hG h0 h1 (lv_sub hl [0, 1] rfl) h
  by_cases g84 : x13 = 10
  · exact lv_tableIn (off := 264) (tgt := 268) hx hb dX10_value_4 (by rw [g84]; decide +kernel) (by rw [g84]; decide +kernel) (by rw [g84]; decide +kernel) (by decide) hd9
  by_cases g85 : x13 = 11
  · exact lv_tableIn (off := 264) (tgt := 268) hx hb dX10_value_4 (by rw [g85]; decide +kernel) (by rw [g85]; decide +kernel) (by rw [g85]; decide +kernel) (by decide) hd9
  by_cases g86 : x13 = 12
  · exact lv_tableIn (off := 264) (tgt := 268) hx hb dX10_value_4 (by rw [g86]; decide +kernel) (by rw [g86]; decide +kernel) (by rw [g86]; decide +kernel) (by decide) hd9
  by_cases g87 : x13 = 13
  · exact lv_tableIn (off := 264) (tgt := 268) hx hb dX10_value_4 (by rw [g87]; decide +kernel) (by rw [g87]; decide +kernel) (by rw [g87]; decide +kernel) (by decide) hd9
  by_cases g88 : x13 = 14
  · exact lv_tableIn (off := 264) (tgt := 268) hx hb dX10_value_4 (by rw [g88]; decide +kernel) (by rw [g88]; decide +kernel) (by rw [g88]; decide +kernel) (by decide) hd9
  by_cases g89 : x13 = 15
  · exact lv_tableIn (off := 264) (tgt := 268) hx hb dX10_value_4 (by rw [g89]; decide +kernel) (by rw [g89]; decide +kernel) (by rw [g89]; decide +kernel) (by decide) hd9
  by_cases g90 : x13 = 16
  · exact lv_tableIn (off := 264) (tgt := 268) hx hb dX10_value_4 (by rw [g90]; decide +kernel) (by rw [g90]; decide +kernel) (by rw [g90]; decide +kernel) (by decide) hd9
  by_cases g91 : x13 = 17
  · exact lv_tableIn (off := 264) (tgt := 268) hx hb dX10_value_4 (by rw [g91]; decide +kernel) (by rw [g91]; decide +kernel) (by rw [g91]; decide +kernel) (by decide) hd9
  by_cases g92 : x13 = 18
  · exact lv_tableIn (off := 264) (tgt := 268) hx hb dX10_value_4 (by rw [g92]; decide +kernel) (by rw [g92]; decide +kernel) (by rw [g92]; decide +kernel) (by decide) hd9
  by_cases g93 : x13 = 19
  · exact lv_tableIn (off := 264) (tgt := 268) hx hb dX10_value_4 (by rw [g93]; decide +kernel) (by rw [g93]; decide +kernel) (by rw [g93]; decide +kernel) (by decide) hd9
  by_cases g94 : x13 = 20
  · exact lv_tableIn (off := 264) (tgt := 268) hx hb dX10_value_4 (by rw [g94]; decide +kernel) (by rw [g94]; decide +kernel) (by rw [g94]; decide +kernel) (by decide) hd9
  exact lv_tableOut (tgt := 268) hx hb dX10_value_4 (tab_out 24 (by decide) (lt_s (lt_s (lt_s (lt_s (lt_s (lt_s (lt_s (lt_s (lt_s (lt_s (lt_s (lt_s (lt_s (lt_s (lt_s (lt_s (lt_s (lt_s (lt_s (lt_s (lt_s (lt_s (lt_s (lt_s lt_0 (nei g14 (by decide))) (nei g16 (by decide))) (nei g18 (by decide))) (nei g22 (by decide))) (nei g25 (by decide))) (nei g30 (by decide))) (nei g35 (by decide))) (nei g40 (by decide))) (nei g55 (by decide))) (nei g63 (by decide))) (nei g84 (by decide))) (nei g85 (by decide))) (nei g86 (by decide))) (nei g87 (by decide))) (nei g88 (by decide))) (nei g89 (by decide))) (nei g90 (by decide))) (nei g91 (by decide))) (nei g92 (by decide))) (nei g93 (by decide))) (nei g94 (by decide))) (nei g68 (by decide))) (nei g73 (by decide))) (nei g79 (by decide)))) (by decide) hd9
def kRX10_value : Nat → Nat → Nat → ZS → Option (Int32 × ZS)
  | 0, _, _, _ => none
  | d + 1, c0, c1, S => kbX10_value (kRX10_value d) c0 c1 S
theorem mRX10_value (E : EV) (l : Launch) : ∀ d, ∀ (c0 : Nat) (c1 : Nat) (S : ZS), (c0 ≠ 0 ∧ rk S.n c0) → (c1 ≠ 0 ∧ rk S.n c1) → ∀ u, kRX10_value d c0 c1 S = some u → MIL E l yX10_value cX10_value 2 (Option.some Jvm.ClassFile.FieldType.int) (5 + d) (fun ad => [.ref (rA E ad c0), .ref (rA E ad c1)]) S u := by
  intro d
  induction d with
  | zero =>
    intro c0 c1 S q0 q1 u h
    cases h
  | succ d ih =>
    intro c0 c1 S q0 q1 u h
    exact mX10_value_b E l d (kRX10_value d) ih c0 c1 S q0 q1 u h
def kX10_value (c0 : Nat) (c1 : Nat) (S : ZS) : Option (Int32 × ZS) := kRX10_value 12 c0 c1 S
theorem mX10_value (E : EV) (l : Launch) (c0 : Nat) (c1 : Nat) (S : ZS) (q0 : c0 ≠ 0 ∧ rk S.n c0) (q1 : c1 ≠ 0 ∧ rk S.n c1) : ∀ u, kX10_value c0 c1 S = some u → MIL E l yX10_value cX10_value 2 (Option.some Jvm.ClassFile.FieldType.int) 17 (fun ad => [.ref (rA E ad c0), .ref (rA E ad c1)]) S u := fun u h => mRX10_value E l 12 c0 c1 S q0 q1 u h
