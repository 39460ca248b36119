def kJ5_init_d00df (c0 : Nat) (a1 : Int32) (S0 : ZS) : Option (ZS) :=
  chk id S0 <|
  nA id S0 200000 a1 fun c1 S2 =>
  pR S2 c0 1 0 c1 fun S4 =>
  pI S4 c0 1 1 0 fun S5 =>
  some S5
set_option maxRecDepth 100000 in
set_option maxHeartbeats 8000000 in
theorem mJ5_init_d00df (E : EV) (l : Launch) (c0 : Nat) (a1 : Int32) (S0 : ZS) (q0 : c0 ≠ 0 ∧ rk S0.n c0) : ∀ u, kJ5_init_d00df c0 a1 S0 = some u → MVL E l yJ5_init_d00df cJ5_init_d00df 2 none 2 (fun ad => [.ref (rA E ad c0), .int a1]) S0 u := by
  intro u h
  unfold kJ5_init_d00df at h
  obtain ⟨hcw, h⟩ := chk_inv h
  refine ML2.of (by decide +kernel) (fun ad => Nat.le_of_ble_eq_true rfl) hcw ?_
  intro p e s m args below meth c ad F hF C hA hr hnm ls hl hG
  have C : Cx p s m args meth c cJ5_init_d00df 2 RJ5 E := C
  have hx := C.1
  have hb := C.2.1
  have hU : F.uc = (u).c ∧ F.uw = (u).w := ⟨hF.2.2.2.2.1, hF.2.2.2.2.2⟩
  have hl : lv_has ls 2 [(0, .ref (rA E ad c0)), (1, .int a1)] := hl
  obtain ⟨b0, h0, e0⟩ : ∃ b, RA E ad S0.n c0 b ∧ b = rA E ad c0 := ⟨_, RA.of q0.1 q0.2, rfl⟩
  rw [← e0] at hl
  refine lv_aload_n hx hb dJ5_init_d00df_0 rfl (lv_at hl 0 rfl) ?_
  refine r2_obj C hl.1 (mTBi 1509 (by decide +kernel) rfl) QOI QOC ⟨(Nat.le_of_ble_eq_true rfl), (Nat.le_of_ble_eq_true rfl)⟩ dJ5_init_d00df_1 ?_
  refine r2_gCS C hA hG FSJ5_18 dJ5_init_d00df_4 ?_
  refine lv_if_eq (tgt := 25) hx hb dJ5_init_d00df_7 (by decide) (fun c => absurd c (by decide)) (fun _ => ?_)
  refine lv_aload_n hx hb dJ5_init_d00df_10 rfl (lv_at hl 0 rfl) ?_
  refine lv_iload_n hx hb dJ5_init_d00df_11 rfl (lv_at hl 1 rfl) ?_
  refine r2_newB C hA hG LAAB dJ5_init_d00df_12 hU h (fun bc1 c1 H ad3 S2 cells slots hG hx9 h_c1 h => ?_)
  have h0 := h0.up hx9
  refine r2_pR C hG h0 h_c1.RV FQJ5_15 (Or.inl rfl) rfl rfl rfl dJ5_init_d00df_14 h (fun H locs S4 hG h => ?_)
  refine lv_aload_n hx hb dJ5_init_d00df_17 rfl (lv_at hl 0 rfl) ?_
  refine lv_iconst (v := 0) hx hb dJ5_init_d00df_18 (by decide) ?_
  refine r2_pI C hG h0 FQJ5_22 (Or.inl rfl) rfl (by decide) rfl dJ5_init_d00df_19 h (fun H locs S5 hG h => ?_)
  refine lv_goto (tgt := 38) hx hb dJ5_init_d00df_22 (by decide) ?_
  exact r2_vret C hF hG hr dJ5_init_d00df_38 h
def kJ4_init_da8c8 (c0 : Nat) (S0 : ZS) : Option (ZS) :=
  chk id S0 <|
  b1 id (kJ5_init_d00df c0 16 S0) fun S1 =>
  some S1
set_option maxRecDepth 100000 in
set_option maxHeartbeats 8000000 in
theorem mJ4_init_da8c8 (E : EV) (l : Launch) (c0 : Nat) (S0 : ZS) (q0 : c0 ≠ 0 ∧ rk S0.n c0) : ∀ u, kJ4_init_da8c8 c0 S0 = some u → MVL E l yJ4_init_da8c8 cJ4_init_da8c8 1 none 3 (fun ad => [.ref (rA E ad c0)]) S0 u := by
  intro u h
  unfold kJ4_init_da8c8 at h
  obtain ⟨hcw, h⟩ := chk_inv h
  refine ML2.of (by decide +kernel) (fun ad => Nat.le_of_ble_eq_true rfl) hcw ?_
  intro p e s m args below meth c ad F hF C hA hr hnm ls hl hG
  have C : Cx p s m args meth c cJ4_init_da8c8 1 RJ4 E := C
  have hx := C.1
  have hb := C.2.1
  have hU : F.uc = (u).c ∧ F.uw = (u).w := ⟨hF.2.2.2.2.1, hF.2.2.2.2.2⟩
  have hl : lv_has ls 1 [(0, .ref (rA E ad c0))] := hl
  obtain ⟨b0, h0, e0⟩ : ∃ b, RA E ad S0.n c0 b ∧ b = rA E ad c0 := ⟨_, RA.of q0.1 q0.2, rfl⟩
  rw [← e0] at hl
  refine lv_aload_n hx hb dJ4_init_da8c8_0 rfl (lv_at hl 0 rfl) ?_
  refine lv_bipush (v := 16) hx hb dJ4_init_da8c8_1 (by decide) ?_
  refine r2_cIV C hA hl.1 hG [.int 16] [] (mJ5_init_d00df E l c0 16 S0 (RAq hG h0)) (by rw [h0.1]) QLJ4_1 rfl (rm2 (by decide) (by decide)) (Nat.le_of_ble_eq_true rfl) rfl dJ4_init_da8c8_3 hU h (fun S1 H locs ad2 cells slots hG hx9 h => ?_)
  have h0 := h0.up hx9
  exact r2_vret C hF hG hr dJ4_init_da8c8_6 h
def kNJ0_coder_7d493 (c0 : Nat) (S0 : ZS) : Option (Int32 × ZS) :=
  chk Prod.snd S0 <|
  gI S0 c0 0 1 fun x1 =>
  zbL x1 S0
set_option maxRecDepth 100000 in
set_option maxHeartbeats 8000000 in
theorem mNJ0_coder_7d493 (E : EV) (l : Launch) (c0 : Nat) (S0 : ZS) (q0 : c0 ≠ 0 ∧ rk S0.n c0) : ∀ u, kNJ0_coder_7d493 c0 S0 = some u → MIL E l yJ0_coder_7d493 cJ0_coder_7d493 1 (Option.some Jvm.ClassFile.FieldType.byte) 1 (fun ad => [.ref (rA E ad c0)]) S0 u := by
  intro u h
  unfold kNJ0_coder_7d493 at h
  obtain ⟨hcw, h⟩ := chk_inv h
  refine ML2.of (by decide +kernel) (fun ad => Nat.le_of_ble_eq_true rfl) hcw ?_
  intro p e s m args below meth c ad F hF C hA hr hnm ls hl hG
  have C : Cx p s m args meth c cJ0_coder_7d493 1 RJ0 E := C
  have hx := C.1
  have hb := C.2.1
  have hU : F.uc = (u.2).c ∧ F.uw = (u.2).w := ⟨hF.2.2.2.2.1, hF.2.2.2.2.2⟩
  have hl : lv_has ls 1 [(0, .ref (rA E ad c0))] := hl
  obtain ⟨b0, h0, e0⟩ : ∃ b, RA E ad S0.n c0 b ∧ b = rA E ad c0 := ⟨_, RA.of q0.1 q0.2, rfl⟩
  rw [← e0] at hl
  refine r2_gCS C hA hG FSJ0_38 dJ0_coder_7d493_0 ?_
  refine lv_if_eq (tgt := 13) hx hb dJ0_coder_7d493_3 (by decide) (fun c => absurd c (by decide)) (fun _ => ?_)
  refine lv_aload_n hx hb dJ0_coder_7d493_6 rfl (lv_at hl 0 rfl) ?_
  refine r2_gI C hG h0 FQJ0_15 rfl dJ0_coder_7d493_7 h (fun x1 h => ?_)
  refine lv_goto (tgt := 14) hx hb dJ0_coder_7d493_10 (by decide) ?_
  exact r2_bret C hF hG hr dJ0_coder_7d493_14 h
def kNJ0_length_8abf5 (c0 : Nat) (S0 : ZS) : Option (Int32 × ZS) :=
  chk Prod.snd S0 <|
  gN S0 c0 0 0 fun c1 =>
  aL S0 c1 200000 fun x2 =>
  rcv S0 c0 0 <| b2 Prod.snd (kNJ0_coder_7d493 c0 S0) fun x5 S3 =>
  some ((x2 >>> (x5 &&& 31)), S3)
set_option maxRecDepth 100000 in
set_option maxHeartbeats 8000000 in
theorem mNJ0_length_8abf5 (E : EV) (l : Launch) (c0 : Nat) (S0 : ZS) (q0 : c0 ≠ 0 ∧ rk S0.n c0) : ∀ u, kNJ0_length_8abf5 c0 S0 = some u → MIL E l yJ0_length_8abf5 cJ0_length_8abf5 1 (Option.some Jvm.ClassFile.FieldType.int) 2 (fun ad => [.ref (rA E ad c0)]) S0 u := by
  intro u h
  unfold kNJ0_length_8abf5 at h
  obtain ⟨hcw, h⟩ := chk_inv h
  refine ML2.of (by decide +kernel) (fun ad => Nat.le_of_ble_eq_true rfl) hcw ?_
  intro p e s m args below meth c ad F hF C hA hr hnm ls hl hG
  have C : Cx p s m args meth c cJ0_length_8abf5 1 RJ0 E := C
  have hx := C.1
  have hb := C.2.1
  have hU : F.uc = (u.2).c ∧ F.uw = (u.2).w := ⟨hF.2.2.2.2.1, hF.2.2.2.2.2⟩
  have hl : lv_has ls 1 [(0, .ref (rA E ad c0))] := hl
  obtain ⟨b0, h0, e0⟩ : ∃ b, RA E ad S0.n c0 b ∧ b = rA E ad c0 := ⟨_, RA.of q0.1 q0.2, rfl⟩
  rw [← e0] at hl
  refine lv_aload_n hx hb dJ0_length_8abf5_0 rfl (lv_at hl 0 rfl) ?_
  refine r2_gN C hG h0 FQJ0_9 rfl dJ0_length_8abf5_1 h (fun c1 bc1 h_c1 h => ?_)
  refine r2_len C hG h_c1 200000 (Or.inr (Or.inl rfl)) dJ0_length_8abf5_4 h (fun x2 h => ?_)
  refine lv_aload_n hx hb dJ0_length_8abf5_5 rfl (lv_at hl 0 rfl) ?_
  refine r2_cVI C hA hl.1 hG h0 [] [.int x2] (mNJ0_coder_7d493 E l c0 S0 (RAq hG h0)) (by rw [h0.1]) QLJ0_335 KP0 rfl (rm2 (by decide) (by decide)) (Nat.le_of_ble_eq_true rfl) rfl dJ0_length_8abf5_6 hU h (fun x5 S3 H locs ad4 cells slots hG hx9 h => ?_)
  have h0 := h0.up hx9
  refine lv_ishr hx hb dJ0_length_8abf5_9 ?_
  exact r2_iret C hF hG hr rfl dJ0_length_8abf5_10 h
def kJ8_newLength_cabcc_21  (v0 : Int32) (v1 : Int32) (S : ZS) : Option (Int32 × ZS) :=
      none
def kJ8_newLength_cabcc (a0 : Int32) (a1 : Int32) (a2 : Int32) (S0 : ZS) : Option (Int32 × ZS) :=
  chk Prod.snd S0 <|
  bd (if a1 < a2 then a2 else a1) fun x1 =>
  bd (a0 + x1) fun x2 =>
  if x2 ≤ 0 then
    kJ8_newLength_cabcc_21 a0 a1 S0
  else
    if 2147483639 < x2 then
      kJ8_newLength_cabcc_21 a0 a1 S0
    else
      some (x2, S0)
set_option maxRecDepth 100000 in
set_option maxHeartbeats 8000000 in
theorem mJ8_newLength_cabcc (E : EV) (l : Launch) (a0 : Int32) (a1 : Int32) (a2 : Int32) (S0 : ZS) : ∀ u, kJ8_newLength_cabcc a0 a1 a2 S0 = some u → MIL E l yJ8_newLength_cabcc cJ8_newLength_cabcc 4 (Option.some Jvm.ClassFile.FieldType.int) 2 (fun ad => [.int a0, .int a1, .int a2]) S0 u := by
  intro u h
  unfold kJ8_newLength_cabcc at h
  obtain ⟨hcw, h⟩ := chk_inv h
  refine ML2.of (by decide +kernel) (fun ad => Nat.le_of_ble_eq_true rfl) hcw ?_
  intro p e s m args below meth c ad F hF C hA hr hnm ls hl hG
  have C : Cx p s m args meth c cJ8_newLength_cabcc 4 RJ8 E := C
  have hx := C.1
  have hb := C.2.1
  have hU : F.uc = (u.2).c ∧ F.uw = (u.2).w := ⟨hF.2.2.2.2.1, hF.2.2.2.2.2⟩
  have hl : lv_has ls 4 [(0, .int a0), (1, .int a1), (2, .int a2)] := hl
  have j21 : ∀ (v0 : Int32) (v1 : Int32) (S : ZS) (ad : Nat → Nat) (N : Nat) (H : Heap) (locs : List Loc) (ls : Array Slot) (cells slots : Nat), GL E s F H locs ad N S cells slots → lv_has ls 4 [(0, .int v0), (1, .int v1)] → kJ8_newLength_cabcc_21 v0 v1 S = some u → W p l e (F.R 2) s m args below meth c H locs cells slots (MQ below (QIL E s.heap.size F.ad S0 u) args s (F.c - F.uc) (F.w - F.uw) F.A) (F0 m 21 ls []) := by
    intro v0 v1 S ad N H locs ls cells slots hG hl h
    unfold kJ8_newLength_cabcc_21 at h
    refine lv_iload_n hx hb dJ8_newLength_cabcc_21 rfl (lv_at hl 0 rfl) ?_
    refine lv_iload_n hx hb dJ8_newLength_cabcc_22 rfl (lv_at hl 1 rfl) ?_
    cases h
  refine lv_iload_n hx hb dJ8_newLength_cabcc_0 rfl (lv_at hl 0 rfl) ?_
  refine lv_iload_n hx hb dJ8_newLength_cabcc_1 rfl (lv_at hl 1 rfl) ?_
  refine lv_iload_n hx hb dJ8_newLength_cabcc_2 rfl (lv_at hl 2 rfl) ?_
  refine r_max C hl.1 QLJ8_194 ⟨(Nat.le_of_ble_eq_true rfl), (Nat.le_of_ble_eq_true rfl), (GLr hG).1, (GLr hG).2⟩ dJ8_newLength_cabcc_3 ?_
  refine r_nm h (fun x1 h => ?_)
  refine lv_iadd hx hb dJ8_newLength_cabcc_6 ?_
  refine r_nm h (fun x2 h => ?_)
  refine lv_istore_n (lv' := [(3, .int x2), (0, .int a0), (1, .int a1), (2, .int a2)]) hx hb dJ8_newLength_cabcc_7 rfl hl (by decide) rfl (fun ls hl => ?_)
  refine lv_iconst (v := 0) hx hb dJ8_newLength_cabcc_8 (by decide) ?_
  refine lv_iload_n hx hb dJ8_newLength_cabcc_9 rfl (lv_at hl 0 rfl) ?_
  refine lv_icmp_ge (tgt := 21) hx hb dJ8_newLength_cabcc_10 (by decide) (fun g3 => ?_) (fun g3 => ?_)
  · have h := (if_inv h).1 g3
    exact j21 a0 a1 S0 _ _ _ _ _ _ _ hG (lv_sub hl [1, 2] rfl) h
  · have h := (if_inv h).2 g3
    refine lv_iload_n hx hb dJ8_newLength_cabcc_13 rfl (lv_at hl 0 rfl) ?_
    refine lv_ldc (v := 2147483639) hx hb C.2.2.2.1 (C.2.2.2.2.1 _ LQJ8_200) dJ8_newLength_cabcc_14 ?_
    refine lv_icmp_gt (tgt := 21) hx hb dJ8_newLength_cabcc_16 (by decide) (fun g4 => ?_) (fun g4 => ?_)
    · have h := (if_inv h).1 g4
      exact j21 a0 a1 S0 _ _ _ _ _ _ _ hG (lv_sub hl [1, 2] rfl) h
    · have h := (if_inv h).2 g4
      refine lv_iload_n hx hb dJ8_newLength_cabcc_19 rfl (lv_at hl 0 rfl) ?_
      exact r2_iret C hF hG hr rfl dJ8_newLength_cabcc_20 h
def kJ5_newCapacity_0f7a4 (c0 : Nat) (a1 : Int32) (S0 : ZS) : Option (Int32 × ZS) :=
  chk Prod.snd S0 <|
  gN S0 c0 1 0 fun c1 =>
  aL S0 c1 200000 fun x2 =>
  gI S0 c0 1 1 fun x3 =>
  bd (a1 <<< (x3 &&& 31)) fun x4 =>
  bd (x4 - x2) fun x5 =>
  gI S0 c0 1 1 fun x6 =>
  b2 Prod.snd (kJ8_newLength_cabcc x2 x5 (x2 + (2 <<< (x6 &&& 31))) S0) fun x9 S7 =>
  if x9 = 2147483647 then
    none
  else
    gI S7 c0 1 1 fun x11 =>
    some ((x9 >>> (x11 &&& 31)), S7)
set_option maxRecDepth 100000 in
set_option maxHeartbeats 8000000 in
theorem mJ5_newCapacity_0f7a4 (E : EV) (l : Launch) (c0 : Nat) (a1 : Int32) (S0 : ZS) (q0 : c0 ≠ 0 ∧ rk S0.n c0) : ∀ u, kJ5_newCapacity_0f7a4 c0 a1 S0 = some u → MIL E l yJ5_newCapacity_0f7a4 cJ5_newCapacity_0f7a4 6 (Option.some Jvm.ClassFile.FieldType.int) 3 (fun ad => [.ref (rA E ad c0), .int a1]) S0 u := by
  intro u h
  unfold kJ5_newCapacity_0f7a4 at h
  obtain ⟨hcw, h⟩ := chk_inv h
  refine ML2.of (by decide +kernel) (fun ad => Nat.le_of_ble_eq_true rfl) hcw ?_
  intro p e s m args below meth c ad F hF C hA hr hnm ls hl hG
  have C : Cx p s m args meth c cJ5_newCapacity_0f7a4 6 RJ5 E := C
  have hx := C.1
  have hb := C.2.1
  have hU : F.uc = (u.2).c ∧ F.uw = (u.2).w := ⟨hF.2.2.2.2.1, hF.2.2.2.2.2⟩
  have hl : lv_has ls 6 [(0, .ref (rA E ad c0)), (1, .int a1)] := hl
  obtain ⟨b0, h0, e0⟩ : ∃ b, RA E ad S0.n c0 b ∧ b = rA E ad c0 := ⟨_, RA.of q0.1 q0.2, rfl⟩
  rw [← e0] at hl
  refine lv_aload_n hx hb dJ5_newCapacity_0f7a4_0 rfl (lv_at hl 0 rfl) ?_
  refine r2_gN C hG h0 FQJ5_15 rfl dJ5_newCapacity_0f7a4_1 h (fun c1 bc1 h_c1 h => ?_)
  refine r2_len C hG h_c1 200000 (Or.inr (Or.inl rfl)) dJ5_newCapacity_0f7a4_4 h (fun x2 h => ?_)
  refine lv_istore_n (lv' := [(2, .int x2), (0, .ref b0), (1, .int a1)]) hx hb dJ5_newCapacity_0f7a4_5 rfl hl (by decide) rfl (fun ls hl => ?_)
  refine lv_iload_n hx hb dJ5_newCapacity_0f7a4_6 rfl (lv_at hl 2 rfl) ?_
  refine lv_aload_n hx hb dJ5_newCapacity_0f7a4_7 rfl (lv_at hl 1 rfl) ?_
  refine r2_gI C hG h0 FQJ5_22 rfl dJ5_newCapacity_0f7a4_8 h (fun x3 h => ?_)
  refine lv_ishl hx hb dJ5_newCapacity_0f7a4_11 ?_
  refine r_nm h (fun x4 h => ?_)
  refine lv_istore_n (lv' := [(3, .int x4), (2, .int x2), (0, .ref b0), (1, .int a1)]) hx hb dJ5_newCapacity_0f7a4_12 rfl hl (by decide) rfl (fun ls hl => ?_)
  refine lv_iload_n hx hb dJ5_newCapacity_0f7a4_13 rfl (lv_at hl 0 rfl) ?_
  refine lv_iload_n hx hb dJ5_newCapacity_0f7a4_14 rfl (lv_at hl 1 rfl) ?_
  refine lv_isub hx hb dJ5_newCapacity_0f7a4_15 ?_
  refine r_nm h (fun x5 h => ?_)
  refine lv_istore (lv' := [(4, .int x5), (3, .int x4), (2, .int x2), (0, .ref b0), (1, .int a1)]) hx hb dJ5_newCapacity_0f7a4_16 hl (by decide) rfl (fun ls hl => ?_)
  refine lv_iload_n hx hb dJ5_newCapacity_0f7a4_18 rfl (lv_at hl 2 rfl) ?_
  refine lv_iload hx hb dJ5_newCapacity_0f7a4_19 (lv_at hl 0 rfl) ?_
  refine lv_iload_n hx hb dJ5_newCapacity_0f7a4_21 rfl (lv_at hl 2 rfl) ?_
  refine lv_iconst (v := 2) hx hb dJ5_newCapacity_0f7a4_22 (by decide) ?_
  refine lv_aload_n hx hb dJ5_newCapacity_0f7a4_23 rfl (lv_at hl 3 rfl) ?_
  refine r2_gI C hG h0 FQJ5_22 rfl dJ5_newCapacity_0f7a4_24 h (fun x6 h => ?_)
  refine lv_ishl hx hb dJ5_newCapacity_0f7a4_27 ?_
  refine lv_iadd hx hb dJ5_newCapacity_0f7a4_28 ?_
  refine r2_cSI C hA hl.1 hG [.int x2, .int x5, .int (x2 + (2 <<< (x6 &&& 31)))] [] (mJ8_newLength_cabcc E l x2 x5 (x2 + (2 <<< (x6 &&& 31))) S0) rfl QLJ5_114 rfl (rm2 (by decide) (by decide)) (Nat.le_of_ble_eq_true rfl) rfl dJ5_newCapacity_0f7a4_29 hU h (fun x9 S7 H locs ad8 cells slots hG hx9 h => ?_)
  have h0 := h0.up hx9
  refine lv_istore (lv' := [(5, .int x9), (4, .int x5), (3, .int x4), (2, .int x2), (0, .ref b0), (1, .int a1)]) hx hb dJ5_newCapacity_0f7a4_32 hl (by decide) rfl (fun ls hl => ?_)
  refine lv_iload hx hb dJ5_newCapacity_0f7a4_34 (lv_at hl 0 rfl) ?_
  refine lv_ldc (v := 2147483647) hx hb C.2.2.2.1 (C.2.2.2.2.1 _ LQJ5_39) dJ5_newCapacity_0f7a4_36 ?_
  refine lv_icmp_ne (tgt := 51) hx hb dJ5_newCapacity_0f7a4_38 (by decide) (fun g10 => ?_) (fun g10 => ?_)
  · have h := (if_inv h).2 g10
    refine lv_iload hx hb dJ5_newCapacity_0f7a4_51 (lv_at hl 0 rfl) ?_
    refine lv_aload_n hx hb dJ5_newCapacity_0f7a4_53 rfl (lv_at hl 4 rfl) ?_
    refine r2_gI C hG h0 FQJ5_22 rfl dJ5_newCapacity_0f7a4_54 h (fun x11 h => ?_)
    refine lv_ishr hx hb dJ5_newCapacity_0f7a4_57 ?_
    exact r2_iret C hF hG hr rfl dJ5_newCapacity_0f7a4_58 h
  · have h := (if_inv h).1 g10
    cases h
def kJ7_copyOf_9075b (c0 : Nat) (a1 : Int32) (S0 : ZS) : Option (Nat × ZS) :=
  chk Prod.snd S0 <|
  aL S0 c0 200000 fun x1 =>
  if a1 = x1 then
    clB Prod.snd S0 c0 fun c9 S10 =>
    ckA S10 c9 200000 <|
    some (c9, S10)
  else
    nA Prod.snd S0 200000 a1 fun c3 S4 =>
    aL S4 c0 200000 fun x6 =>
    bd (if a1 < x6 then a1 else x6) fun x7 =>
    cpB S4 c0 0 c3 0 x7 fun S8 =>
    some (c3, S8)
set_option maxRecDepth 100000 in
set_option maxHeartbeats 8000000 in
theorem mJ7_copyOf_9075b (E : EV) (l : Launch) (c0 : Nat) (a1 : Int32) (S0 : ZS) (q0 : c0 ≠ 0 ∧ rk S0.n c0) : ∀ u, kJ7_copyOf_9075b c0 a1 S0 = some u → MRL E l yJ7_copyOf_9075b cJ7_copyOf_9075b 3 (Option.some (Jvm.ClassFile.FieldType.array Jvm.ClassFile.FieldType.byte)) 2 (fun ad => [.ref (rA E ad c0), .int a1]) S0 u := by
  intro u h
  unfold kJ7_copyOf_9075b at h
  obtain ⟨hcw, h⟩ := chk_inv h
  refine ML2.of (by decide +kernel) (fun ad => Nat.le_of_ble_eq_true rfl) hcw ?_
  intro p e s m args below meth c ad F hF C hA hr hnm ls hl hG
  have C : Cx p s m args meth c cJ7_copyOf_9075b 3 RJ7 E := C
  have hx := C.1
  have hb := C.2.1
  have hU : F.uc = (u.2).c ∧ F.uw = (u.2).w := ⟨hF.2.2.2.2.1, hF.2.2.2.2.2⟩
  have hl : lv_has ls 3 [(0, .ref (rA E ad c0)), (1, .int a1)] := hl
  obtain ⟨b0, h0, e0⟩ : ∃ b, RA E ad S0.n c0 b ∧ b = rA E ad c0 := ⟨_, RA.of q0.1 q0.2, rfl⟩
  rw [← e0] at hl
  refine lv_iload_n hx hb dJ7_copyOf_9075b_0 rfl (lv_at hl 1 rfl) ?_
  refine lv_aload_n hx hb dJ7_copyOf_9075b_1 rfl (lv_at hl 0 rfl) ?_
  refine r2_len C hG h0 200000 (Or.inr (Or.inl rfl)) dJ7_copyOf_9075b_2 h (fun x1 h => ?_)
  refine lv_icmp_ne (tgt := 14) hx hb dJ7_copyOf_9075b_3 (by decide) (fun g2 => ?_) (fun g2 => ?_)
  · have h := (if_inv h).2 g2
    refine lv_iload_n hx hb dJ7_copyOf_9075b_14 rfl (lv_at hl 1 rfl) ?_
    refine r2_newB C hA hG LAAB dJ7_copyOf_9075b_15 hU h (fun bc3 c3 H ad5 S4 cells slots hG hx9 h_c3 h => ?_)
    have h0 := h0.up hx9
    refine lv_astore_n (lv' := [(2, .ref bc3), (0, .ref b0), (1, .int a1)]) hx hb dJ7_copyOf_9075b_17 rfl hl (by decide) rfl (fun ls hl => ?_)
    refine lv_aload_n hx hb dJ7_copyOf_9075b_18 rfl (lv_at hl 1 rfl) ?_
    refine lv_iconst (v := 0) hx hb dJ7_copyOf_9075b_19 (by decide) ?_
    refine lv_aload_n hx hb dJ7_copyOf_9075b_20 rfl (lv_at hl 0 rfl) ?_
    refine lv_iconst (v := 0) hx hb dJ7_copyOf_9075b_21 (by decide) ?_
    refine lv_aload_n hx hb dJ7_copyOf_9075b_22 rfl (lv_at hl 1 rfl) ?_
    refine r2_len C hG h0 200000 (Or.inr (Or.inl rfl)) dJ7_copyOf_9075b_23 h (fun x6 h => ?_)
    refine lv_iload_n hx hb dJ7_copyOf_9075b_24 rfl (lv_at hl 2 rfl) ?_
    refine r_min C hl.1 QLJ7_304 ⟨(Nat.le_of_ble_eq_true rfl), (Nat.le_of_ble_eq_true rfl), (GLr hG).1, (GLr hG).2⟩ dJ7_copyOf_9075b_25 ?_
    refine r_nm h (fun x7 h => ?_)
    refine r2_cpB C hl.1 hG QLJ7_150 h0 h_c3 ⟨(Nat.le_of_ble_eq_true rfl), (by show _ ≤ 60 * 2; decide +kernel)⟩ dJ7_copyOf_9075b_28 h (fun H locs S8 hG h => ?_)
    refine lv_aload_n hx hb dJ7_copyOf_9075b_31 rfl (lv_at hl 0 rfl) ?_
    exact r2_aret C hF hG h_c3 (Or.inr ⟨_, rfl⟩) hr dJ7_copyOf_9075b_32 h
  · have h := (if_inv h).1 g2
    refine lv_aload_n hx hb dJ7_copyOf_9075b_6 rfl (lv_at hl 0 rfl) ?_
    refine r2_clone C hA hl.1 hG h0 (mTBi 1344 (by decide +kernel) rfl) (mTBi 1345 (by decide +kernel) rfl) (mTBi 1346 (by decide +kernel) rfl) (mTBi 1347 (by decide +kernel) rfl) (mTBi 1348 (by decide +kernel) rfl) (mNBi 1310 (by decide +kernel) rfl) ⟨(Nat.le_of_ble_eq_true rfl), (Nat.le_of_ble_eq_true rfl)⟩ dJ7_copyOf_9075b_7 hU h (fun bc9 c9 H ad11 S10 cells slots hG hx9 h_c9 h => ?_)
    have h0 := h0.up hx9
    refine r2_castB C hG h_c9 LKBJ7_311 dJ7_copyOf_9075b_10 h (fun h => ?_)
    exact r2_aret C hF hG h_c9 (Or.inr ⟨_, rfl⟩) hr dJ7_copyOf_9075b_13 h
def kJ5_ensureCapacityInternal_d00df (c0 : Nat) (a1 : Int32) (S0 : ZS) : Option (ZS) :=
  chk id S0 <|
  gN S0 c0 1 0 fun c1 =>
  aL S0 c1 200000 fun x2 =>
  gI S0 c0 1 1 fun x3 =>
  bd (x2 >>> (x3 &&& 31)) fun x4 =>
  if (a1 - x4) ≤ 0 then
    some S0
  else
    gN S0 c0 1 0 fun c6 =>
    rcv S0 c0 1 <| b2 id (kJ5_newCapacity_0f7a4 c0 a1 S0) fun x9 S7 =>
    gI S7 c0 1 1 fun x10 =>
    b2 id (kJ7_copyOf_9075b c6 (x9 <<< (x10 &&& 31)) S7) fun c13 S11 =>
    pR S11 c0 1 0 c13 fun S14 =>
    some S14
set_option maxRecDepth 100000 in
set_option maxHeartbeats 8000000 in
theorem mJ5_ensureCapacityInternal_d00df (E : EV) (l : Launch) (c0 : Nat) (a1 : Int32) (S0 : ZS) (q0 : c0 ≠ 0 ∧ rk S0.n c0) : ∀ u, kJ5_ensureCapacityInternal_d00df c0 a1 S0 = some u → MVL E l yJ5_ensureCapacityInternal_d00df cJ5_ensureCapacityInternal_d00df 3 none 4 (fun ad => [.ref (rA E ad c0), .int a1]) S0 u := by
  intro u h
  unfold kJ5_ensureCapacityInternal_d00df at h
  obtain ⟨hcw, h⟩ := chk_inv h
  refine ML2.of (by decide +kernel) (fun ad => Nat.le_of_ble_eq_true rfl) hcw ?_
  intro p e s m args below meth c ad F hF C hA hr hnm ls hl hG
  have C : Cx p s m args meth c cJ5_ensureCapacityInternal_d00df 3 RJ5 E := C
  have hx := C.1
  have hb := C.2.1
  have hU : F.uc = (u).c ∧ F.uw = (u).w := ⟨hF.2.2.2.2.1, hF.2.2.2.2.2⟩
  have hl : lv_has ls 3 [(0, .ref (rA E ad c0)), (1, .int a1)] := hl
  obtain ⟨b0, h0, e0⟩ : ∃ b, RA E ad S0.n c0 b ∧ b = rA E ad c0 := ⟨_, RA.of q0.1 q0.2, rfl⟩
  rw [← e0] at hl
  refine lv_aload_n hx hb dJ5_ensureCapacityInternal_d00df_0 rfl (lv_at hl 0 rfl) ?_
  refine r2_gN C hG h0 FQJ5_15 rfl dJ5_ensureCapacityInternal_d00df_1 h (fun c1 bc1 h_c1 h => ?_)
  refine r2_len C hG h_c1 200000 (Or.inr (Or.inl rfl)) dJ5_ensureCapacityInternal_d00df_4 h (fun x2 h => ?_)
  refine lv_aload_n hx hb dJ5_ensureCapacityInternal_d00df_5 rfl (lv_at hl 0 rfl) ?_
  refine r2_gI C hG h0 FQJ5_22 rfl dJ5_ensureCapacityInternal_d00df_6 h (fun x3 h => ?_)
  refine lv_ishr hx hb dJ5_ensureCapacityInternal_d00df_9 ?_
  refine r_nm h (fun x4 h => ?_)
  refine lv_istore_n (lv' := [(2, .int x4), (0, .ref b0), (1, .int a1)]) hx hb dJ5_ensureCapacityInternal_d00df_10 rfl hl (by decide) rfl (fun ls hl => ?_)
  refine lv_iload_n hx hb dJ5_ensureCapacityInternal_d00df_11 rfl (lv_at hl 2 rfl) ?_
  refine lv_iload_n hx hb dJ5_ensureCapacityInternal_d00df_12 rfl (lv_at hl 0 rfl) ?_
  refine lv_isub hx hb dJ5_ensureCapacityInternal_d00df_13 ?_
  refine lv_if_le (tgt := 38) hx hb dJ5_ensureCapacityInternal_d00df_14 (by decide) (fun g5 => ?_) (fun g5 => ?_)
  · have h := (if_inv h).1 g5
    exact r2_vret C hF hG hr dJ5_ensureCapacityInternal_d00df_38 h
  · have h := (if_inv h).2 g5
    refine lv_aload_n hx hb dJ5_ensureCapacityInternal_d00df_17 rfl (lv_at hl 1 rfl) ?_
    refine lv_aload_n hx hb dJ5_ensureCapacityInternal_d00df_18 rfl (lv_at hl 1 rfl) ?_
    refine r2_gN C hG h0 FQJ5_15 rfl dJ5_ensureCapacityInternal_d00df_19 h (fun c6 bc6 h_c6 h => ?_)
    refine lv_aload_n hx hb dJ5_ensureCapacityInternal_d00df_22 rfl (lv_at hl 1 rfl) ?_
    refine lv_iload_n hx hb dJ5_ensureCapacityInternal_d00df_23 rfl (lv_at hl 2 rfl) ?_
    refine r2_cUI C hA hl.1 hG h0 [.int a1] [.ref bc6, .ref b0] (mJ5_newCapacity_0f7a4 E l c0 a1 S0 (RAq hG h0)) (by rw [h0.1]) QLJ5_104 rfl (rm2 (by decide) (by decide)) (Nat.le_of_ble_eq_true rfl) rfl dJ5_ensureCapacityInternal_d00df_24 hU h (fun x9 S7 H locs ad8 cells slots hG hx9 h => ?_)
    have h0 := h0.up hx9
    have h_c6 := h_c6.up hx9
    refine lv_aload_n hx hb dJ5_ensureCapacityInternal_d00df_27 rfl (lv_at hl 1 rfl) ?_
    refine r2_gI C hG h0 FQJ5_22 rfl dJ5_ensureCapacityInternal_d00df_28 h (fun x10 h => ?_)
    refine lv_ishl hx hb dJ5_ensureCapacityInternal_d00df_31 ?_
    refine r2_cSR C hA hl.1 hG [.ref bc6, .int (x9 <<< (x10 &&& 31))] [.ref b0] (mJ7_copyOf_9075b E l c6 (x9 <<< (x10 &&& 31)) S7 (RAq hG h_c6)) (by rw [h_c6.1]) QLJ5_108 rfl (rm2 (by decide) (by decide)) (Nat.le_of_ble_eq_true rfl) rfl dJ5_ensureCapacityInternal_d00df_32 hU h (fun bc13 c13 S11 H locs ad12 cells slots hG hx9 h_c13 h => ?_)
    have h0 := h0.up hx9
    refine r2_pR C hG h0 h_c13.RV FQJ5_15 (Or.inl rfl) rfl rfl rfl dJ5_ensureCapacityInternal_d00df_35 h (fun H locs S14 hG h => ?_)
    exact r2_vret C hF hG hr dJ5_ensureCapacityInternal_d00df_38 h
def kNJ0_getBytes_840e7 (c0 : Nat) (c1 : Nat) (a2 : Int32) (a3 : Int32) (S0 : ZS) : Option (ZS) :=
  chk id S0 <|
  rcv S0 c0 0 <| b2 id (kNJ0_coder_7d493 c0 S0) fun x3 S1 =>
  if x3 = a3 then
    gN S1 c0 0 0 fun c8 =>
    gN S1 c0 0 0 fun c9 =>
    aL S1 c9 200000 fun x10 =>
    cpB S1 c8 0 c1 (a2 <<< (a3 &&& 31)) x10 fun S11 =>
    some S11
  else
    gN S1 c0 0 0 fun c5 =>
    gN S1 c0 0 0 fun c6 =>
    aL S1 c6 200000 fun x7 =>
    none
set_option maxRecDepth 100000 in
set_option maxHeartbeats 8000000 in
theorem mNJ0_getBytes_840e7 (E : EV) (l : Launch) (c0 : Nat) (c1 : Nat) (a2 : Int32) (a3 : Int32) (S0 : ZS) (q0 : c0 ≠ 0 ∧ rk S0.n c0) (q1 : c1 ≠ 0 ∧ rk S0.n c1) : ∀ u, kNJ0_getBytes_840e7 c0 c1 a2 a3 S0 = some u → MVL E l yJ0_getBytes_840e7 cJ0_getBytes_840e7 4 none 2 (fun ad => [.ref (rA E ad c0), .ref (rA E ad c1), .int a2, .int a3]) S0 u := by
  intro u h
  unfold kNJ0_getBytes_840e7 at h
  obtain ⟨hcw, h⟩ := chk_inv h
  refine ML2.of (by decide +kernel) (fun ad => Nat.le_of_ble_eq_true rfl) hcw ?_
  intro p e s m args below meth c ad F hF C hA hr hnm ls hl hG
  have C : Cx p s m args meth c cJ0_getBytes_840e7 4 RJ0 E := C
  have hx := C.1
  have hb := C.2.1
  have hU : F.uc = (u).c ∧ F.uw = (u).w := ⟨hF.2.2.2.2.1, hF.2.2.2.2.2⟩
  have hl : lv_has ls 4 [(0, .ref (rA E ad c0)), (1, .ref (rA E ad c1)), (2, .int a2), (3, .int a3)] := hl
  obtain ⟨b0, h0, e0⟩ : ∃ b, RA E ad S0.n c0 b ∧ b = rA E ad c0 := ⟨_, RA.of q0.1 q0.2, rfl⟩
  rw [← e0] at hl
  obtain ⟨b1, h1, e1⟩ : ∃ b, RA E ad S0.n c1 b ∧ b = rA E ad c1 := ⟨_, RA.of q1.1 q1.2, rfl⟩
  rw [← e1] at hl
  refine lv_aload_n hx hb dJ0_getBytes_840e7_0 rfl (lv_at hl 0 rfl) ?_
  refine r2_cVI C hA hl.1 hG h0 [] [] (mNJ0_coder_7d493 E l c0 S0 (RAq hG h0)) (by rw [h0.1]) QLJ0_335 KP0 rfl (rm2 (by decide) (by decide)) (Nat.le_of_ble_eq_true rfl) rfl dJ0_getBytes_840e7_1 hU h (fun x3 S1 H locs ad2 cells slots hG hx9 h => ?_)
  have h0 := h0.up hx9
  have h1 := h1.up hx9
  refine lv_iload_n hx hb dJ0_getBytes_840e7_4 rfl (lv_at hl 3 rfl) ?_
  refine lv_icmp_ne (tgt := 28) hx hb dJ0_getBytes_840e7_5 (by decide) (fun g4 => ?_) (fun g4 => ?_)
  · have h := (if_inv h).2 g4
    refine lv_aload_n hx hb dJ0_getBytes_840e7_28 rfl (lv_at hl 0 rfl) ?_
    refine r2_gN C hG h0 FQJ0_9 rfl dJ0_getBytes_840e7_29 h (fun c5 bc5 h_c5 h => ?_)
    refine lv_iconst (v := 0) hx hb dJ0_getBytes_840e7_32 (by decide) ?_
    refine lv_aload_n hx hb dJ0_getBytes_840e7_33 rfl (lv_at hl 1 rfl) ?_
    refine lv_iload_n hx hb dJ0_getBytes_840e7_34 rfl (lv_at hl 2 rfl) ?_
    refine lv_aload_n hx hb dJ0_getBytes_840e7_35 rfl (lv_at hl 0 rfl) ?_
    refine r2_gN C hG h0 FQJ0_9 rfl dJ0_getBytes_840e7_36 h (fun c6 bc6 h_c6 h => ?_)
    refine r2_len C hG h_c6 200000 (Or.inr (Or.inl rfl)) dJ0_getBytes_840e7_39 h (fun x7 h => ?_)
    cases h
  · have h := (if_inv h).1 g4
    refine lv_aload_n hx hb dJ0_getBytes_840e7_8 rfl (lv_at hl 0 rfl) ?_
    refine r2_gN C hG h0 FQJ0_9 rfl dJ0_getBytes_840e7_9 h (fun c8 bc8 h_c8 h => ?_)
    refine lv_iconst (v := 0) hx hb dJ0_getBytes_840e7_12 (by decide) ?_
    refine lv_aload_n hx hb dJ0_getBytes_840e7_13 rfl (lv_at hl 1 rfl) ?_
    refine lv_iload_n hx hb dJ0_getBytes_840e7_14 rfl (lv_at hl 2 rfl) ?_
    refine lv_iload_n hx hb dJ0_getBytes_840e7_15 rfl (lv_at hl 3 rfl) ?_
    refine lv_ishl hx hb dJ0_getBytes_840e7_16 ?_
    refine lv_aload_n hx hb dJ0_getBytes_840e7_17 rfl (lv_at hl 0 rfl) ?_
    refine r2_gN C hG h0 FQJ0_9 rfl dJ0_getBytes_840e7_18 h (fun c9 bc9 h_c9 h => ?_)
    refine r2_len C hG h_c9 200000 (Or.inr (Or.inl rfl)) dJ0_getBytes_840e7_21 h (fun x10 h => ?_)
    refine r2_cpB C hl.1 hG QLJ0_212 h_c8 h1 ⟨(Nat.le_of_ble_eq_true rfl), (by show _ ≤ 60 * 2; decide +kernel)⟩ dJ0_getBytes_840e7_22 h (fun H locs S11 hG h => ?_)
    refine lv_goto (tgt := 43) hx hb dJ0_getBytes_840e7_25 (by decide) ?_
    exact r2_vret C hF hG hr dJ0_getBytes_840e7_43 h
def kJ5_inflateIfNeededFor_a7421 (c0 : Nat) (c1 : Nat) (S0 : ZS) : Option (ZS) :=
  chk id S0 <|
  gI S0 c0 1 1 fun x1 =>
  rcv S0 c1 0 <| b2 id (kNJ0_coder_7d493 c1 S0) fun x4 S2 =>
  if x1 = x4 then
    some S2
  else
    none
set_option maxRecDepth 100000 in
set_option maxHeartbeats 8000000 in
theorem mJ5_inflateIfNeededFor_a7421 (E : EV) (l : Launch) (c0 : Nat) (c1 : Nat) (S0 : ZS) (q0 : c0 ≠ 0 ∧ rk S0.n c0) (q1 : c1 ≠ 0 ∧ rk S0.n c1) : ∀ u, kJ5_inflateIfNeededFor_a7421 c0 c1 S0 = some u → MVL E l yJ5_inflateIfNeededFor_a7421 cJ5_inflateIfNeededFor_a7421 2 none 2 (fun ad => [.ref (rA E ad c0), .ref (rA E ad c1)]) S0 u := by
  intro u h
  unfold kJ5_inflateIfNeededFor_a7421 at h
  obtain ⟨hcw, h⟩ := chk_inv h
  refine ML2.of (by decide +kernel) (fun ad => Nat.le_of_ble_eq_true rfl) hcw ?_
  intro p e s m args below meth c ad F hF C hA hr hnm ls hl hG
  have C : Cx p s m args meth c cJ5_inflateIfNeededFor_a7421 2 RJ5 E := C
  have hx := C.1
  have hb := C.2.1
  have hU : F.uc = (u).c ∧ F.uw = (u).w := ⟨hF.2.2.2.2.1, hF.2.2.2.2.2⟩
  have hl : lv_has ls 2 [(0, .ref (rA E ad c0)), (1, .ref (rA E ad c1))] := hl
  obtain ⟨b0, h0, e0⟩ : ∃ b, RA E ad S0.n c0 b ∧ b = rA E ad c0 := ⟨_, RA.of q0.1 q0.2, rfl⟩
  rw [← e0] at hl
  obtain ⟨b1, h1, e1⟩ : ∃ b, RA E ad S0.n c1 b ∧ b = rA E ad c1 := ⟨_, RA.of q1.1 q1.2, rfl⟩
  rw [← e1] at hl
  refine r2_gCS C hA hG FSJ5_18 dJ5_inflateIfNeededFor_a7421_0 ?_
  refine lv_if_eq (tgt := 21) hx hb dJ5_inflateIfNeededFor_a7421_3 (by decide) (fun c => absurd c (by decide)) (fun _ => ?_)
  refine lv_aload_n hx hb dJ5_inflateIfNeededFor_a7421_6 rfl (lv_at hl 0 rfl) ?_
  refine r2_gI C hG h0 FQJ5_22 rfl dJ5_inflateIfNeededFor_a7421_7 h (fun x1 h => ?_)
  refine lv_aload_n hx hb dJ5_inflateIfNeededFor_a7421_10 rfl (lv_at hl 1 rfl) ?_
  refine r2_cVI C hA hl.1 hG h1 [] [.int x1] (mNJ0_coder_7d493 E l c1 S0 (RAq hG h1)) (by rw [h1.1]) QLJ5_40 KP0 rfl (rm2 (by decide) (by decide)) (Nat.le_of_ble_eq_true rfl) rfl dJ5_inflateIfNeededFor_a7421_11 hU h (fun x4 S2 H locs ad3 cells slots hG hx9 h => ?_)
  have h0 := h0.up hx9
  have h1 := h1.up hx9
  refine lv_icmp_eq (tgt := 21) hx hb dJ5_inflateIfNeededFor_a7421_14 (by decide) (fun g5 => ?_) (fun g5 => ?_)
  · have h := (if_inv h).1 g5
    exact r2_vret C hF hG hr dJ5_inflateIfNeededFor_a7421_21 h
  · have h := (if_inv h).2 g5
    refine lv_aload_n hx hb dJ5_inflateIfNeededFor_a7421_17 rfl (lv_at hl 0 rfl) ?_
    cases h
def kJ5_putStringAt_47b60 (c0 : Nat) (a1 : Int32) (c2 : Nat) (S0 : ZS) : Option (ZS) :=
  chk id S0 <|
  rcv S0 c0 1 <| b1 id (kJ5_inflateIfNeededFor_a7421 c0 c2 S0) fun S1 =>
  gN S1 c0 1 0 fun c3 =>
  gI S1 c0 1 1 fun x4 =>
  rcv S1 c2 0 <| b1 id (kNJ0_getBytes_840e7 c2 c3 a1 x4 S1) fun S5 =>
  some S5
set_option maxRecDepth 100000 in
set_option maxHeartbeats 8000000 in
theorem mJ5_putStringAt_47b60 (E : EV) (l : Launch) (c0 : Nat) (a1 : Int32) (c2 : Nat) (S0 : ZS) (q0 : c0 ≠ 0 ∧ rk S0.n c0) (q2 : c2 ≠ 0 ∧ rk S0.n c2) : ∀ u, kJ5_putStringAt_47b60 c0 a1 c2 S0 = some u → MVL E l yJ5_putStringAt_47b60 cJ5_putStringAt_47b60 3 none 3 (fun ad => [.ref (rA E ad c0), .int a1, .ref (rA E ad c2)]) S0 u := by
  intro u h
  unfold kJ5_putStringAt_47b60 at h
  obtain ⟨hcw, h⟩ := chk_inv h
  refine ML2.of (by decide +kernel) (fun ad => Nat.le_of_ble_eq_true rfl) hcw ?_
  intro p e s m args below meth c ad F hF C hA hr hnm ls hl hG
  have C : Cx p s m args meth c cJ5_putStringAt_47b60 3 RJ5 E := C
  have hx := C.1
  have hb := C.2.1
  have hU : F.uc = (u).c ∧ F.uw = (u).w := ⟨hF.2.2.2.2.1, hF.2.2.2.2.2⟩
  have hl : lv_has ls 3 [(0, .ref (rA E ad c0)), (1, .int a1), (2, .ref (rA E ad c2))] := hl
  obtain ⟨b0, h0, e0⟩ : ∃ b, RA E ad S0.n c0 b ∧ b = rA E ad c0 := ⟨_, RA.of q0.1 q0.2, rfl⟩
  rw [← e0] at hl
  obtain ⟨b2, h2, e2⟩ : ∃ b, RA E ad S0.n c2 b ∧ b = rA E ad c2 := ⟨_, RA.of q2.1 q2.2, rfl⟩
  rw [← e2] at hl
  refine lv_aload_n hx hb dJ5_putStringAt_47b60_0 rfl (lv_at hl 0 rfl) ?_
  refine lv_aload_n hx hb dJ5_putStringAt_47b60_1 rfl (lv_at hl 2 rfl) ?_
  refine r2_cUV C hA hl.1 hG h0 [.ref b2] [] (mJ5_inflateIfNeededFor_a7421 E l c0 c2 S0 (RAq hG h0) (RAq hG h2)) (by rw [h0.1, h2.1]) QLJ5_397 rfl (rm2 (by decide) (by decide)) (Nat.le_of_ble_eq_true rfl) rfl dJ5_putStringAt_47b60_2 hU h (fun S1 H locs ad2 cells slots hG hx9 h => ?_)
  have h0 := h0.up hx9
  have h2 := h2.up hx9
  refine lv_aload_n hx hb dJ5_putStringAt_47b60_5 rfl (lv_at hl 2 rfl) ?_
  refine lv_aload_n hx hb dJ5_putStringAt_47b60_6 rfl (lv_at hl 0 rfl) ?_
  refine r2_gN C hG h0 FQJ5_15 rfl dJ5_putStringAt_47b60_7 h (fun c3 bc3 h_c3 h => ?_)
  refine lv_iload_n hx hb dJ5_putStringAt_47b60_10 rfl (lv_at hl 1 rfl) ?_
  refine lv_aload_n hx hb dJ5_putStringAt_47b60_11 rfl (lv_at hl 0 rfl) ?_
  refine r2_gI C hG h0 FQJ5_22 rfl dJ5_putStringAt_47b60_12 h (fun x4 h => ?_)
  refine r2_cVV C hA hl.1 hG h2 [.ref bc3, .int a1, .int x4] [] (mNJ0_getBytes_840e7 E l c2 c3 a1 x4 S1 (RAq hG h2) (RAq hG h_c3)) (by rw [h2.1, h_c3.1]) QLJ5_399 KP0 rfl (rm2 (by decide) (by decide)) (Nat.le_of_ble_eq_true rfl) rfl dJ5_putStringAt_47b60_15 hU h (fun S5 H locs ad6 cells slots hG hx9 h => ?_)
  have h0 := h0.up hx9
  have h2 := h2.up hx9
  exact r2_vret C hF hG hr dJ5_putStringAt_47b60_18 h
def kJ5_append_cf1ce (c0 : Nat) (c1 : Nat) (S0 : ZS) : Option (Nat × ZS) :=
  chk Prod.snd S0 <|
  rcv S0 c1 0 <| b2 Prod.snd (kNJ0_length_8abf5 c1 S0) fun x3 S1 =>
  gI S1 c0 1 3 fun x4 =>
  rcv S1 c0 1 <| b1 Prod.snd (kJ5_ensureCapacityInternal_d00df c0 (x4 + x3) S1) fun S5 =>
  gI S5 c0 1 3 fun x7 =>
  rcv S5 c0 1 <| b1 Prod.snd (kJ5_putStringAt_47b60 c0 x7 c1 S5) fun S8 =>
  gI S8 c0 1 3 fun x10 =>
  pI S8 c0 1 3 (x10 + x3) fun S11 =>
  some (c0, S11)
set_option maxRecDepth 100000 in
set_option maxHeartbeats 8000000 in
theorem mJ5_append_cf1ce (E : EV) (l : Launch) (c0 : Nat) (c1 : Nat) (S0 : ZS) (q0 : c0 ≠ 0 ∧ rk S0.n c0) (q1 : c1 ≠ 0 ∧ rk S0.n c1) : ∀ u, kJ5_append_cf1ce c0 c1 S0 = some u → MRL E l yJ5_append_cf1ce cJ5_append_cf1ce 3 (Option.some (Jvm.ClassFile.FieldType.object "java/lang/AbstractStringBuilder")) 5 (fun ad => [.ref (rA E ad c0), .ref (rA E ad c1)]) S0 u := by
  intro u h
  unfold kJ5_append_cf1ce at h
  obtain ⟨hcw, h⟩ := chk_inv h
  refine ML2.of (by decide +kernel) (fun ad => Nat.le_of_ble_eq_true rfl) hcw ?_
  intro p e s m args below meth c ad F hF C hA hr hnm ls hl hG
  have C : Cx p s m args meth c cJ5_append_cf1ce 3 RJ5 E := C
  have hx := C.1
  have hb := C.2.1
  have hU : F.uc = (u.2).c ∧ F.uw = (u.2).w := ⟨hF.2.2.2.2.1, hF.2.2.2.2.2⟩
  have hl : lv_has ls 3 [(0, .ref (rA E ad c0)), (1, .ref (rA E ad c1))] := hl
  obtain ⟨b0, h0, e0⟩ : ∃ b, RA E ad S0.n c0 b ∧ b = rA E ad c0 := ⟨_, RA.of q0.1 q0.2, rfl⟩
  rw [← e0] at hl
  obtain ⟨b1, h1, e1⟩ : ∃ b, RA E ad S0.n c1 b ∧ b = rA E ad c1 := ⟨_, RA.of q1.1 q1.2, rfl⟩
  rw [← e1] at hl
  refine lv_aload_n hx hb dJ5_append_cf1ce_0 rfl (lv_at hl 1 rfl) ?_
  refine lv_ifnonnull (tgt := 9) hx hb dJ5_append_cf1ce_1 (by decide) ?_
  refine lv_aload_n hx hb dJ5_append_cf1ce_9 rfl (lv_at hl 1 rfl) ?_
  refine r2_cVI C hA hl.1 hG h1 [] [] (mNJ0_length_8abf5 E l c1 S0 (RAq hG h1)) (by rw [h1.1]) QLJ5_32 KP0 rfl (rm2 (by decide) (by decide)) (Nat.le_of_ble_eq_true rfl) rfl dJ5_append_cf1ce_10 hU h (fun x3 S1 H locs ad2 cells slots hG hx9 h => ?_)
  have h0 := h0.up hx9
  have h1 := h1.up hx9
  refine lv_istore_n (lv' := [(2, .int x3), (0, .ref b0), (1, .ref b1)]) hx hb dJ5_append_cf1ce_13 rfl hl (by decide) rfl (fun ls hl => ?_)
  refine lv_aload_n hx hb dJ5_append_cf1ce_14 rfl (lv_at hl 1 rfl) ?_
  refine lv_aload_n hx hb dJ5_append_cf1ce_15 rfl (lv_at hl 1 rfl) ?_
  refine r2_gI C hG h0 FQJ5_79 rfl dJ5_append_cf1ce_16 h (fun x4 h => ?_)
  refine lv_iload_n hx hb dJ5_append_cf1ce_19 rfl (lv_at hl 0 rfl) ?_
  refine lv_iadd hx hb dJ5_append_cf1ce_20 ?_
  refine r2_cUV C hA hl.1 hG h0 [.int (x4 + x3)] [] (mJ5_ensureCapacityInternal_d00df E l c0 (x4 + x3) S1 (RAq hG h0)) (by rw [h0.1]) QLJ5_100 rfl (rm2 (by decide) (by decide)) (Nat.le_of_ble_eq_true rfl) rfl dJ5_append_cf1ce_21 hU h (fun S5 H locs ad6 cells slots hG hx9 h => ?_)
  have h0 := h0.up hx9
  have h1 := h1.up hx9
  refine lv_aload_n hx hb dJ5_append_cf1ce_24 rfl (lv_at hl 1 rfl) ?_
  refine lv_aload_n hx hb dJ5_append_cf1ce_25 rfl (lv_at hl 1 rfl) ?_
  refine r2_gI C hG h0 FQJ5_79 rfl dJ5_append_cf1ce_26 h (fun x7 h => ?_)
  refine lv_aload_n hx hb dJ5_append_cf1ce_29 rfl (lv_at hl 2 rfl) ?_
  refine r2_cUV C hA hl.1 hG h0 [.int x7, .ref b1] [] (mJ5_putStringAt_47b60 E l c0 x7 c1 S5 (RAq hG h0) (RAq hG h1)) (by rw [h0.1, h1.1]) QLJ5_208 rfl (rm2 (by decide) (by decide)) (Nat.le_of_ble_eq_true rfl) rfl dJ5_append_cf1ce_30 hU h (fun S8 H locs ad9 cells slots hG hx9 h => ?_)
  have h0 := h0.up hx9
  have h1 := h1.up hx9
  refine lv_aload_n hx hb dJ5_append_cf1ce_33 rfl (lv_at hl 1 rfl) ?_
  refine lv_dup hx hb dJ5_append_cf1ce_34 rfl ?_
  refine r2_gI C hG h0 FQJ5_79 rfl dJ5_append_cf1ce_35 h (fun x10 h => ?_)
  refine lv_iload_n hx hb dJ5_append_cf1ce_38 rfl (lv_at hl 0 rfl) ?_
  refine lv_iadd hx hb dJ5_append_cf1ce_39 ?_
  refine r2_pI C hG h0 FQJ5_79 (Or.inl rfl) rfl rfl rfl dJ5_append_cf1ce_40 h (fun H locs S11 hG h => ?_)
  refine lv_aload_n hx hb dJ5_append_cf1ce_43 rfl (lv_at hl 1 rfl) ?_
  exact r2_aret C hF hG h0 (Or.inl ⟨_, rfl⟩) hr dJ5_append_cf1ce_44 h
def kJ4_append_15ec4 (c0 : Nat) (c1 : Nat) (S0 : ZS) : Option (Nat × ZS) :=
  chk Prod.snd S0 <|
  rcv S0 c0 1 <| b2 Prod.snd (kJ5_append_cf1ce c0 c1 S0) fun c3 S1 =>
  some (c0, S1)
set_option maxRecDepth 100000 in
set_option maxHeartbeats 8000000 in
theorem mJ4_append_15ec4 (E : EV) (l : Launch) (c0 : Nat) (c1 : Nat) (S0 : ZS) (q0 : c0 ≠ 0 ∧ rk S0.n c0) (q1 : c1 ≠ 0 ∧ rk S0.n c1) : ∀ u, kJ4_append_15ec4 c0 c1 S0 = some u → MRL E l yJ4_append_15ec4 cJ4_append_15ec4 2 (Option.some (Jvm.ClassFile.FieldType.object "java/lang/StringBuilder")) 6 (fun ad => [.ref (rA E ad c0), .ref (rA E ad c1)]) S0 u := by
  intro u h
  unfold kJ4_append_15ec4 at h
  obtain ⟨hcw, h⟩ := chk_inv h
  refine ML2.of (by decide +kernel) (fun ad => Nat.le_of_ble_eq_true rfl) hcw ?_
  intro p e s m args below meth c ad F hF C hA hr hnm ls hl hG
  have C : Cx p s m args meth c cJ4_append_15ec4 2 RJ4 E := C
  have hx := C.1
  have hb := C.2.1
  have hU : F.uc = (u.2).c ∧ F.uw = (u.2).w := ⟨hF.2.2.2.2.1, hF.2.2.2.2.2⟩
  have hl : lv_has ls 2 [(0, .ref (rA E ad c0)), (1, .ref (rA E ad c1))] := hl
  obtain ⟨b0, h0, e0⟩ : ∃ b, RA E ad S0.n c0 b ∧ b = rA E ad c0 := ⟨_, RA.of q0.1 q0.2, rfl⟩
  rw [← e0] at hl
  obtain ⟨b1, h1, e1⟩ : ∃ b, RA E ad S0.n c1 b ∧ b = rA E ad c1 := ⟨_, RA.of q1.1 q1.2, rfl⟩
  rw [← e1] at hl
  refine lv_aload_n hx hb dJ4_append_15ec4_0 rfl (lv_at hl 0 rfl) ?_
  refine lv_aload_n hx hb dJ4_append_15ec4_1 rfl (lv_at hl 1 rfl) ?_
  refine r2_cPR C hA hl.1 hG h0 [.ref b1] [] (mJ5_append_cf1ce E l c0 c1 S0 (RAq hG h0) (RAq hG h1)) (by rw [h0.1, h1.1]) QLJ4_29 rfl (rm2 (by decide) (by decide)) (Nat.le_of_ble_eq_true rfl) rfl dJ4_append_15ec4_2 hU h (fun bc3 c3 S1 H locs ad2 cells slots hG hx9 h_c3 h => ?_)
  have h0 := h0.up hx9
  have h1 := h1.up hx9
  refine lv_pop hx hb dJ4_append_15ec4_5 rfl ?_
  refine lv_aload_n hx hb dJ4_append_15ec4_6 rfl (lv_at hl 0 rfl) ?_
  exact r2_aret C hF hG h0 (Or.inl ⟨_, rfl⟩) hr dJ4_append_15ec4_7 h
def kNJ0_getBytes_840e7_S (a0 : Nat) (c1 : Nat) (a2 : Int32) (a3 : Int32) (S0 : ZS) : Option (ZS) :=
  chk id S0 <|
  ckS a0 <| (kJ0_coder_7d493 a0 S0.g).bind fun x1 =>
  if x1 = a3 then
    ckS a0 <|
    ckS a0 <|
    ckS a0 <|
    cpS S0 a0 0 c1 (a2 <<< (a3 &&& 31)) (nI (sL a0)) fun S3 =>
    some S3
  else
    ckS a0 <|
    ckS a0 <|
    ckS a0 <|
    none
set_option maxRecDepth 100000 in
set_option maxHeartbeats 8000000 in
theorem mNJ0_getBytes_840e7_S (E : EV) (l : Launch) (a0 : Nat) (c1 : Nat) (a2 : Int32) (a3 : Int32) (S0 : ZS) (q1 : c1 ≠ 0 ∧ rk S0.n c1) : ∀ u, kNJ0_getBytes_840e7_S a0 c1 a2 a3 S0 = some u → MVL E l yJ0_getBytes_840e7 cJ0_getBytes_840e7 4 none 2 (fun ad => [.ref (E.aK a0), .ref (rA E ad c1), .int a2, .int a3]) S0 u := by
  intro u h
  unfold kNJ0_getBytes_840e7_S at h
  obtain ⟨hcw, h⟩ := chk_inv h
  refine ML2.of (by decide +kernel) (fun ad => Nat.le_of_ble_eq_true rfl) hcw ?_
  intro p e s m args below meth c ad F hF C hA hr hnm ls hl hG
  have C : Cx p s m args meth c cJ0_getBytes_840e7 4 RJ0 E := C
  have hx := C.1
  have hb := C.2.1
  have hU : F.uc = (u).c ∧ F.uw = (u).w := ⟨hF.2.2.2.2.1, hF.2.2.2.2.2⟩
  have hl : lv_has ls 4 [(0, .ref (E.aK a0)), (1, .ref (rA E ad c1)), (2, .int a2), (3, .int a3)] := hl
  obtain ⟨b1, h1, e1⟩ : ∃ b, RA E ad S0.n c1 b ∧ b = rA E ad c1 := ⟨_, RA.of q1.1 q1.2, rfl⟩
  rw [← e1] at hl
  refine lv_aload_n hx hb dJ0_getBytes_840e7_0 rfl (lv_at hl 0 rfl) ?_
  refine r2_csI C hA hl.1 hG [] [] (mJ0_coder_7d493 E l a0 S0.g) QLJ0_335 (mTBi 912 (by decide +kernel) rfl) rfl rfl (rm2 (by decide) (by decide)) (Nat.le_of_ble_eq_true rfl) rfl dJ0_getBytes_840e7_1 h (fun x1 H locs hG h => ?_)
  refine lv_iload_n hx hb dJ0_getBytes_840e7_4 rfl (lv_at hl 3 rfl) ?_
  refine lv_icmp_ne (tgt := 28) hx hb dJ0_getBytes_840e7_5 (by decide) (fun g2 => ?_) (fun g2 => ?_)
  · have h := (if_inv h).2 g2
    refine lv_aload_n hx hb dJ0_getBytes_840e7_28 rfl (lv_at hl 0 rfl) ?_
    refine r2_sval C hA hG FVJ0_9 dJ0_getBytes_840e7_29 h (fun h => ?_)
    refine lv_iconst (v := 0) hx hb dJ0_getBytes_840e7_32 (by decide) ?_
    refine lv_aload_n hx hb dJ0_getBytes_840e7_33 rfl (lv_at hl 1 rfl) ?_
    refine lv_iload_n hx hb dJ0_getBytes_840e7_34 rfl (lv_at hl 2 rfl) ?_
    refine lv_aload_n hx hb dJ0_getBytes_840e7_35 rfl (lv_at hl 0 rfl) ?_
    refine r2_sval C hA hG FVJ0_9 dJ0_getBytes_840e7_36 h (fun h => ?_)
    refine r2_slen C hA hG dJ0_getBytes_840e7_39 h (fun h => ?_)
    cases h
  · have h := (if_inv h).1 g2
    refine lv_aload_n hx hb dJ0_getBytes_840e7_8 rfl (lv_at hl 0 rfl) ?_
    refine r2_sval C hA hG FVJ0_9 dJ0_getBytes_840e7_9 h (fun h => ?_)
    refine lv_iconst (v := 0) hx hb dJ0_getBytes_840e7_12 (by decide) ?_
    refine lv_aload_n hx hb dJ0_getBytes_840e7_13 rfl (lv_at hl 1 rfl) ?_
    refine lv_iload_n hx hb dJ0_getBytes_840e7_14 rfl (lv_at hl 2 rfl) ?_
    refine lv_iload_n hx hb dJ0_getBytes_840e7_15 rfl (lv_at hl 3 rfl) ?_
    refine lv_ishl hx hb dJ0_getBytes_840e7_16 ?_
    refine lv_aload_n hx hb dJ0_getBytes_840e7_17 rfl (lv_at hl 0 rfl) ?_
    refine r2_sval C hA hG FVJ0_9 dJ0_getBytes_840e7_18 h (fun h => ?_)
    refine r2_slen C hA hG dJ0_getBytes_840e7_21 h (fun h => ?_)
    refine r2_cpS C hA hl.1 hG QLJ0_212 h1 ⟨(Nat.le_of_ble_eq_true rfl), (by show _ ≤ 60 * 2; decide +kernel)⟩ dJ0_getBytes_840e7_22 h (fun H locs S3 hG h => ?_)
    refine lv_goto (tgt := 43) hx hb dJ0_getBytes_840e7_25 (by decide) ?_
    exact r2_vret C hF hG hr dJ0_getBytes_840e7_43 h
def kJ5_inflateIfNeededFor_a7421_S (c0 : Nat) (a1 : Nat) (S0 : ZS) : Option (ZS) :=
  chk id S0 <|
  gI S0 c0 1 1 fun x1 =>
  ckS a1 <| (kJ0_coder_7d493 a1 S0.g).bind fun x2 =>
  if x1 = x2 then
    some S0
  else
    none
set_option maxRecDepth 100000 in
set_option maxHeartbeats 8000000 in
theorem mJ5_inflateIfNeededFor_a7421_S (E : EV) (l : Launch) (c0 : Nat) (a1 : Nat) (S0 : ZS) (q0 : c0 ≠ 0 ∧ rk S0.n c0) : ∀ u, kJ5_inflateIfNeededFor_a7421_S c0 a1 S0 = some u → MVL E l yJ5_inflateIfNeededFor_a7421 cJ5_inflateIfNeededFor_a7421 2 none 2 (fun ad => [.ref (rA E ad c0), .ref (E.aK a1)]) S0 u := by
  intro u h
  unfold kJ5_inflateIfNeededFor_a7421_S at h
  obtain ⟨hcw, h⟩ := chk_inv h
  refine ML2.of (by decide +kernel) (fun ad => Nat.le_of_ble_eq_true rfl) hcw ?_
  intro p e s m args below meth c ad F hF C hA hr hnm ls hl hG
  have C : Cx p s m args meth c cJ5_inflateIfNeededFor_a7421 2 RJ5 E := C
  have hx := C.1
  have hb := C.2.1
  have hU : F.uc = (u).c ∧ F.uw = (u).w := ⟨hF.2.2.2.2.1, hF.2.2.2.2.2⟩
  have hl : lv_has ls 2 [(0, .ref (rA E ad c0)), (1, .ref (E.aK a1))] := hl
  obtain ⟨b0, h0, e0⟩ : ∃ b, RA E ad S0.n c0 b ∧ b = rA E ad c0 := ⟨_, RA.of q0.1 q0.2, rfl⟩
  rw [← e0] at hl
  refine r2_gCS C hA hG FSJ5_18 dJ5_inflateIfNeededFor_a7421_0 ?_
  refine lv_if_eq (tgt := 21) hx hb dJ5_inflateIfNeededFor_a7421_3 (by decide) (fun c => absurd c (by decide)) (fun _ => ?_)
  refine lv_aload_n hx hb dJ5_inflateIfNeededFor_a7421_6 rfl (lv_at hl 0 rfl) ?_
  refine r2_gI C hG h0 FQJ5_22 rfl dJ5_inflateIfNeededFor_a7421_7 h (fun x1 h => ?_)
  refine lv_aload_n hx hb dJ5_inflateIfNeededFor_a7421_10 rfl (lv_at hl 1 rfl) ?_
  refine r2_csI C hA hl.1 hG [] [.int x1] (mJ0_coder_7d493 E l a1 S0.g) QLJ5_40 (mTBi 1374 (by decide +kernel) rfl) rfl rfl (rm2 (by decide) (by decide)) (Nat.le_of_ble_eq_true rfl) rfl dJ5_inflateIfNeededFor_a7421_11 h (fun x2 H locs hG h => ?_)
  refine lv_icmp_eq (tgt := 21) hx hb dJ5_inflateIfNeededFor_a7421_14 (by decide) (fun g3 => ?_) (fun g3 => ?_)
  · have h := (if_inv h).1 g3
    exact r2_vret C hF hG hr dJ5_inflateIfNeededFor_a7421_21 h
  · have h := (if_inv h).2 g3
    refine lv_aload_n hx hb dJ5_inflateIfNeededFor_a7421_17 rfl (lv_at hl 0 rfl) ?_
    cases h
def kJ5_putStringAt_47b60_S (c0 : Nat) (a1 : Int32) (a2 : Nat) (S0 : ZS) : Option (ZS) :=
  chk id S0 <|
  rcv S0 c0 1 <| b1 id (kJ5_inflateIfNeededFor_a7421_S c0 a2 S0) fun S1 =>
  gN S1 c0 1 0 fun c3 =>
  gI S1 c0 1 1 fun x4 =>
  ckS a2 <| b1 id (kNJ0_getBytes_840e7_S a2 c3 a1 x4 S1) fun S5 =>
  some S5
set_option maxRecDepth 100000 in
set_option maxHeartbeats 8000000 in
theorem mJ5_putStringAt_47b60_S (E : EV) (l : Launch) (c0 : Nat) (a1 : Int32) (a2 : Nat) (S0 : ZS) (q0 : c0 ≠ 0 ∧ rk S0.n c0) : ∀ u, kJ5_putStringAt_47b60_S c0 a1 a2 S0 = some u → MVL E l yJ5_putStringAt_47b60 cJ5_putStringAt_47b60 3 none 3 (fun ad => [.ref (rA E ad c0), .int a1, .ref (E.aK a2)]) S0 u := by
  intro u h
  unfold kJ5_putStringAt_47b60_S at h
  obtain ⟨hcw, h⟩ := chk_inv h
  refine ML2.of (by decide +kernel) (fun ad => Nat.le_of_ble_eq_true rfl) hcw ?_
  intro p e s m args below meth c ad F hF C hA hr hnm ls hl hG
  have C : Cx p s m args meth c cJ5_putStringAt_47b60 3 RJ5 E := C
  have hx := C.1
  have hb := C.2.1
  have hU : F.uc = (u).c ∧ F.uw = (u).w := ⟨hF.2.2.2.2.1, hF.2.2.2.2.2⟩
  have hl : lv_has ls 3 [(0, .ref (rA E ad c0)), (1, .int a1), (2, .ref (E.aK a2))] := hl
  obtain ⟨b0, h0, e0⟩ : ∃ b, RA E ad S0.n c0 b ∧ b = rA E ad c0 := ⟨_, RA.of q0.1 q0.2, rfl⟩
  rw [← e0] at hl
  refine lv_aload_n hx hb dJ5_putStringAt_47b60_0 rfl (lv_at hl 0 rfl) ?_
  refine lv_aload_n hx hb dJ5_putStringAt_47b60_1 rfl (lv_at hl 2 rfl) ?_
  refine r2_cUV C hA hl.1 hG h0 [.ref (E.aK a2)] [] (mJ5_inflateIfNeededFor_a7421_S E l c0 a2 S0 (RAq hG h0)) (by rw [h0.1]) QLJ5_397 rfl (rm2 (by decide) (by decide)) (Nat.le_of_ble_eq_true rfl) rfl dJ5_putStringAt_47b60_2 hU h (fun S1 H locs ad2 cells slots hG hx9 h => ?_)
  have h0 := h0.up hx9
  refine lv_aload_n hx hb dJ5_putStringAt_47b60_5 rfl (lv_at hl 2 rfl) ?_
  refine lv_aload_n hx hb dJ5_putStringAt_47b60_6 rfl (lv_at hl 0 rfl) ?_
  refine r2_gN C hG h0 FQJ5_15 rfl dJ5_putStringAt_47b60_7 h (fun c3 bc3 h_c3 h => ?_)
  refine lv_iload_n hx hb dJ5_putStringAt_47b60_10 rfl (lv_at hl 1 rfl) ?_
  refine lv_aload_n hx hb dJ5_putStringAt_47b60_11 rfl (lv_at hl 0 rfl) ?_
  refine r2_gI C hG h0 FQJ5_22 rfl dJ5_putStringAt_47b60_12 h (fun x4 h => ?_)
  refine r2_cKV C hA hl.1 hG [.ref bc3, .int a1, .int x4] [] (mNJ0_getBytes_840e7_S E l a2 c3 a1 x4 S1 (RAq hG h_c3)) (by rw [h_c3.1]) QLJ5_399 (mTBi 1401 (by decide +kernel) rfl) rfl rfl (rm2 (by decide) (by decide)) (Nat.le_of_ble_eq_true rfl) rfl dJ5_putStringAt_47b60_15 hU h (fun S5 H locs ad6 cells slots hG hx9 h => ?_)
  have h0 := h0.up hx9
  exact r2_vret C hF hG hr dJ5_putStringAt_47b60_18 h
def kJ5_append_cf1ce_S (c0 : Nat) (a1 : Nat) (S0 : ZS) : Option (Nat × ZS) :=
  chk Prod.snd S0 <|
  ckS a1 <| (kJ0_length_8abf5 a1 S0.g).bind fun x1 =>
  gI S0 c0 1 3 fun x2 =>
  rcv S0 c0 1 <| b1 Prod.snd (kJ5_ensureCapacityInternal_d00df c0 (x2 + x1) S0) fun S3 =>
  gI S3 c0 1 3 fun x5 =>
  rcv S3 c0 1 <| b1 Prod.snd (kJ5_putStringAt_47b60_S c0 x5 a1 S3) fun S6 =>
  gI S6 c0 1 3 fun x8 =>
  pI S6 c0 1 3 (x8 + x1) fun S9 =>
  some (c0, S9)
set_option maxRecDepth 100000 in
set_option maxHeartbeats 8000000 in
theorem mJ5_append_cf1ce_S (E : EV) (l : Launch) (c0 : Nat) (a1 : Nat) (S0 : ZS) (q0 : c0 ≠ 0 ∧ rk S0.n c0) : ∀ u, kJ5_append_cf1ce_S c0 a1 S0 = some u → MRL E l yJ5_append_cf1ce cJ5_append_cf1ce 3 (Option.some (Jvm.ClassFile.FieldType.object "java/lang/AbstractStringBuilder")) 5 (fun ad => [.ref (rA E ad c0), .ref (E.aK a1)]) S0 u := by
  intro u h
  unfold kJ5_append_cf1ce_S at h
  obtain ⟨hcw, h⟩ := chk_inv h
  refine ML2.of (by decide +kernel) (fun ad => Nat.le_of_ble_eq_true rfl) hcw ?_
  intro p e s m args below meth c ad F hF C hA hr hnm ls hl hG
  have C : Cx p s m args meth c cJ5_append_cf1ce 3 RJ5 E := C
  have hx := C.1
  have hb := C.2.1
  have hU : F.uc = (u.2).c ∧ F.uw = (u.2).w := ⟨hF.2.2.2.2.1, hF.2.2.2.2.2⟩
  have hl : lv_has ls 3 [(0, .ref (rA E ad c0)), (1, .ref (E.aK a1))] := hl
  obtain ⟨b0, h0, e0⟩ : ∃ b, RA E ad S0.n c0 b ∧ b = rA E ad c0 := ⟨_, RA.of q0.1 q0.2, rfl⟩
  rw [← e0] at hl
  refine lv_aload_n hx hb dJ5_append_cf1ce_0 rfl (lv_at hl 1 rfl) ?_
  refine lv_ifnonnull (tgt := 9) hx hb dJ5_append_cf1ce_1 (by decide) ?_
  refine lv_aload_n hx hb dJ5_append_cf1ce_9 rfl (lv_at hl 1 rfl) ?_
  refine r2_csI C hA hl.1 hG [] [] (mJ0_length_8abf5 E l a1 S0.g) QLJ5_32 (mTBi 1365 (by decide +kernel) rfl) rfl rfl (rm2 (by decide) (by decide)) (Nat.le_of_ble_eq_true rfl) rfl dJ5_append_cf1ce_10 h (fun x1 H locs hG h => ?_)
  refine lv_istore_n (lv' := [(2, .int x1), (0, .ref b0), (1, .ref (E.aK a1))]) hx hb dJ5_append_cf1ce_13 rfl hl (by decide) rfl (fun ls hl => ?_)
  refine lv_aload_n hx hb dJ5_append_cf1ce_14 rfl (lv_at hl 1 rfl) ?_
  refine lv_aload_n hx hb dJ5_append_cf1ce_15 rfl (lv_at hl 1 rfl) ?_
  refine r2_gI C hG h0 FQJ5_79 rfl dJ5_append_cf1ce_16 h (fun x2 h => ?_)
  refine lv_iload_n hx hb dJ5_append_cf1ce_19 rfl (lv_at hl 0 rfl) ?_
  refine lv_iadd hx hb dJ5_append_cf1ce_20 ?_
  refine r2_cUV C hA hl.1 hG h0 [.int (x2 + x1)] [] (mJ5_ensureCapacityInternal_d00df E l c0 (x2 + x1) S0 (RAq hG h0)) (by rw [h0.1]) QLJ5_100 rfl (rm2 (by decide) (by decide)) (Nat.le_of_ble_eq_true rfl) rfl dJ5_append_cf1ce_21 hU h (fun S3 H locs ad4 cells slots hG hx9 h => ?_)
  have h0 := h0.up hx9
  refine lv_aload_n hx hb dJ5_append_cf1ce_24 rfl (lv_at hl 1 rfl) ?_
  refine lv_aload_n hx hb dJ5_append_cf1ce_25 rfl (lv_at hl 1 rfl) ?_
  refine r2_gI C hG h0 FQJ5_79 rfl dJ5_append_cf1ce_26 h (fun x5 h => ?_)
  refine lv_aload_n hx hb dJ5_append_cf1ce_29 rfl (lv_at hl 2 rfl) ?_
  refine r2_cUV C hA hl.1 hG h0 [.int x5, .ref (E.aK a1)] [] (mJ5_putStringAt_47b60_S E l c0 x5 a1 S3 (RAq hG h0)) (by rw [h0.1]) QLJ5_208 rfl (rm2 (by decide) (by decide)) (Nat.le_of_ble_eq_true rfl) rfl dJ5_append_cf1ce_30 hU h (fun S6 H locs ad7 cells slots hG hx9 h => ?_)
  have h0 := h0.up hx9
  refine lv_aload_n hx hb dJ5_append_cf1ce_33 rfl (lv_at hl 1 rfl) ?_
  refine lv_dup hx hb dJ5_append_cf1ce_34 rfl ?_
  refine r2_gI C hG h0 FQJ5_79 rfl dJ5_append_cf1ce_35 h (fun x8 h => ?_)
  refine lv_iload_n hx hb dJ5_append_cf1ce_38 rfl (lv_at hl 0 rfl) ?_
  refine lv_iadd hx hb dJ5_append_cf1ce_39 ?_
  refine r2_pI C hG h0 FQJ5_79 (Or.inl rfl) rfl rfl rfl dJ5_append_cf1ce_40 h (fun H locs S9 hG h => ?_)
  refine lv_aload_n hx hb dJ5_append_cf1ce_43 rfl (lv_at hl 1 rfl) ?_
  exact r2_aret C hF hG h0 (Or.inl ⟨_, rfl⟩) hr dJ5_append_cf1ce_44 h
def kJ4_append_15ec4_S (c0 : Nat) (a1 : Nat) (S0 : ZS) : Option (Nat × ZS) :=
  chk Prod.snd S0 <|
  rcv S0 c0 1 <| b2 Prod.snd (kJ5_append_cf1ce_S c0 a1 S0) fun c3 S1 =>
  some (c0, S1)
set_option maxRecDepth 100000 in
set_option maxHeartbeats 8000000 in
theorem mJ4_append_15ec4_S (E : EV) (l : Launch) (c0 : Nat) (a1 : Nat) (S0 : ZS) (q0 : c0 ≠ 0 ∧ rk S0.n c0) : ∀ u, kJ4_append_15ec4_S c0 a1 S0 = some u → MRL E l yJ4_append_15ec4 cJ4_append_15ec4 2 (Option.some (Jvm.ClassFile.FieldType.object "java/lang/StringBuilder")) 6 (fun ad => [.ref (rA E ad c0), .ref (E.aK a1)]) S0 u := by
  intro u h
  unfold kJ4_append_15ec4_S at h
  obtain ⟨hcw, h⟩ := chk_inv h
  refine ML2.of (by decide +kernel) (fun ad => Nat.le_of_ble_eq_true rfl) hcw ?_
  intro p e s m args below meth c ad F hF C hA hr hnm ls hl hG
  have C : Cx p s m args meth c cJ4_append_15ec4 2 RJ4 E := C
  have hx := C.1
  have hb := C.2.1
  have hU : F.uc = (u.2).c ∧ F.uw = (u.2).w := ⟨hF.2.2.2.2.1, hF.2.2.2.2.2⟩
  have hl : lv_has ls 2 [(0, .ref (rA E ad c0)), (1, .ref (E.aK a1))] := hl
  obtain ⟨b0, h0, e0⟩ : ∃ b, RA E ad S0.n c0 b ∧ b = rA E ad c0 := ⟨_, RA.of q0.1 q0.2, rfl⟩
  rw [← e0] at hl
  refine lv_aload_n hx hb dJ4_append_15ec4_0 rfl (lv_at hl 0 rfl) ?_
  refine lv_aload_n hx hb dJ4_append_15ec4_1 rfl (lv_at hl 1 rfl) ?_
  refine r2_cPR C hA hl.1 hG h0 [.ref (E.aK a1)] [] (mJ5_append_cf1ce_S E l c0 a1 S0 (RAq hG h0)) (by rw [h0.1]) QLJ4_29 rfl (rm2 (by decide) (by decide)) (Nat.le_of_ble_eq_true rfl) rfl dJ4_append_15ec4_2 hU h (fun bc3 c3 S1 H locs ad2 cells slots hG hx9 h_c3 h => ?_)
  have h0 := h0.up hx9
  refine lv_pop hx hb dJ4_append_15ec4_5 rfl ?_
  refine lv_aload_n hx hb dJ4_append_15ec4_6 rfl (lv_at hl 0 rfl) ?_
  exact r2_aret C hF hG h0 (Or.inl ⟨_, rfl⟩) hr dJ4_append_15ec4_7 h
def kJ5_isLatin1_aae02 (c0 : Nat) (S0 : ZS) : Option (Int32 × ZS) :=
  chk Prod.snd S0 <|
  gI S0 c0 1 1 fun x1 =>
  if x1 = 0 then
    some (1, S0)
  else
    some (0, S0)
set_option maxRecDepth 100000 in
set_option maxHeartbeats 8000000 in
theorem mJ5_isLatin1_aae02 (E : EV) (l : Launch) (c0 : Nat) (S0 : ZS) (q0 : c0 ≠ 0 ∧ rk S0.n c0) : ∀ u, kJ5_isLatin1_aae02 c0 S0 = some u → MIL E l yJ5_isLatin1_aae02 cJ5_isLatin1_aae02 1 (Option.some Jvm.ClassFile.FieldType.boolean) 1 (fun ad => [.ref (rA E ad c0)]) S0 u := by
  intro u h
  unfold kJ5_isLatin1_aae02 at h
  obtain ⟨hcw, h⟩ := chk_inv h
  refine ML2.of (by decide +kernel) (fun ad => Nat.le_of_ble_eq_true rfl) hcw ?_
  intro p e s m args below meth c ad F hF C hA hr hnm ls hl hG
  have C : Cx p s m args meth c cJ5_isLatin1_aae02 1 RJ5 E := C
  have hx := C.1
  have hb := C.2.1
  have hU : F.uc = (u.2).c ∧ F.uw = (u.2).w := ⟨hF.2.2.2.2.1, hF.2.2.2.2.2⟩
  have hl : lv_has ls 1 [(0, .ref (rA E ad c0))] := hl
  obtain ⟨b0, h0, e0⟩ : ∃ b, RA E ad S0.n c0 b ∧ b = rA E ad c0 := ⟨_, RA.of q0.1 q0.2, rfl⟩
  rw [← e0] at hl
  refine r2_gCS C hA hG FSJ5_18 dJ5_isLatin1_aae02_0 ?_
  refine lv_if_eq (tgt := 17) hx hb dJ5_isLatin1_aae02_3 (by decide) (fun c => absurd c (by decide)) (fun _ => ?_)
  refine lv_aload_n hx hb dJ5_isLatin1_aae02_6 rfl (lv_at hl 0 rfl) ?_
  refine r2_gI C hG h0 FQJ5_22 rfl dJ5_isLatin1_aae02_7 h (fun x1 h => ?_)
  refine lv_if_ne (tgt := 17) hx hb dJ5_isLatin1_aae02_10 (by decide) (fun g2 => ?_) (fun g2 => ?_)
  · have h := (if_inv h).2 g2
    refine lv_iconst (v := 0) hx hb dJ5_isLatin1_aae02_17 (by decide) ?_
    exact r2_iret C hF hG hr rfl dJ5_isLatin1_aae02_18 h
  · have h := (if_inv h).1 g2
    refine lv_iconst (v := 1) hx hb dJ5_isLatin1_aae02_13 (by decide) ?_
    refine lv_goto (tgt := 18) hx hb dJ5_isLatin1_aae02_14 (by decide) ?_
    exact r2_iret C hF hG hr rfl dJ5_isLatin1_aae02_18 h
def kJ6_getChars_ba4f3_104  (v2 : Nat) (v5 : Int32) (v6 : Int32) (S : ZS) : Option (Int32 × ZS) :=
      if v6 = 0 then
        some (v5, S)
      else
        bd (v5 + (-1)) fun x2 =>
        aP S v2 200000 x2 (45 : Int32).toInt8.toInt32 fun S3 =>
        some (x2, S3)
def kJ6_getChars_ba4f3_22  : Nat → Int32 → Nat → Int32 → Int32 → ZS → Option (Int32 × ZS)
  | 0, _, _, _, _, _ => none
  | f + 1, v0, v2, v5, v6, S =>
        if (-100) < v0 then
          bd (v5 + (-1)) fun x5 =>
          dgO (-v0) fun x6 =>
          aP S v2 200000 x5 x6.toInt8.toInt32 fun S7 =>
          if (-9) ≤ v0 then
            kJ6_getChars_ba4f3_104 v2 x5 v6 S7
          else
            bd (x5 + (-1)) fun x9 =>
            dgT (-v0) fun x10 =>
            aP S7 v2 200000 x9 x10.toInt8.toInt32 fun S11 =>
            kJ6_getChars_ba4f3_104 v2 x9 v6 S11
        else
          dv v0 100 fun x12 =>
          bd ((x12 * 100) - v0) fun x13 =>
          bd (v5 + (-1)) fun x14 =>
          dgO x13 fun x15 =>
          aP S v2 200000 x14 x15.toInt8.toInt32 fun S16 =>
          bd (x14 + (-1)) fun x17 =>
          dgT x13 fun x18 =>
          aP S16 v2 200000 x17 x18.toInt8.toInt32 fun S19 =>
          kJ6_getChars_ba4f3_22 f x12 v2 x17 v6 S19
def kJ6_getChars_ba4f3_12  (v0 : Int32) (v2 : Nat) (v5 : Int32) (vt0 : Int32) (S : ZS) : Option (Int32 × ZS) :=
      bd vt0 fun x20 =>
      if x20 = 0 then
        bd (-v0) fun x22 =>
        kJ6_getChars_ba4f3_22 FU x22 v2 v5 x20 S
      else
        kJ6_getChars_ba4f3_22 FU v0 v2 v5 x20 S
def kJ6_getChars_ba4f3 (a0 : Int32) (a1 : Int32) (c2 : Nat) (S0 : ZS) : Option (Int32 × ZS) :=
  chk Prod.snd S0 <|
  if 0 ≤ a0 then
    kJ6_getChars_ba4f3_12 a0 c2 a1 0 S0
  else
    kJ6_getChars_ba4f3_12 a0 c2 a1 1 S0
set_option maxRecDepth 100000 in
set_option maxHeartbeats 8000000 in
theorem mJ6_getChars_ba4f3 (E : EV) (l : Launch) (a0 : Int32) (a1 : Int32) (c2 : Nat) (S0 : ZS) (q2 : c2 ≠ 0 ∧ rk S0.n c2) : ∀ u, kJ6_getChars_ba4f3 a0 a1 c2 S0 = some u → MIL E l yJ6_getChars_ba4f3 cJ6_getChars_ba4f3 7 (Option.some Jvm.ClassFile.FieldType.int) 1 (fun ad => [.int a0, .int a1, .ref (rA E ad c2)]) S0 u := by
  intro u h
  unfold kJ6_getChars_ba4f3 at h
  obtain ⟨hcw, h⟩ := chk_inv h
  refine ML2.of (by decide +kernel) (fun ad => Nat.le_of_ble_eq_true rfl) hcw ?_
  intro p e s m args below meth c ad F hF C hA hr hnm ls hl hG
  have C : Cx p s m args meth c cJ6_getChars_ba4f3 7 RJ6 E := C
  have hx := C.1
  have hb := C.2.1
  have hU : F.uc = (u.2).c ∧ F.uw = (u.2).w := ⟨hF.2.2.2.2.1, hF.2.2.2.2.2⟩
  have hl : lv_has ls 7 [(0, .int a0), (1, .int a1), (2, .ref (rA E ad c2))] := hl
  obtain ⟨b2, h2, e2⟩ : ∃ b, RA E ad S0.n c2 b ∧ b = rA E ad c2 := ⟨_, RA.of q2.1 q2.2, rfl⟩
  rw [← e2] at hl
  have j104 : ∀ (v2 : Nat) (v5 : Int32) (v6 : Int32) (S : ZS) (ad : Nat → Nat) (N : Nat) (bv2 : Nat) (H : Heap) (locs : List Loc) (ls : Array Slot) (cells slots : Nat), GL E s F H locs ad N S cells slots → RA E ad N v2 bv2 → lv_has ls 7 [(2, .ref bv2), (5, .int v5), (6, .int v6)] → kJ6_getChars_ba4f3_104 v2 v5 v6 S = some u → W p l e (F.R 1) s m args below meth c H locs cells slots (MQ below (QIL E s.heap.size F.ad S0 u) args s (F.c - F.uc) (F.w - F.uw) F.A) (F0 m 104 ls []) := by
    intro v2 v5 v6 S ad N bv2 H locs ls cells slots hG hv2 hl h
    unfold kJ6_getChars_ba4f3_104 at h
    refine lv_iload hx hb dJ6_getChars_ba4f3_104 (lv_at hl 2 rfl) ?_
    refine lv_if_eq (tgt := 118) hx hb dJ6_getChars_ba4f3_106 (by decide) (fun g1 => ?_) (fun g1 => ?_)
    · have h := (if_inv h).1 g1
      refine lv_iload hx hb dJ6_getChars_ba4f3_118 (lv_at hl 1 rfl) ?_
      exact r2_iret C hF hG hr rfl dJ6_getChars_ba4f3_120 h
    · have h := (if_inv h).2 g1
      refine lv_aload_n hx hb dJ6_getChars_ba4f3_109 rfl (lv_at hl 0 rfl) ?_
      refine r_iinc (w := (-1)) (lv' := fun x2 => [(5, .int x2), (2, .ref bv2), (6, .int v6)]) C dJ6_getChars_ba4f3_110 hl (k := 1) rfl (by decide) (by decide) (fun _ => rfl) h (fun x2 ls hl h => ?_)
      refine lv_iload hx hb dJ6_getChars_ba4f3_113 (lv_at hl 0 rfl) ?_
      refine lv_bipush (v := 45) hx hb dJ6_getChars_ba4f3_115 (by decide) ?_
      refine r2_pAB C hG hv2 dJ6_getChars_ba4f3_117 h (fun H locs S3 hG h => ?_)
      refine lv_iload hx hb dJ6_getChars_ba4f3_118 (lv_at hl 0 rfl) ?_
      exact r2_iret C hF hG hr rfl dJ6_getChars_ba4f3_120 h
  have j22 : ∀ f : Nat, ∀ (v0 : Int32) (v2 : Nat) (v5 : Int32) (v6 : Int32) (S : ZS) (ad : Nat → Nat) (N : Nat) (bv2 : Nat) (H : Heap) (locs : List Loc) (ls : Array Slot) (cells slots : Nat), GL E s F H locs ad N S cells slots → RA E ad N v2 bv2 → lv_has ls 7 [(0, .int v0), (2, .ref bv2), (5, .int v5), (6, .int v6)] → kJ6_getChars_ba4f3_22 f v0 v2 v5 v6 S = some u → W p l e (F.R 1) s m args below meth c H locs cells slots (MQ below (QIL E s.heap.size F.ad S0 u) args s (F.c - F.uc) (F.w - F.uw) F.A) (F0 m 22 ls []) := by
    intro f
    induction f with
    | zero =>
      intro v0 v2 v5 v6 S ad N bv2 H locs ls cells slots hG hv2 hl h
      unfold kJ6_getChars_ba4f3_22 at h
      cases h
    | succ f ih =>
      intro v0 v2 v5 v6 S ad N bv2 H locs ls cells slots hG hv2 hl h
      unfold kJ6_getChars_ba4f3_22 at h
      refine lv_iload_n hx hb dJ6_getChars_ba4f3_22 rfl (lv_at hl 0 rfl) ?_
      refine lv_bipush (v := (-100)) hx hb dJ6_getChars_ba4f3_23 (by decide) ?_
      refine lv_icmp_gt (tgt := 72) hx hb dJ6_getChars_ba4f3_25 (by decide) (fun g4 => ?_) (fun g4 => ?_)
      · have h := (if_inv h).1 g4
        refine lv_aload_n hx hb dJ6_getChars_ba4f3_72 rfl (lv_at hl 1 rfl) ?_
        refine r_iinc (w := (-1)) (lv' := fun x5 => [(5, .int x5), (0, .int v0), (2, .ref bv2), (6, .int v6)]) C dJ6_getChars_ba4f3_73 hl (k := 2) rfl (by decide) (by decide) (fun _ => rfl) h (fun x5 ls hl h => ?_)
        refine lv_iload hx hb dJ6_getChars_ba4f3_76 (lv_at hl 0 rfl) ?_
        refine r2_gDO C hA hG FSJ6_83 dJ6_getChars_ba4f3_78 ?_
        refine lv_iload_n hx hb dJ6_getChars_ba4f3_81 rfl (lv_at hl 1 rfl) ?_
        refine lv_ineg hx hb dJ6_getChars_ba4f3_82 ?_
        refine r2_dgO C hA hG dJ6_getChars_ba4f3_83 h (fun x6 h => ?_)
        refine r2_pAB C hG hv2 dJ6_getChars_ba4f3_84 h (fun H locs S7 hG h => ?_)
        refine lv_iload_n hx hb dJ6_getChars_ba4f3_85 rfl (lv_at hl 1 rfl) ?_
        refine lv_bipush (v := (-9)) hx hb dJ6_getChars_ba4f3_86 (by decide) ?_
        refine lv_icmp_ge (tgt := 104) hx hb dJ6_getChars_ba4f3_88 (by decide) (fun g8 => ?_) (fun g8 => ?_)
        · have h := (if_inv h).1 g8
          exact j104 v2 x5 v6 S7 _ _ _ _ _ _ _ _ hG hv2 (lv_sub hl [2, 0, 3] rfl) h
        · have h := (if_inv h).2 g8
          refine lv_aload_n hx hb dJ6_getChars_ba4f3_91 rfl (lv_at hl 2 rfl) ?_
          refine r_iinc (w := (-1)) (lv' := fun x9 => [(5, .int x9), (0, .int v0), (2, .ref bv2), (6, .int v6)]) C dJ6_getChars_ba4f3_92 hl (k := 0) rfl (by decide) (by decide) (fun _ => rfl) h (fun x9 ls hl h => ?_)
          refine lv_iload hx hb dJ6_getChars_ba4f3_95 (lv_at hl 0 rfl) ?_
          refine r2_gDT C hA hG FSJ6_87 dJ6_getChars_ba4f3_97 ?_
          refine lv_iload_n hx hb dJ6_getChars_ba4f3_100 rfl (lv_at hl 1 rfl) ?_
          refine lv_ineg hx hb dJ6_getChars_ba4f3_101 ?_
          refine r2_dgT C hA hG dJ6_getChars_ba4f3_102 h (fun x10 h => ?_)
          refine r2_pAB C hG hv2 dJ6_getChars_ba4f3_103 h (fun H locs S11 hG h => ?_)
          exact j104 v2 x9 v6 S11 _ _ _ _ _ _ _ _ hG hv2 (lv_sub hl [2, 0, 3] rfl) h
      · have h := (if_inv h).2 g4
        refine lv_iload_n hx hb dJ6_getChars_ba4f3_28 rfl (lv_at hl 0 rfl) ?_
        refine lv_bipush (v := 100) hx hb dJ6_getChars_ba4f3_29 (by decide) ?_
        refine r_div C dJ6_getChars_ba4f3_31 h (fun x12 h => ?_)
        refine lv_istore_n (lv' := [(3, .int x12), (0, .int v0), (2, .ref bv2), (5, .int v5), (6, .int v6)]) hx hb dJ6_getChars_ba4f3_32 rfl hl (by decide) rfl (fun ls hl => ?_)
        refine lv_iload_n hx hb dJ6_getChars_ba4f3_33 rfl (lv_at hl 0 rfl) ?_
        refine lv_bipush (v := 100) hx hb dJ6_getChars_ba4f3_34 (by decide) ?_
        refine lv_imul hx hb dJ6_getChars_ba4f3_36 ?_
        refine lv_iload_n hx hb dJ6_getChars_ba4f3_37 rfl (lv_at hl 1 rfl) ?_
        refine lv_isub hx hb dJ6_getChars_ba4f3_38 ?_
        refine r_nm h (fun x13 h => ?_)
        refine lv_istore (lv' := [(4, .int x13), (3, .int x12), (0, .int v0), (2, .ref bv2), (5, .int v5), (6, .int v6)]) hx hb dJ6_getChars_ba4f3_39 hl (by decide) rfl (fun ls hl => ?_)
        refine lv_iload_n hx hb dJ6_getChars_ba4f3_41 rfl (lv_at hl 1 rfl) ?_
        refine lv_istore_n (lv' := [(0, .int x12), (4, .int x13), (3, .int x12), (2, .ref bv2), (5, .int v5), (6, .int v6)]) hx hb dJ6_getChars_ba4f3_42 rfl hl (by decide) rfl (fun ls hl => ?_)
        refine lv_aload_n hx hb dJ6_getChars_ba4f3_43 rfl (lv_at hl 3 rfl) ?_
        refine r_iinc (w := (-1)) (lv' := fun x14 => [(5, .int x14), (0, .int x12), (4, .int x13), (3, .int x12), (2, .ref bv2), (6, .int v6)]) C dJ6_getChars_ba4f3_44 hl (k := 4) rfl (by decide) (by decide) (fun _ => rfl) h (fun x14 ls hl h => ?_)
        refine lv_iload hx hb dJ6_getChars_ba4f3_47 (lv_at hl 0 rfl) ?_
        refine r2_gDO C hA hG FSJ6_83 dJ6_getChars_ba4f3_49 ?_
        refine lv_iload hx hb dJ6_getChars_ba4f3_52 (lv_at hl 2 rfl) ?_
        refine r2_dgO C hA hG dJ6_getChars_ba4f3_54 h (fun x15 h => ?_)
        refine r2_pAB C hG hv2 dJ6_getChars_ba4f3_55 h (fun H locs S16 hG h => ?_)
        refine lv_aload_n hx hb dJ6_getChars_ba4f3_56 rfl (lv_at hl 4 rfl) ?_
        refine r_iinc (w := (-1)) (lv' := fun x17 => [(5, .int x17), (0, .int x12), (4, .int x13), (3, .int x12), (2, .ref bv2), (6, .int v6)]) C dJ6_getChars_ba4f3_57 hl (k := 0) rfl (by decide) (by decide) (fun _ => rfl) h (fun x17 ls hl h => ?_)
        refine lv_iload hx hb dJ6_getChars_ba4f3_60 (lv_at hl 0 rfl) ?_
        refine r2_gDT C hA hG FSJ6_87 dJ6_getChars_ba4f3_62 ?_
        refine lv_iload hx hb dJ6_getChars_ba4f3_65 (lv_at hl 2 rfl) ?_
        refine r2_dgT C hA hG dJ6_getChars_ba4f3_67 h (fun x18 h => ?_)
        refine r2_pAB C hG hv2 dJ6_getChars_ba4f3_68 h (fun H locs S19 hG h => ?_)
        refine lv_goto (tgt := 22) hx hb dJ6_getChars_ba4f3_69 (by decide) ?_
        exact ih x12 v2 x17 v6 S19 _ _ _ _ _ _ _ _ hG hv2 (lv_sub hl [1, 4, 0, 5] rfl) h
  have j12 : ∀ (v0 : Int32) (v2 : Nat) (v5 : Int32) (vt0 : Int32) (S : ZS) (ad : Nat → Nat) (N : Nat) (bv2 : Nat) (H : Heap) (locs : List Loc) (ls : Array Slot) (cells slots : Nat), GL E s F H locs ad N S cells slots → RA E ad N v2 bv2 → lv_has ls 7 [(0, .int v0), (2, .ref bv2), (5, .int v5)] → kJ6_getChars_ba4f3_12 v0 v2 v5 vt0 S = some u → W p l e (F.R 1) s m args below meth c H locs cells slots (MQ below (QIL E s.heap.size F.ad S0 u) args s (F.c - F.uc) (F.w - F.uw) F.A) (F0 m 12 ls [.int vt0]) := by
    intro v0 v2 v5 vt0 S ad N bv2 H locs ls cells slots hG hv2 hl h
    unfold kJ6_getChars_ba4f3_12 at h
    refine r_nm h (fun x20 h => ?_)
    refine lv_istore (lv' := [(6, .int x20), (0, .int v0), (2, .ref bv2), (5, .int v5)]) hx hb dJ6_getChars_ba4f3_12 hl (by decide) rfl (fun ls hl => ?_)
    refine lv_iload hx hb dJ6_getChars_ba4f3_14 (lv_at hl 0 rfl) ?_
    refine lv_if_ne (tgt := 22) hx hb dJ6_getChars_ba4f3_16 (by decide) (fun g21 => ?_) (fun g21 => ?_)
    · have h := (if_inv h).2 g21
      exact j22 FU v0 v2 v5 x20 S _ _ _ _ _ _ _ _ hG hv2 (lv_sub hl [1, 2, 3, 0] rfl) h
    · have h := (if_inv h).1 g21
      refine lv_iload_n hx hb dJ6_getChars_ba4f3_19 rfl (lv_at hl 1 rfl) ?_
      refine lv_ineg hx hb dJ6_getChars_ba4f3_20 ?_
      refine r_nm h (fun x22 h => ?_)
      refine lv_istore_n (lv' := [(0, .int x22), (6, .int x20), (2, .ref bv2), (5, .int v5)]) hx hb dJ6_getChars_ba4f3_21 rfl hl (by decide) rfl (fun ls hl => ?_)
      exact j22 FU x22 v2 v5 x20 S _ _ _ _ _ _ _ _ hG hv2 (lv_sub hl [0, 2, 3, 1] rfl) h
  refine lv_iload_n hx hb dJ6_getChars_ba4f3_0 rfl (lv_at hl 1 rfl) ?_
  refine lv_istore (lv' := [(5, .int a1), (0, .int a0), (1, .int a1), (2, .ref b2)]) hx hb dJ6_getChars_ba4f3_1 hl (by decide) rfl (fun ls hl => ?_)
  refine lv_iload_n hx hb dJ6_getChars_ba4f3_3 rfl (lv_at hl 1 rfl) ?_
  refine lv_if_ge (tgt := 11) hx hb dJ6_getChars_ba4f3_4 (by decide) (fun g23 => ?_) (fun g23 => ?_)
  · have h := (if_inv h).1 g23
    refine lv_iconst (v := 0) hx hb dJ6_getChars_ba4f3_11 (by decide) ?_
    exact j12 a0 c2 a1 0 S0 _ _ _ _ _ _ _ _ hG h2 (lv_sub hl [1, 3, 0] rfl) h
  · have h := (if_inv h).2 g23
    refine lv_iconst (v := 1) hx hb dJ6_getChars_ba4f3_7 (by decide) ?_
    refine lv_goto (tgt := 12) hx hb dJ6_getChars_ba4f3_8 (by decide) ?_
    exact j12 a0 c2 a1 1 S0 _ _ _ _ _ _ _ _ hG h2 (lv_sub hl [1, 3, 0] rfl) h
def kJ6_stringSize_0f7a4_16  : Nat → Int32 → Int32 → Int32 → Int32 → ZS → Option (Int32 × ZS)
  | 0, _, _, _, _, _ => none
  | f + 1, v0, v1, v2, v3, S =>
        if 10 ≤ v3 then
          some ((10 + v1), S)
        else
          if v0 ≤ v2 then
            bd (10 * v2) fun x3 =>
            bd (v3 + 1) fun x4 =>
            kJ6_stringSize_0f7a4_16 f v0 v1 x3 x4 S
          else
            some ((v3 + v1), S)
def kJ6_stringSize_0f7a4_11  (v0 : Int32) (v1 : Int32) (S : ZS) : Option (Int32 × ZS) :=
      kJ6_stringSize_0f7a4_16 FU v0 v1 (-10) 1 S
def kJ6_stringSize_0f7a4 (a0 : Int32) (S0 : ZS) : Option (Int32 × ZS) :=
  chk Prod.snd S0 <|
  if a0 < 0 then
    kJ6_stringSize_0f7a4_11 a0 1 S0
  else
    bd (-a0) fun x6 =>
    kJ6_stringSize_0f7a4_11 x6 0 S0
set_option maxRecDepth 100000 in
set_option maxHeartbeats 8000000 in
theorem mJ6_stringSize_0f7a4 (E : EV) (l : Launch) (a0 : Int32) (S0 : ZS) : ∀ u, kJ6_stringSize_0f7a4 a0 S0 = some u → MIL E l yJ6_stringSize_0f7a4 cJ6_stringSize_0f7a4 4 (Option.some Jvm.ClassFile.FieldType.int) 1 (fun ad => [.int a0]) S0 u := by
  intro u h
  unfold kJ6_stringSize_0f7a4 at h
  obtain ⟨hcw, h⟩ := chk_inv h
  refine ML2.of (by decide +kernel) (fun ad => Nat.le_of_ble_eq_true rfl) hcw ?_
  intro p e s m args below meth c ad F hF C hA hr hnm ls hl hG
  have C : Cx p s m args meth c cJ6_stringSize_0f7a4 4 RJ6 E := C
  have hx := C.1
  have hb := C.2.1
  have hU : F.uc = (u.2).c ∧ F.uw = (u.2).w := ⟨hF.2.2.2.2.1, hF.2.2.2.2.2⟩
  have hl : lv_has ls 4 [(0, .int a0)] := hl
  have j16 : ∀ f : Nat, ∀ (v0 : Int32) (v1 : Int32) (v2 : Int32) (v3 : Int32) (S : ZS) (ad : Nat → Nat) (N : Nat) (H : Heap) (locs : List Loc) (ls : Array Slot) (cells slots : Nat), GL E s F H locs ad N S cells slots → lv_has ls 4 [(0, .int v0), (1, .int v1), (2, .int v2), (3, .int v3)] → kJ6_stringSize_0f7a4_16 f v0 v1 v2 v3 S = some u → W p l e (F.R 1) s m args below meth c H locs cells slots (MQ below (QIL E s.heap.size F.ad S0 u) args s (F.c - F.uc) (F.w - F.uw) F.A) (F0 m 16 ls []) := by
    intro f
    induction f with
    | zero =>
      intro v0 v1 v2 v3 S ad N H locs ls cells slots hG hl h
      unfold kJ6_stringSize_0f7a4_16 at h
      cases h
    | succ f ih =>
      intro v0 v1 v2 v3 S ad N H locs ls cells slots hG hl h
      unfold kJ6_stringSize_0f7a4_16 at h
      refine lv_iload_n hx hb dJ6_stringSize_0f7a4_16 rfl (lv_at hl 3 rfl) ?_
      refine lv_bipush (v := 10) hx hb dJ6_stringSize_0f7a4_17 (by decide) ?_
      refine lv_icmp_ge (tgt := 42) hx hb dJ6_stringSize_0f7a4_19 (by decide) (fun g1 => ?_) (fun g1 => ?_)
      · have h := (if_inv h).1 g1
        refine lv_bipush (v := 10) hx hb dJ6_stringSize_0f7a4_42 (by decide) ?_
        refine lv_iload_n hx hb dJ6_stringSize_0f7a4_44 rfl (lv_at hl 1 rfl) ?_
        refine lv_iadd hx hb dJ6_stringSize_0f7a4_45 ?_
        exact r2_iret C hF hG hr rfl dJ6_stringSize_0f7a4_46 h
      · have h := (if_inv h).2 g1
        refine lv_iload_n hx hb dJ6_stringSize_0f7a4_22 rfl (lv_at hl 0 rfl) ?_
        refine lv_iload_n hx hb dJ6_stringSize_0f7a4_23 rfl (lv_at hl 2 rfl) ?_
        refine lv_icmp_le (tgt := 31) hx hb dJ6_stringSize_0f7a4_24 (by decide) (fun g2 => ?_) (fun g2 => ?_)
        · have h := (if_inv h).1 g2
          refine lv_bipush (v := 10) hx hb dJ6_stringSize_0f7a4_31 (by decide) ?_
          refine lv_iload_n hx hb dJ6_stringSize_0f7a4_33 rfl (lv_at hl 2 rfl) ?_
          refine lv_imul hx hb dJ6_stringSize_0f7a4_34 ?_
          refine r_nm h (fun x3 h => ?_)
          refine lv_istore_n (lv' := [(2, .int x3), (0, .int v0), (1, .int v1), (3, .int v3)]) hx hb dJ6_stringSize_0f7a4_35 rfl hl (by decide) rfl (fun ls hl => ?_)
          refine r_iinc (w := 1) (lv' := fun x4 => [(3, .int x4), (2, .int x3), (0, .int v0), (1, .int v1)]) C dJ6_stringSize_0f7a4_36 hl (k := 3) rfl (by decide) (by decide) (fun _ => rfl) h (fun x4 ls hl h => ?_)
          refine lv_goto (tgt := 16) hx hb dJ6_stringSize_0f7a4_39 (by decide) ?_
          exact ih v0 v1 x3 x4 S _ _ _ _ _ _ _ hG (lv_sub hl [2, 3, 1, 0] rfl) h
        · have h := (if_inv h).2 g2
          refine lv_iload_n hx hb dJ6_stringSize_0f7a4_27 rfl (lv_at hl 3 rfl) ?_
          refine lv_iload_n hx hb dJ6_stringSize_0f7a4_28 rfl (lv_at hl 1 rfl) ?_
          refine lv_iadd hx hb dJ6_stringSize_0f7a4_29 ?_
          exact r2_iret C hF hG hr rfl dJ6_stringSize_0f7a4_30 h
  have j11 : ∀ (v0 : Int32) (v1 : Int32) (S : ZS) (ad : Nat → Nat) (N : Nat) (H : Heap) (locs : List Loc) (ls : Array Slot) (cells slots : Nat), GL E s F H locs ad N S cells slots → lv_has ls 4 [(0, .int v0), (1, .int v1)] → kJ6_stringSize_0f7a4_11 v0 v1 S = some u → W p l e (F.R 1) s m args below meth c H locs cells slots (MQ below (QIL E s.heap.size F.ad S0 u) args s (F.c - F.uc) (F.w - F.uw) F.A) (F0 m 11 ls []) := by
    intro v0 v1 S ad N H locs ls cells slots hG hl h
    unfold kJ6_stringSize_0f7a4_11 at h
    refine lv_bipush (v := (-10)) hx hb dJ6_stringSize_0f7a4_11 (by decide) ?_
    refine lv_istore_n (lv' := [(2, .int (-10)), (0, .int v0), (1, .int v1)]) hx hb dJ6_stringSize_0f7a4_13 rfl hl (by decide) rfl (fun ls hl => ?_)
    refine lv_iconst (v := 1) hx hb dJ6_stringSize_0f7a4_14 (by decide) ?_
    refine lv_istore_n (lv' := [(3, .int 1), (2, .int (-10)), (0, .int v0), (1, .int v1)]) hx hb dJ6_stringSize_0f7a4_15 rfl hl (by decide) rfl (fun ls hl => ?_)
    exact j16 FU v0 v1 (-10) 1 S _ _ _ _ _ _ _ hG (lv_sub hl [2, 3, 1, 0] rfl) h
  refine lv_iconst (v := 1) hx hb dJ6_stringSize_0f7a4_0 (by decide) ?_
  refine lv_istore_n (lv' := [(1, .int 1), (0, .int a0)]) hx hb dJ6_stringSize_0f7a4_1 rfl hl (by decide) rfl (fun ls hl => ?_)
  refine lv_iload_n hx hb dJ6_stringSize_0f7a4_2 rfl (lv_at hl 1 rfl) ?_
  refine lv_if_lt (tgt := 11) hx hb dJ6_stringSize_0f7a4_3 (by decide) (fun g5 => ?_) (fun g5 => ?_)
  · have h := (if_inv h).1 g5
    exact j11 a0 1 S0 _ _ _ _ _ _ _ hG (lv_sub hl [1, 0] rfl) h
  · have h := (if_inv h).2 g5
    refine lv_iconst (v := 0) hx hb dJ6_stringSize_0f7a4_6 (by decide) ?_
    refine lv_istore_n (lv' := [(1, .int 0), (0, .int a0)]) hx hb dJ6_stringSize_0f7a4_7 rfl hl (by decide) rfl (fun ls hl => ?_)
    refine lv_iload_n hx hb dJ6_stringSize_0f7a4_8 rfl (lv_at hl 1 rfl) ?_
    refine lv_ineg hx hb dJ6_stringSize_0f7a4_9 ?_
    refine r_nm h (fun x6 h => ?_)
    refine lv_istore_n (lv' := [(0, .int x6), (1, .int 0)]) hx hb dJ6_stringSize_0f7a4_10 rfl hl (by decide) rfl (fun ls hl => ?_)
    exact j11 x6 0 S0 _ _ _ _ _ _ _ hG (lv_sub hl [0, 1] rfl) h
def kJ5_append_c97b9_48  (v0 : Nat) (v3 : Int32) (S : ZS) : Option (Nat × ZS) :=
      pI S v0 1 3 v3 fun S1 =>
      some (v0, S1)
def kJ5_append_c97b9 (c0 : Nat) (a1 : Int32) (S0 : ZS) : Option (Nat × ZS) :=
  chk Prod.snd S0 <|
  gI S0 c0 1 3 fun x2 =>
  b2 Prod.snd (kJ6_stringSize_0f7a4 a1 S0) fun x5 S3 =>
  bd (x2 + x5) fun x6 =>
  rcv S3 c0 1 <| b1 Prod.snd (kJ5_ensureCapacityInternal_d00df c0 x6 S3) fun S7 =>
  rcv S7 c0 1 <| b2 Prod.snd (kJ5_isLatin1_aae02 c0 S7) fun x11 S9 =>
  if x11 = 0 then
    gN S9 c0 1 0 fun c13 =>
    none
  else
    gN S9 c0 1 0 fun c14 =>
    b2 Prod.snd (kJ6_getChars_ba4f3 a1 x6 c14 S9) fun x17 S15 =>
    kJ5_append_c97b9_48 c0 x6 S15
set_option maxRecDepth 100000 in
set_option maxHeartbeats 8000000 in
theorem mJ5_append_c97b9 (E : EV) (l : Launch) (c0 : Nat) (a1 : Int32) (S0 : ZS) (q0 : c0 ≠ 0 ∧ rk S0.n c0) : ∀ u, kJ5_append_c97b9 c0 a1 S0 = some u → MRL E l yJ5_append_c97b9 cJ5_append_c97b9 4 (Option.some (Jvm.ClassFile.FieldType.object "java/lang/AbstractStringBuilder")) 5 (fun ad => [.ref (rA E ad c0), .int a1]) S0 u := by
  intro u h
  unfold kJ5_append_c97b9 at h
  obtain ⟨hcw, h⟩ := chk_inv h
  refine ML2.of (by decide +kernel) (fun ad => Nat.le_of_ble_eq_true rfl) hcw ?_
  intro p e s m args below meth c ad F hF C hA hr hnm ls hl hG
  have C : Cx p s m args meth c cJ5_append_c97b9 4 RJ5 E := C
  have hx := C.1
  have hb := C.2.1
  have hU : F.uc = (u.2).c ∧ F.uw = (u.2).w := ⟨hF.2.2.2.2.1, hF.2.2.2.2.2⟩
  have hl : lv_has ls 4 [(0, .ref (rA E ad c0)), (1, .int a1)] := hl
  obtain ⟨b0, h0, e0⟩ : ∃ b, RA E ad S0.n c0 b ∧ b = rA E ad c0 := ⟨_, RA.of q0.1 q0.2, rfl⟩
  rw [← e0] at hl
  have j48 : ∀ (v0 : Nat) (v3 : Int32) (S : ZS) (ad : Nat → Nat) (N : Nat) (bv0 : Nat) (H : Heap) (locs : List Loc) (ls : Array Slot) (cells slots : Nat), GL E s F H locs ad N S cells slots → RA E ad N v0 bv0 → lv_has ls 4 [(0, .ref bv0), (3, .int v3)] → kJ5_append_c97b9_48 v0 v3 S = some u → W p l e (F.R 5) s m args below meth c H locs cells slots (MQ below (QRL E s.heap.size F.ad S0 u) args s (F.c - F.uc) (F.w - F.uw) F.A) (F0 m 48 ls []) := by
    intro v0 v3 S ad N bv0 H locs ls cells slots hG hv0 hl h
    unfold kJ5_append_c97b9_48 at h
    refine lv_aload_n hx hb dJ5_append_c97b9_48 rfl (lv_at hl 0 rfl) ?_
    refine lv_iload_n hx hb dJ5_append_c97b9_49 rfl (lv_at hl 1 rfl) ?_
    refine r2_pI C hG hv0 FQJ5_79 (Or.inl rfl) rfl rfl rfl dJ5_append_c97b9_50 h (fun H locs S1 hG h => ?_)
    refine lv_aload_n hx hb dJ5_append_c97b9_53 rfl (lv_at hl 0 rfl) ?_
    exact r2_aret C hF hG hv0 (Or.inl ⟨_, rfl⟩) hr dJ5_append_c97b9_54 h
  refine lv_aload_n hx hb dJ5_append_c97b9_0 rfl (lv_at hl 0 rfl) ?_
  refine r2_gI C hG h0 FQJ5_79 rfl dJ5_append_c97b9_1 h (fun x2 h => ?_)
  refine lv_istore_n (lv' := [(2, .int x2), (0, .ref b0), (1, .int a1)]) hx hb dJ5_append_c97b9_4 rfl hl (by decide) rfl (fun ls hl => ?_)
  refine lv_iload_n hx hb dJ5_append_c97b9_5 rfl (lv_at hl 0 rfl) ?_
  refine lv_iload_n hx hb dJ5_append_c97b9_6 rfl (lv_at hl 2 rfl) ?_
  refine r2_cSI C hA hl.1 hG [.int a1] [.int x2] (mJ6_stringSize_0f7a4 E l a1 S0) rfl QLJ5_245 rfl (rm2 (by decide) (by decide)) (Nat.le_of_ble_eq_true rfl) rfl dJ5_append_c97b9_7 hU h (fun x5 S3 H locs ad4 cells slots hG hx9 h => ?_)
  have h0 := h0.up hx9
  refine lv_iadd hx hb dJ5_append_c97b9_10 ?_
  refine r_nm h (fun x6 h => ?_)
  refine lv_istore_n (lv' := [(3, .int x6), (2, .int x2), (0, .ref b0), (1, .int a1)]) hx hb dJ5_append_c97b9_11 rfl hl (by decide) rfl (fun ls hl => ?_)
  refine lv_aload_n hx hb dJ5_append_c97b9_12 rfl (lv_at hl 2 rfl) ?_
  refine lv_iload_n hx hb dJ5_append_c97b9_13 rfl (lv_at hl 0 rfl) ?_
  refine r2_cUV C hA hl.1 hG h0 [.int x6] [] (mJ5_ensureCapacityInternal_d00df E l c0 x6 S3 (RAq hG h0)) (by rw [h0.1]) QLJ5_100 rfl (rm2 (by decide) (by decide)) (Nat.le_of_ble_eq_true rfl) rfl dJ5_append_c97b9_14 hU h (fun S7 H locs ad8 cells slots hG hx9 h => ?_)
  have h0 := h0.up hx9
  refine lv_aload_n hx hb dJ5_append_c97b9_17 rfl (lv_at hl 2 rfl) ?_
  refine r2_cUI C hA hl.1 hG h0 [] [] (mJ5_isLatin1_aae02 E l c0 S7 (RAq hG h0)) (by rw [h0.1]) QLJ5_83 rfl (rm2 (by decide) (by decide)) (Nat.le_of_ble_eq_true rfl) rfl dJ5_append_c97b9_18 hU h (fun x11 S9 H locs ad10 cells slots hG hx9 h => ?_)
  have h0 := h0.up hx9
  refine lv_if_eq (tgt := 37) hx hb dJ5_append_c97b9_21 (by decide) (fun g12 => ?_) (fun g12 => ?_)
  · have h := (if_inv h).1 g12
    refine lv_iload_n hx hb dJ5_append_c97b9_37 rfl (lv_at hl 3 rfl) ?_
    refine lv_iload_n hx hb dJ5_append_c97b9_38 rfl (lv_at hl 1 rfl) ?_
    refine lv_iload_n hx hb dJ5_append_c97b9_39 rfl (lv_at hl 0 rfl) ?_
    refine lv_aload_n hx hb dJ5_append_c97b9_40 rfl (lv_at hl 2 rfl) ?_
    refine r2_gN C hG h0 FQJ5_15 rfl dJ5_append_c97b9_41 h (fun c13 bc13 h_c13 h => ?_)
    cases h
  · have h := (if_inv h).2 g12
    refine lv_iload_n hx hb dJ5_append_c97b9_24 rfl (lv_at hl 3 rfl) ?_
    refine lv_iload_n hx hb dJ5_append_c97b9_25 rfl (lv_at hl 0 rfl) ?_
    refine lv_aload_n hx hb dJ5_append_c97b9_26 rfl (lv_at hl 2 rfl) ?_
    refine r2_gN C hG h0 FQJ5_15 rfl dJ5_append_c97b9_27 h (fun c14 bc14 h_c14 h => ?_)
    refine r2_cSI C hA hl.1 hG [.int a1, .int x6, .ref bc14] [] (mJ6_getChars_ba4f3 E l a1 x6 c14 S9 (RAq hG h_c14)) (by rw [h_c14.1]) QLJ5_248 rfl (rm2 (by decide) (by decide)) (Nat.le_of_ble_eq_true rfl) rfl dJ5_append_c97b9_30 hU h (fun x17 S15 H locs ad16 cells slots hG hx9 h => ?_)
    have h0 := h0.up hx9
    refine lv_pop hx hb dJ5_append_c97b9_33 rfl ?_
    refine lv_goto (tgt := 48) hx hb dJ5_append_c97b9_34 (by decide) ?_
    exact j48 c0 x6 S15 _ _ _ _ _ _ _ _ hG h0 (lv_sub hl [2, 0] rfl) h
def kJ4_append_bf812 (c0 : Nat) (a1 : Int32) (S0 : ZS) : Option (Nat × ZS) :=
  chk Prod.snd S0 <|
  rcv S0 c0 1 <| b2 Prod.snd (kJ5_append_c97b9 c0 a1 S0) fun c3 S1 =>
  some (c0, S1)
set_option maxRecDepth 100000 in
set_option maxHeartbeats 8000000 in
theorem mJ4_append_bf812 (E : EV) (l : Launch) (c0 : Nat) (a1 : Int32) (S0 : ZS) (q0 : c0 ≠ 0 ∧ rk S0.n c0) : ∀ u, kJ4_append_bf812 c0 a1 S0 = some u → MRL E l yJ4_append_bf812 cJ4_append_bf812 2 (Option.some (Jvm.ClassFile.FieldType.object "java/lang/StringBuilder")) 6 (fun ad => [.ref (rA E ad c0), .int a1]) S0 u := by
  intro u h
  unfold kJ4_append_bf812 at h
  obtain ⟨hcw, h⟩ := chk_inv h
  refine ML2.of (by decide +kernel) (fun ad => Nat.le_of_ble_eq_true rfl) hcw ?_
  intro p e s m args below meth c ad F hF C hA hr hnm ls hl hG
  have C : Cx p s m args meth c cJ4_append_bf812 2 RJ4 E := C
  have hx := C.1
  have hb := C.2.1
  have hU : F.uc = (u.2).c ∧ F.uw = (u.2).w := ⟨hF.2.2.2.2.1, hF.2.2.2.2.2⟩
  have hl : lv_has ls 2 [(0, .ref (rA E ad c0)), (1, .int a1)] := hl
  obtain ⟨b0, h0, e0⟩ : ∃ b, RA E ad S0.n c0 b ∧ b = rA E ad c0 := ⟨_, RA.of q0.1 q0.2, rfl⟩
  rw [← e0] at hl
  refine lv_aload_n hx hb dJ4_append_bf812_0 rfl (lv_at hl 0 rfl) ?_
  refine lv_iload_n hx hb dJ4_append_bf812_1 rfl (lv_at hl 1 rfl) ?_
  refine r2_cPR C hA hl.1 hG h0 [.int a1] [] (mJ5_append_c97b9 E l c0 a1 S0 (RAq hG h0)) (by rw [h0.1]) QLJ4_53 rfl (rm2 (by decide) (by decide)) (Nat.le_of_ble_eq_true rfl) rfl dJ4_append_bf812_2 hU h (fun bc3 c3 S1 H locs ad2 cells slots hG hx9 h_c3 h => ?_)
  have h0 := h0.up hx9
  refine lv_pop hx hb dJ4_append_bf812_5 rfl ?_
  refine lv_aload_n hx hb dJ4_append_bf812_6 rfl (lv_at hl 0 rfl) ?_
  exact r2_aret C hF hG h0 (Or.inl ⟨_, rfl⟩) hr dJ4_append_bf812_7 h
def kJ5_length_8abf5 (c0 : Nat) (S0 : ZS) : Option (Int32 × ZS) :=
  chk Prod.snd S0 <|
  gI S0 c0 1 3 fun x1 =>
  some (x1, S0)
set_option maxRecDepth 100000 in
set_option maxHeartbeats 8000000 in
theorem mJ5_length_8abf5 (E : EV) (l : Launch) (c0 : Nat) (S0 : ZS) (q0 : c0 ≠ 0 ∧ rk S0.n c0) : ∀ u, kJ5_length_8abf5 c0 S0 = some u → MIL E l yJ5_length_8abf5 cJ5_length_8abf5 1 (Option.some Jvm.ClassFile.FieldType.int) 1 (fun ad => [.ref (rA E ad c0)]) S0 u := by
  intro u h
  unfold kJ5_length_8abf5 at h
  obtain ⟨hcw, h⟩ := chk_inv h
  refine ML2.of (by decide +kernel) (fun ad => Nat.le_of_ble_eq_true rfl) hcw ?_
  intro p e s m args below meth c ad F hF C hA hr hnm ls hl hG
  have C : Cx p s m args meth c cJ5_length_8abf5 1 RJ5 E := C
  have hx := C.1
  have hb := C.2.1
  have hU : F.uc = (u.2).c ∧ F.uw = (u.2).w := ⟨hF.2.2.2.2.1, hF.2.2.2.2.2⟩
  have hl : lv_has ls 1 [(0, .ref (rA E ad c0))] := hl
  obtain ⟨b0, h0, e0⟩ : ∃ b, RA E ad S0.n c0 b ∧ b = rA E ad c0 := ⟨_, RA.of q0.1 q0.2, rfl⟩
  rw [← e0] at hl
  refine lv_aload_n hx hb dJ5_length_8abf5_0 rfl (lv_at hl 0 rfl) ?_
  refine r2_gI C hG h0 FQJ5_79 rfl dJ5_length_8abf5_1 h (fun x1 h => ?_)
  exact r2_iret C hF hG hr rfl dJ5_length_8abf5_4 h
def kJ4_length_8abf5 (c0 : Nat) (S0 : ZS) : Option (Int32 × ZS) :=
  chk Prod.snd S0 <|
  rcv S0 c0 1 <| b2 Prod.snd (kJ5_length_8abf5 c0 S0) fun x3 S1 =>
  some (x3, S1)
set_option maxRecDepth 100000 in
set_option maxHeartbeats 8000000 in
theorem mJ4_length_8abf5 (E : EV) (l : Launch) (c0 : Nat) (S0 : ZS) (q0 : c0 ≠ 0 ∧ rk S0.n c0) : ∀ u, kJ4_length_8abf5 c0 S0 = some u → MIL E l yJ4_length_8abf5 cJ4_length_8abf5 1 (Option.some Jvm.ClassFile.FieldType.int) 2 (fun ad => [.ref (rA E ad c0)]) S0 u := by
  intro u h
  unfold kJ4_length_8abf5 at h
  obtain ⟨hcw, h⟩ := chk_inv h
  refine ML2.of (by decide +kernel) (fun ad => Nat.le_of_ble_eq_true rfl) hcw ?_
  intro p e s m args below meth c ad F hF C hA hr hnm ls hl hG
  have C : Cx p s m args meth c cJ4_length_8abf5 1 RJ4 E := C
  have hx := C.1
  have hb := C.2.1
  have hU : F.uc = (u.2).c ∧ F.uw = (u.2).w := ⟨hF.2.2.2.2.1, hF.2.2.2.2.2⟩
  have hl : lv_has ls 1 [(0, .ref (rA E ad c0))] := hl
  obtain ⟨b0, h0, e0⟩ : ∃ b, RA E ad S0.n c0 b ∧ b = rA E ad c0 := ⟨_, RA.of q0.1 q0.2, rfl⟩
  rw [← e0] at hl
  refine lv_aload_n hx hb dJ4_length_8abf5_0 rfl (lv_at hl 0 rfl) ?_
  refine r2_cPI C hA hl.1 hG h0 [] [] (mJ5_length_8abf5 E l c0 S0 (RAq hG h0)) (by rw [h0.1]) QLJ4_343 rfl (rm2 (by decide) (by decide)) (Nat.le_of_ble_eq_true rfl) rfl dJ4_length_8abf5_1 hU h (fun x3 S1 H locs ad2 cells slots hG hx9 h => ?_)
  have h0 := h0.up hx9
  exact r2_iret C hF hG hr rfl dJ4_length_8abf5_4 h
def kJ5_getValue_6d5f1 (c0 : Nat) (S0 : ZS) : Option (Nat × ZS) :=
  chk Prod.snd S0 <|
  gN S0 c0 1 0 fun c1 =>
  some (c1, S0)
set_option maxRecDepth 100000 in
set_option maxHeartbeats 8000000 in
theorem mJ5_getValue_6d5f1 (E : EV) (l : Launch) (c0 : Nat) (S0 : ZS) (q0 : c0 ≠ 0 ∧ rk S0.n c0) : ∀ u, kJ5_getValue_6d5f1 c0 S0 = some u → MRL E l yJ5_getValue_6d5f1 cJ5_getValue_6d5f1 1 (Option.some (Jvm.ClassFile.FieldType.array Jvm.ClassFile.FieldType.byte)) 1 (fun ad => [.ref (rA E ad c0)]) S0 u := by
  intro u h
  unfold kJ5_getValue_6d5f1 at h
  obtain ⟨hcw, h⟩ := chk_inv h
  refine ML2.of (by decide +kernel) (fun ad => Nat.le_of_ble_eq_true rfl) hcw ?_
  intro p e s m args below meth c ad F hF C hA hr hnm ls hl hG
  have C : Cx p s m args meth c cJ5_getValue_6d5f1 1 RJ5 E := C
  have hx := C.1
  have hb := C.2.1
  have hU : F.uc = (u.2).c ∧ F.uw = (u.2).w := ⟨hF.2.2.2.2.1, hF.2.2.2.2.2⟩
  have hl : lv_has ls 1 [(0, .ref (rA E ad c0))] := hl
  obtain ⟨b0, h0, e0⟩ : ∃ b, RA E ad S0.n c0 b ∧ b = rA E ad c0 := ⟨_, RA.of q0.1 q0.2, rfl⟩
  rw [← e0] at hl
  refine lv_aload_n hx hb dJ5_getValue_6d5f1_0 rfl (lv_at hl 0 rfl) ?_
  refine r2_gN C hG h0 FQJ5_15 rfl dJ5_getValue_6d5f1_1 h (fun c1 bc1 h_c1 h => ?_)
  exact r2_aret C hF hG h_c1 (Or.inr ⟨_, rfl⟩) hr dJ5_getValue_6d5f1_4 h
def kJ7_checkLength_df160 (a0 : Int32) (a1 : Int32) (S0 : ZS) : Option (ZS) :=
  chk id S0 <|
  if a0 ≤ a1 then
    some S0
  else
    none
set_option maxRecDepth 100000 in
set_option maxHeartbeats 8000000 in
theorem mJ7_checkLength_df160 (E : EV) (l : Launch) (a0 : Int32) (a1 : Int32) (S0 : ZS) : ∀ u, kJ7_checkLength_df160 a0 a1 S0 = some u → MVL E l yJ7_checkLength_df160 cJ7_checkLength_df160 2 none 1 (fun ad => [.int a0, .int a1]) S0 u := by
  intro u h
  unfold kJ7_checkLength_df160 at h
  obtain ⟨hcw, h⟩ := chk_inv h
  refine ML2.of (by decide +kernel) (fun ad => Nat.le_of_ble_eq_true rfl) hcw ?_
  intro p e s m args below meth c ad F hF C hA hr hnm ls hl hG
  have C : Cx p s m args meth c cJ7_checkLength_df160 2 RJ7 E := C
  have hx := C.1
  have hb := C.2.1
  have hU : F.uc = (u).c ∧ F.uw = (u).w := ⟨hF.2.2.2.2.1, hF.2.2.2.2.2⟩
  have hl : lv_has ls 2 [(0, .int a0), (1, .int a1)] := hl
  refine lv_iload_n hx hb dJ7_checkLength_df160_0 rfl (lv_at hl 1 rfl) ?_
  refine lv_iload_n hx hb dJ7_checkLength_df160_1 rfl (lv_at hl 0 rfl) ?_
  refine lv_icmp_ge (tgt := 37) hx hb dJ7_checkLength_df160_2 (by decide) (fun g1 => ?_) (fun g1 => ?_)
  · have h := (if_inv h).1 g1
    exact r2_vret C hF hG hr dJ7_checkLength_df160_37 h
  · have h := (if_inv h).2 g1
    cases h
def kJ7_copyOfRangeByte_39247 (c0 : Nat) (a1 : Int32) (a2 : Int32) (S0 : ZS) : Option (Nat × ZS) :=
  chk Prod.snd S0 <|
  b1 Prod.snd (kJ7_checkLength_df160 a1 a2 S0) fun S1 =>
  bd (a2 - a1) fun x3 =>
  nA Prod.snd S1 200000 x3 fun c4 S5 =>
  aL S5 c0 200000 fun x7 =>
  bd (if x3 < (x7 - a1) then x3 else (x7 - a1)) fun x8 =>
  cpB S5 c0 a1 c4 0 x8 fun S9 =>
  some (c4, S9)
set_option maxRecDepth 100000 in
set_option maxHeartbeats 8000000 in
theorem mJ7_copyOfRangeByte_39247 (E : EV) (l : Launch) (c0 : Nat) (a1 : Int32) (a2 : Int32) (S0 : ZS) (q0 : c0 ≠ 0 ∧ rk S0.n c0) : ∀ u, kJ7_copyOfRangeByte_39247 c0 a1 a2 S0 = some u → MRL E l yJ7_copyOfRangeByte_39247 cJ7_copyOfRangeByte_39247 5 (Option.some (Jvm.ClassFile.FieldType.array Jvm.ClassFile.FieldType.byte)) 2 (fun ad => [.ref (rA E ad c0), .int a1, .int a2]) S0 u := by
  intro u h
  unfold kJ7_copyOfRangeByte_39247 at h
  obtain ⟨hcw, h⟩ := chk_inv h
  refine ML2.of (by decide +kernel) (fun ad => Nat.le_of_ble_eq_true rfl) hcw ?_
  intro p e s m args below meth c ad F hF C hA hr hnm ls hl hG
  have C : Cx p s m args meth c cJ7_copyOfRangeByte_39247 5 RJ7 E := C
  have hx := C.1
  have hb := C.2.1
  have hU : F.uc = (u.2).c ∧ F.uw = (u.2).w := ⟨hF.2.2.2.2.1, hF.2.2.2.2.2⟩
  have hl : lv_has ls 5 [(0, .ref (rA E ad c0)), (1, .int a1), (2, .int a2)] := hl
  obtain ⟨b0, h0, e0⟩ : ∃ b, RA E ad S0.n c0 b ∧ b = rA E ad c0 := ⟨_, RA.of q0.1 q0.2, rfl⟩
  rw [← e0] at hl
  refine lv_iload_n hx hb dJ7_copyOfRangeByte_39247_0 rfl (lv_at hl 1 rfl) ?_
  refine lv_iload_n hx hb dJ7_copyOfRangeByte_39247_1 rfl (lv_at hl 2 rfl) ?_
  refine r2_cSV C hA hl.1 hG [.int a1, .int a2] [] (mJ7_checkLength_df160 E l a1 a2 S0) rfl QLJ7_343 rfl (rm2 (by decide) (by decide)) (Nat.le_of_ble_eq_true rfl) rfl dJ7_copyOfRangeByte_39247_2 hU h (fun S1 H locs ad2 cells slots hG hx9 h => ?_)
  have h0 := h0.up hx9
  refine lv_iload_n hx hb dJ7_copyOfRangeByte_39247_5 rfl (lv_at hl 2 rfl) ?_
  refine lv_iload_n hx hb dJ7_copyOfRangeByte_39247_6 rfl (lv_at hl 1 rfl) ?_
  refine lv_isub hx hb dJ7_copyOfRangeByte_39247_7 ?_
  refine r_nm h (fun x3 h => ?_)
  refine lv_istore_n (lv' := [(3, .int x3), (0, .ref b0), (1, .int a1), (2, .int a2)]) hx hb dJ7_copyOfRangeByte_39247_8 rfl hl (by decide) rfl (fun ls hl => ?_)
  refine lv_iload_n hx hb dJ7_copyOfRangeByte_39247_9 rfl (lv_at hl 0 rfl) ?_
  refine r2_newB C hA hG LAAB dJ7_copyOfRangeByte_39247_10 hU h (fun bc4 c4 H ad6 S5 cells slots hG hx9 h_c4 h => ?_)
  have h0 := h0.up hx9
  refine lv_astore (lv' := [(4, .ref bc4), (3, .int x3), (0, .ref b0), (1, .int a1), (2, .int a2)]) hx hb dJ7_copyOfRangeByte_39247_12 hl (by decide) rfl (fun ls hl => ?_)
  refine lv_aload_n hx hb dJ7_copyOfRangeByte_39247_14 rfl (lv_at hl 2 rfl) ?_
  refine lv_iload_n hx hb dJ7_copyOfRangeByte_39247_15 rfl (lv_at hl 3 rfl) ?_
  refine lv_aload hx hb dJ7_copyOfRangeByte_39247_16 (lv_at hl 0 rfl) ?_
  refine lv_iconst (v := 0) hx hb dJ7_copyOfRangeByte_39247_18 (by decide) ?_
  refine lv_aload_n hx hb dJ7_copyOfRangeByte_39247_19 rfl (lv_at hl 2 rfl) ?_
  refine r2_len C hG h0 200000 (Or.inr (Or.inl rfl)) dJ7_copyOfRangeByte_39247_20 h (fun x7 h => ?_)
  refine lv_iload_n hx hb dJ7_copyOfRangeByte_39247_21 rfl (lv_at hl 3 rfl) ?_
  refine lv_isub hx hb dJ7_copyOfRangeByte_39247_22 ?_
  refine lv_iload_n hx hb dJ7_copyOfRangeByte_39247_23 rfl (lv_at hl 1 rfl) ?_
  refine r_min C hl.1 QLJ7_304 ⟨(Nat.le_of_ble_eq_true rfl), (Nat.le_of_ble_eq_true rfl), (GLr hG).1, (GLr hG).2⟩ dJ7_copyOfRangeByte_39247_24 ?_
  refine r_nm h (fun x8 h => ?_)
  refine r2_cpB C hl.1 hG QLJ7_150 h0 h_c4 ⟨(Nat.le_of_ble_eq_true rfl), (by show _ ≤ 60 * 2; decide +kernel)⟩ dJ7_copyOfRangeByte_39247_27 h (fun H locs S9 hG h => ?_)
  refine lv_aload hx hb dJ7_copyOfRangeByte_39247_30 (lv_at hl 0 rfl) ?_
  exact r2_aret C hF hG h_c4 (Or.inr ⟨_, rfl⟩) hr dJ7_copyOfRangeByte_39247_32 h
def kJ7_copyOfRange_39247_10  (v0 : Nat) (v1 : Int32) (v2 : Int32) (S : ZS) : Option (Nat × ZS) :=
      b2 Prod.snd (kJ7_copyOfRangeByte_39247 v0 v1 v2 S) fun c3 S1 =>
      some (c3, S1)
def kJ7_copyOfRange_39247 (c0 : Nat) (a1 : Int32) (a2 : Int32) (S0 : ZS) : Option (Nat × ZS) :=
  chk Prod.snd S0 <|
  if a1 = 0 then
    aL S0 c0 200000 fun x5 =>
    if a2 = x5 then
      clB Prod.snd S0 c0 fun c7 S8 =>
      ckA S8 c7 200000 <|
      some (c7, S8)
    else
      kJ7_copyOfRange_39247_10 c0 a1 a2 S0
  else
    kJ7_copyOfRange_39247_10 c0 a1 a2 S0
set_option maxRecDepth 100000 in
set_option maxHeartbeats 8000000 in
theorem mJ7_copyOfRange_39247 (E : EV) (l : Launch) (c0 : Nat) (a1 : Int32) (a2 : Int32) (S0 : ZS) (q0 : c0 ≠ 0 ∧ rk S0.n c0) : ∀ u, kJ7_copyOfRange_39247 c0 a1 a2 S0 = some u → MRL E l yJ7_copyOfRange_39247 cJ7_copyOfRange_39247 3 (Option.some (Jvm.ClassFile.FieldType.array Jvm.ClassFile.FieldType.byte)) 3 (fun ad => [.ref (rA E ad c0), .int a1, .int a2]) S0 u := by
  intro u h
  unfold kJ7_copyOfRange_39247 at h
  obtain ⟨hcw, h⟩ := chk_inv h
  refine ML2.of (by decide +kernel) (fun ad => Nat.le_of_ble_eq_true rfl) hcw ?_
  intro p e s m args below meth c ad F hF C hA hr hnm ls hl hG
  have C : Cx p s m args meth c cJ7_copyOfRange_39247 3 RJ7 E := C
  have hx := C.1
  have hb := C.2.1
  have hU : F.uc = (u.2).c ∧ F.uw = (u.2).w := ⟨hF.2.2.2.2.1, hF.2.2.2.2.2⟩
  have hl : lv_has ls 3 [(0, .ref (rA E ad c0)), (1, .int a1), (2, .int a2)] := hl
  obtain ⟨b0, h0, e0⟩ : ∃ b, RA E ad S0.n c0 b ∧ b = rA E ad c0 := ⟨_, RA.of q0.1 q0.2, rfl⟩
  rw [← e0] at hl
  have j10 : ∀ (v0 : Nat) (v1 : Int32) (v2 : Int32) (S : ZS) (ad : Nat → Nat) (N : Nat) (bv0 : Nat) (H : Heap) (locs : List Loc) (ls : Array Slot) (cells slots : Nat), GL E s F H locs ad N S cells slots → RA E ad N v0 bv0 → lv_has ls 3 [(0, .ref bv0), (1, .int v1), (2, .int v2)] → kJ7_copyOfRange_39247_10 v0 v1 v2 S = some u → W p l e (F.R 3) s m args below meth c H locs cells slots (MQ below (QRL E s.heap.size F.ad S0 u) args s (F.c - F.uc) (F.w - F.uw) F.A) (F0 m 10 ls []) := by
    intro v0 v1 v2 S ad N bv0 H locs ls cells slots hG hv0 hl h
    unfold kJ7_copyOfRange_39247_10 at h
    refine lv_aload_n hx hb dJ7_copyOfRange_39247_10 rfl (lv_at hl 0 rfl) ?_
    refine lv_iload_n hx hb dJ7_copyOfRange_39247_11 rfl (lv_at hl 1 rfl) ?_
    refine lv_iload_n hx hb dJ7_copyOfRange_39247_12 rfl (lv_at hl 2 rfl) ?_
    refine r2_cSR C hA hl.1 hG [.ref bv0, .int v1, .int v2] [] (mJ7_copyOfRangeByte_39247 E l v0 v1 v2 S (RAq hG hv0)) (by rw [hv0.1]) QLJ7_339 rfl (rm2 (by decide) (by decide)) (Nat.le_of_ble_eq_true rfl) rfl dJ7_copyOfRange_39247_13 hU h (fun bc3 c3 S1 H locs ad2 cells slots hG hx9 h_c3 h => ?_)
    have hv0 := hv0.up hx9
    exact r2_aret C hF hG h_c3 (Or.inr ⟨_, rfl⟩) hr dJ7_copyOfRange_39247_16 h
  refine lv_iload_n hx hb dJ7_copyOfRange_39247_0 rfl (lv_at hl 1 rfl) ?_
  refine lv_if_ne (tgt := 10) hx hb dJ7_copyOfRange_39247_1 (by decide) (fun g4 => ?_) (fun g4 => ?_)
  · have h := (if_inv h).2 g4
    exact j10 c0 a1 a2 S0 _ _ _ _ _ _ _ _ hG h0 (lv_sub hl [0, 1, 2] rfl) h
  · have h := (if_inv h).1 g4
    refine lv_iload_n hx hb dJ7_copyOfRange_39247_4 rfl (lv_at hl 2 rfl) ?_
    refine lv_aload_n hx hb dJ7_copyOfRange_39247_5 rfl (lv_at hl 0 rfl) ?_
    refine r2_len C hG h0 200000 (Or.inr (Or.inl rfl)) dJ7_copyOfRange_39247_6 h (fun x5 h => ?_)
    refine lv_icmp_eq (tgt := 17) hx hb dJ7_copyOfRange_39247_7 (by decide) (fun g6 => ?_) (fun g6 => ?_)
    · have h := (if_inv h).1 g6
      refine lv_aload_n hx hb dJ7_copyOfRange_39247_17 rfl (lv_at hl 0 rfl) ?_
      refine r2_clone C hA hl.1 hG h0 (mTBi 1344 (by decide +kernel) rfl) (mTBi 1345 (by decide +kernel) rfl) (mTBi 1346 (by decide +kernel) rfl) (mTBi 1347 (by decide +kernel) rfl) (mTBi 1348 (by decide +kernel) rfl) (mNBi 1310 (by decide +kernel) rfl) ⟨(Nat.le_of_ble_eq_true rfl), (Nat.le_of_ble_eq_true rfl)⟩ dJ7_copyOfRange_39247_18 hU h (fun bc7 c7 H ad9 S8 cells slots hG hx9 h_c7 h => ?_)
      have h0 := h0.up hx9
      refine r2_castB C hG h_c7 LKBJ7_311 dJ7_copyOfRange_39247_21 h (fun h => ?_)
      exact r2_aret C hF hG h_c7 (Or.inr ⟨_, rfl⟩) hr dJ7_copyOfRange_39247_24 h
    · have h := (if_inv h).2 g6
      exact j10 c0 a1 a2 S0 _ _ _ _ _ _ _ _ hG h0 (lv_sub hl [0, 1, 2] rfl) h
def kNJ0_init_db425_Z_79  (v0 : Nat) (v3 : Nat) (v4 : Int32) (S : ZS) : Option (ZS) :=
      pI S v0 0 1 1 fun S1 =>
      b2 id (kJ7_copyOfRange_39247 v3 0 (v4 <<< (1 &&& 31)) S1) fun c4 S2 =>
      pR S2 v0 0 0 c4 fun S5 =>
      some S5
def kNJ0_init_db425_Z (c0 : Nat) (c1 : Nat) (S0 : ZS) : Option (ZS) :=
  chk id S0 <|
  rcv S0 c1 1 <| b2 id (kJ5_getValue_6d5f1 c1 S0) fun c8 S6 =>
  rcv S6 c1 1 <| b2 id (kJ4_length_8abf5 c1 S6) fun x11 S9 =>
  rcv S9 c1 1 <| b2 id (kJ5_isLatin1_aae02 c1 S9) fun x14 S12 =>
  if x14 = 0 then
    gI S12 c1 1 2 fun x16 =>
    if x16 = 0 then
      kNJ0_init_db425_Z_79 c0 c8 x11 S12
    else
      none
  else
    pI S12 c0 0 1 0 fun S18 =>
    b2 id (kJ7_copyOfRange_39247 c8 0 x11 S18) fun c21 S19 =>
    pR S19 c0 0 0 c21 fun S22 =>
    some S22
set_option maxRecDepth 100000 in
set_option maxHeartbeats 8000000 in
theorem mNJ0_init_db425_Z (E : EV) (l : Launch) (c0 : Nat) (c1 : Nat) (S0 : ZS) (q0 : c0 ≠ 0 ∧ rk S0.n c0) (q1 : c1 ≠ 0 ∧ rk S0.n c1) : ∀ u, kNJ0_init_db425_Z c0 c1 S0 = some u → MVL E l yJ0_init_db425 cJ0_init_db425 5 none 4 (fun ad => [.ref (rA E ad c0), .ref (rA E ad c1), .null]) S0 u := by
  intro u h
  unfold kNJ0_init_db425_Z at h
  obtain ⟨hcw, h⟩ := chk_inv h
  refine ML2.of (by decide +kernel) (fun ad => Nat.le_of_ble_eq_true rfl) hcw ?_
  intro p e s m args below meth c ad F hF C hA hr hnm ls hl hG
  have C : Cx p s m args meth c cJ0_init_db425 5 RJ0 E := C
  have hx := C.1
  have hb := C.2.1
  have hU : F.uc = (u).c ∧ F.uw = (u).w := ⟨hF.2.2.2.2.1, hF.2.2.2.2.2⟩
  have hl : lv_has ls 5 [(0, .ref (rA E ad c0)), (1, .ref (rA E ad c1)), (2, .null)] := hl
  obtain ⟨b0, h0, e0⟩ : ∃ b, RA E ad S0.n c0 b ∧ b = rA E ad c0 := ⟨_, RA.of q0.1 q0.2, rfl⟩
  rw [← e0] at hl
  obtain ⟨b1, h1, e1⟩ : ∃ b, RA E ad S0.n c1 b ∧ b = rA E ad c1 := ⟨_, RA.of q1.1 q1.2, rfl⟩
  rw [← e1] at hl
  have j79 : ∀ (v0 : Nat) (v3 : Nat) (v4 : Int32) (S : ZS) (ad : Nat → Nat) (N : Nat) (bv0 : Nat) (bv3 : Nat) (H : Heap) (locs : List Loc) (ls : Array Slot) (cells slots : Nat), GL E s F H locs ad N S cells slots → RA E ad N v0 bv0 → RA E ad N v3 bv3 → lv_has ls 5 [(0, .ref bv0), (3, .ref bv3), (4, .int v4)] → kNJ0_init_db425_Z_79 v0 v3 v4 S = some u → W p l e (F.R 4) s m args below meth c H locs cells slots (MQ below (QVL E s.heap.size F.ad S0 u) args s (F.c - F.uc) (F.w - F.uw) F.A) (F0 m 79 ls []) := by
    intro v0 v3 v4 S ad N bv0 bv3 H locs ls cells slots hG hv0 hv3 hl h
    unfold kNJ0_init_db425_Z_79 at h
    refine lv_aload_n hx hb dJ0_init_db425_79 rfl (lv_at hl 0 rfl) ?_
    refine lv_iconst (v := 1) hx hb dJ0_init_db425_80 (by decide) ?_
    refine r2_pI C hG hv0 FQJ0_15 (Or.inr ⟨rfl, hnm⟩) rfl (by decide) rfl dJ0_init_db425_81 h (fun H locs S1 hG h => ?_)
    refine lv_aload_n hx hb dJ0_init_db425_84 rfl (lv_at hl 0 rfl) ?_
    refine lv_aload_n hx hb dJ0_init_db425_85 rfl (lv_at hl 1 rfl) ?_
    refine lv_iconst (v := 0) hx hb dJ0_init_db425_86 (by decide) ?_
    refine lv_iload hx hb dJ0_init_db425_87 (lv_at hl 2 rfl) ?_
    refine lv_iconst (v := 1) hx hb dJ0_init_db425_89 (by decide) ?_
    refine lv_ishl hx hb dJ0_init_db425_90 ?_
    refine r2_cSR C hA hl.1 hG [.ref bv3, .int 0, .int (v4 <<< (1 &&& 31))] [.ref bv0] (mJ7_copyOfRange_39247 E l v3 0 (v4 <<< (1 &&& 31)) S1 (RAq hG hv3)) (by rw [hv3.1]) QLJ0_54 rfl (rm2 (by decide) (by decide)) (Nat.le_of_ble_eq_true rfl) rfl dJ0_init_db425_91 hU h (fun bc4 c4 S2 H locs ad3 cells slots hG hx9 h_c4 h => ?_)
    have hv0 := hv0.up hx9
    have hv3 := hv3.up hx9
    refine r2_pR C hG hv0 h_c4.RV FQJ0_9 (Or.inr ⟨rfl, hnm⟩) rfl rfl rfl dJ0_init_db425_94 h (fun H locs S5 hG h => ?_)
    exact r2_vret C hF hG hr dJ0_init_db425_97 h
  refine lv_aload_n hx hb dJ0_init_db425_0 rfl (lv_at hl 0 rfl) ?_
  refine r2_obj C hl.1 (mTBi 1550 (by decide +kernel) rfl) QOI QOC ⟨(Nat.le_of_ble_eq_true rfl), (Nat.le_of_ble_eq_true rfl)⟩ dJ0_init_db425_1 ?_
  refine lv_aload_n hx hb dJ0_init_db425_4 rfl (lv_at hl 1 rfl) ?_
  refine r2_cUR C hA hl.1 hG h1 [] [] (mJ5_getValue_6d5f1 E l c1 S0 (RAq hG h1)) (by rw [h1.1]) QLJ0_552 rfl (rm2 (by decide) (by decide)) (Nat.le_of_ble_eq_true rfl) rfl dJ0_init_db425_5 hU h (fun bc8 c8 S6 H locs ad7 cells slots hG hx9 h_c8 h => ?_)
  have h0 := h0.up hx9
  have h1 := h1.up hx9
  refine lv_astore_n (lv' := [(3, .ref bc8), (0, .ref b0), (1, .ref b1), (2, .null)]) hx hb dJ0_init_db425_8 rfl hl (by decide) rfl (fun ls hl => ?_)
  refine lv_aload_n hx hb dJ0_init_db425_9 rfl (lv_at hl 2 rfl) ?_
  refine r2_cUI C hA hl.1 hG h1 [] [] (mJ4_length_8abf5 E l c1 S6 (RAq hG h1)) (by rw [h1.1]) QLJ0_549 rfl (rm2 (by decide) (by decide)) (Nat.le_of_ble_eq_true rfl) rfl dJ0_init_db425_10 hU h (fun x11 S9 H locs ad10 cells slots hG hx9 h => ?_)
  have h_c8 := h_c8.up hx9
  have h0 := h0.up hx9
  have h1 := h1.up hx9
  refine lv_istore (lv' := [(4, .int x11), (3, .ref bc8), (0, .ref b0), (1, .ref b1), (2, .null)]) hx hb dJ0_init_db425_13 hl (by decide) rfl (fun ls hl => ?_)
  refine lv_aload_n hx hb dJ0_init_db425_15 rfl (lv_at hl 3 rfl) ?_
  refine r2_cUI C hA hl.1 hG h1 [] [] (mJ5_isLatin1_aae02 E l c1 S9 (RAq hG h1)) (by rw [h1.1]) QLJ0_1047 rfl (rm2 (by decide) (by decide)) (Nat.le_of_ble_eq_true rfl) rfl dJ0_init_db425_16 hU h (fun x14 S12 H locs ad13 cells slots hG hx9 h => ?_)
  have h_c8 := h_c8.up hx9
  have h0 := h0.up hx9
  have h1 := h1.up hx9
  refine lv_if_eq (tgt := 41) hx hb dJ0_init_db425_19 (by decide) (fun g15 => ?_) (fun g15 => ?_)
  · have h := (if_inv h).1 g15
    refine r2_gCS C hA hG FSJ0_38 dJ0_init_db425_41 ?_
    refine lv_if_eq (tgt := 79) hx hb dJ0_init_db425_44 (by decide) (fun c => absurd c (by decide)) (fun _ => ?_)
    refine lv_aload_n hx hb dJ0_init_db425_47 rfl (lv_at hl 3 rfl) ?_
    refine r2_gI C hG h1 FQJ0_1048 rfl dJ0_init_db425_48 h (fun x16 h => ?_)
    refine lv_if_eq (tgt := 79) hx hb dJ0_init_db425_51 (by decide) (fun g17 => ?_) (fun g17 => ?_)
    · have h := (if_inv h).1 g17
      exact j79 c0 c8 x11 S12 _ _ _ _ _ _ _ _ _ hG h0 h_c8 (lv_sub hl [2, 1, 0] rfl) h
    · have h := (if_inv h).2 g17
      refine lv_aload_n hx hb dJ0_init_db425_54 rfl (lv_at hl 2 rfl) ?_
      refine lv_aload_n hx hb dJ0_init_db425_55 rfl (lv_at hl 1 rfl) ?_
      refine lv_iconst (v := 0) hx hb dJ0_init_db425_56 (by decide) ?_
      refine lv_iload hx hb dJ0_init_db425_57 (lv_at hl 0 rfl) ?_
      cases h
  · have h := (if_inv h).2 g15
    refine lv_aload_n hx hb dJ0_init_db425_22 rfl (lv_at hl 2 rfl) ?_
    refine lv_iconst (v := 0) hx hb dJ0_init_db425_23 (by decide) ?_
    refine r2_pI C hG h0 FQJ0_15 (Or.inr ⟨rfl, hnm⟩) rfl (by decide) rfl dJ0_init_db425_24 h (fun H locs S18 hG h => ?_)
    refine lv_aload_n hx hb dJ0_init_db425_27 rfl (lv_at hl 2 rfl) ?_
    refine lv_aload_n hx hb dJ0_init_db425_28 rfl (lv_at hl 1 rfl) ?_
    refine lv_iconst (v := 0) hx hb dJ0_init_db425_29 (by decide) ?_
    refine lv_iload hx hb dJ0_init_db425_30 (lv_at hl 0 rfl) ?_
    refine r2_cSR C hA hl.1 hG [.ref bc8, .int 0, .int x11] [.ref b0] (mJ7_copyOfRange_39247 E l c8 0 x11 S18 (RAq hG h_c8)) (by rw [h_c8.1]) QLJ0_54 rfl (rm2 (by decide) (by decide)) (Nat.le_of_ble_eq_true rfl) rfl dJ0_init_db425_32 hU h (fun bc21 c21 S19 H locs ad20 cells slots hG hx9 h_c21 h => ?_)
    have h_c8 := h_c8.up hx9
    have h0 := h0.up hx9
    have h1 := h1.up hx9
    refine r2_pR C hG h0 h_c21.RV FQJ0_9 (Or.inr ⟨rfl, hnm⟩) rfl rfl rfl dJ0_init_db425_35 h (fun H locs S22 hG h => ?_)
    refine lv_goto (tgt := 97) hx hb dJ0_init_db425_38 (by decide) ?_
    exact r2_vret C hF hG hr dJ0_init_db425_97 h
def kNJ0_init_81219 (c0 : Nat) (c1 : Nat) (S0 : ZS) : Option (ZS) :=
  chk id S0 <|
  b1 id (kNJ0_init_db425_Z c0 c1 S0) fun S1 =>
  some S1
set_option maxRecDepth 100000 in
set_option maxHeartbeats 8000000 in
theorem mNJ0_init_81219 (E : EV) (l : Launch) (c0 : Nat) (c1 : Nat) (S0 : ZS) (q0 : c0 ≠ 0 ∧ rk S0.n c0) (q1 : c1 ≠ 0 ∧ rk S0.n c1) : ∀ u, kNJ0_init_81219 c0 c1 S0 = some u → MVL E l yJ0_init_81219 cJ0_init_81219 2 none 5 (fun ad => [.ref (rA E ad c0), .ref (rA E ad c1)]) S0 u := by
  intro u h
  unfold kNJ0_init_81219 at h
  obtain ⟨hcw, h⟩ := chk_inv h
  refine ML2.of (by decide +kernel) (fun ad => Nat.le_of_ble_eq_true rfl) hcw ?_
  intro p e s m args below meth c ad F hF C hA hr hnm ls hl hG
  have C : Cx p s m args meth c cJ0_init_81219 2 RJ0 E := C
  have hx := C.1
  have hb := C.2.1
  have hU : F.uc = (u).c ∧ F.uw = (u).w := ⟨hF.2.2.2.2.1, hF.2.2.2.2.2⟩
  have hl : lv_has ls 2 [(0, .ref (rA E ad c0)), (1, .ref (rA E ad c1))] := hl
  obtain ⟨b0, h0, e0⟩ : ∃ b, RA E ad S0.n c0 b ∧ b = rA E ad c0 := ⟨_, RA.of q0.1 q0.2, rfl⟩
  rw [← e0] at hl
  obtain ⟨b1, h1, e1⟩ : ∃ b, RA E ad S0.n c1 b ∧ b = rA E ad c1 := ⟨_, RA.of q1.1 q1.2, rfl⟩
  rw [← e1] at hl
  refine lv_aload_n hx hb dJ0_init_81219_0 rfl (lv_at hl 0 rfl) ?_
  refine lv_aload_n hx hb dJ0_init_81219_1 rfl (lv_at hl 1 rfl) ?_
  refine lv_null hx hb dJ0_init_81219_2 ?_
  refine r2_cIV C hA hl.1 hG [.ref b1, .null] [] (mNJ0_init_db425_Z E l c0 c1 S0 (RAq hG h0) (RAq hG h1)) (by rw [h0.1, h1.1]) QLJ0_489 rfl (rm2 (by decide) (by decide)) (Nat.le_of_ble_eq_true rfl) rfl dJ0_init_81219_3 hU h (fun S1 H locs ad2 cells slots hG hx9 h => ?_)
  have h0 := h0.up hx9
  have h1 := h1.up hx9
  exact r2_vret C hF hG hr dJ0_init_81219_6 h
def kJ4_toString_0e30d (c0 : Nat) (S0 : ZS) : Option (Nat × ZS) :=
  chk Prod.snd S0 <|
  nO Prod.snd S0 0 4 fun c1 S2 =>
  b1 Prod.snd (kNJ0_init_81219 c1 c0 S2) fun S4 =>
  some (c1, S4)
set_option maxRecDepth 100000 in
set_option maxHeartbeats 8000000 in
theorem mJ4_toString_0e30d (E : EV) (l : Launch) (c0 : Nat) (S0 : ZS) (q0 : c0 ≠ 0 ∧ rk S0.n c0) : ∀ u, kJ4_toString_0e30d c0 S0 = some u → MRL E l yJ4_toString_0e30d cJ4_toString_0e30d 1 (Option.some (Jvm.ClassFile.FieldType.object "java/lang/String")) 6 (fun ad => [.ref (rA E ad c0)]) S0 u := by
  intro u h
  unfold kJ4_toString_0e30d at h
  obtain ⟨hcw, h⟩ := chk_inv h
  refine ML2.of (by decide +kernel) (fun ad => Nat.le_of_ble_eq_true rfl) hcw ?_
  intro p e s m args below meth c ad F hF C hA hr hnm ls hl hG
  have C : Cx p s m args meth c cJ4_toString_0e30d 1 RJ4 E := C
  have hx := C.1
  have hb := C.2.1
  have hU : F.uc = (u.2).c ∧ F.uw = (u.2).w := ⟨hF.2.2.2.2.1, hF.2.2.2.2.2⟩
  have hl : lv_has ls 1 [(0, .ref (rA E ad c0))] := hl
  obtain ⟨b0, h0, e0⟩ : ∃ b, RA E ad S0.n c0 b ∧ b = rA E ad c0 := ⟨_, RA.of q0.1 q0.2, rfl⟩
  rw [← e0] at hl
  refine r2_new C hA hG KP0 (mTBi 1542 (by decide +kernel) rfl) (mTBi 1543 (by decide +kernel) rfl) (mTBi 52 (by decide +kernel) rfl) (by decide +kernel) dJ4_toString_0e30d_0 hU h (fun bc1 c1 H ad3 S2 cells slots hG hx9 h_c1 h => ?_)
  have h0 := h0.up hx9
  refine lv_dup hx hb dJ4_toString_0e30d_3 rfl ?_
  refine lv_aload_n hx hb dJ4_toString_0e30d_4 rfl (lv_at hl 0 rfl) ?_
  refine r2_cIV C hA hl.1 hG [.ref b0] [.ref bc1] (mNJ0_init_81219 E l c1 c0 S2 (RAq hG h_c1) (RAq hG h0)) (by rw [h_c1.1, h0.1]) QLJ4_137 rfl (rm2 (by decide) (by decide)) (Nat.le_of_ble_eq_true rfl) rfl dJ4_toString_0e30d_5 hU h (fun S4 H locs ad5 cells slots hG hx9 h => ?_)
  have h0 := h0.up hx9
  have h_c1 := h_c1.up hx9
  exact r2_aret C hF hG h_c1 (Or.inl ⟨_, rfl⟩) hr dJ4_toString_0e30d_8 h
def kNJ0_isLatin1_aae02 (c0 : Nat) (S0 : ZS) : Option (Int32 × ZS) :=
  chk Prod.snd S0 <|
  gI S0 c0 0 1 fun x1 =>
  if x1 = 0 then
    some (1, S0)
  else
    some (0, S0)
set_option maxRecDepth 100000 in
set_option maxHeartbeats 8000000 in
theorem mNJ0_isLatin1_aae02 (E : EV) (l : Launch) (c0 : Nat) (S0 : ZS) (q0 : c0 ≠ 0 ∧ rk S0.n c0) : ∀ u, kNJ0_isLatin1_aae02 c0 S0 = some u → MIL E l yJ0_isLatin1_aae02 cJ0_isLatin1_aae02 1 (Option.some Jvm.ClassFile.FieldType.boolean) 1 (fun ad => [.ref (rA E ad c0)]) S0 u := by
  intro u h
  unfold kNJ0_isLatin1_aae02 at h
  obtain ⟨hcw, h⟩ := chk_inv h
  refine ML2.of (by decide +kernel) (fun ad => Nat.le_of_ble_eq_true rfl) hcw ?_
  intro p e s m args below meth c ad F hF C hA hr hnm ls hl hG
  have C : Cx p s m args meth c cJ0_isLatin1_aae02 1 RJ0 E := C
  have hx := C.1
  have hb := C.2.1
  have hU : F.uc = (u.2).c ∧ F.uw = (u.2).w := ⟨hF.2.2.2.2.1, hF.2.2.2.2.2⟩
  have hl : lv_has ls 1 [(0, .ref (rA E ad c0))] := hl
  obtain ⟨b0, h0, e0⟩ : ∃ b, RA E ad S0.n c0 b ∧ b = rA E ad c0 := ⟨_, RA.of q0.1 q0.2, rfl⟩
  rw [← e0] at hl
  refine r2_gCS C hA hG FSJ0_38 dJ0_isLatin1_aae02_0 ?_
  refine lv_if_eq (tgt := 17) hx hb dJ0_isLatin1_aae02_3 (by decide) (fun c => absurd c (by decide)) (fun _ => ?_)
  refine lv_aload_n hx hb dJ0_isLatin1_aae02_6 rfl (lv_at hl 0 rfl) ?_
  refine r2_gI C hG h0 FQJ0_15 rfl dJ0_isLatin1_aae02_7 h (fun x1 h => ?_)
  refine lv_if_ne (tgt := 17) hx hb dJ0_isLatin1_aae02_10 (by decide) (fun g2 => ?_) (fun g2 => ?_)
  · have h := (if_inv h).2 g2
    refine lv_iconst (v := 0) hx hb dJ0_isLatin1_aae02_17 (by decide) ?_
    exact r2_iret C hF hG hr rfl dJ0_isLatin1_aae02_18 h
  · have h := (if_inv h).1 g2
    refine lv_iconst (v := 1) hx hb dJ0_isLatin1_aae02_13 (by decide) ?_
    refine lv_goto (tgt := 18) hx hb dJ0_isLatin1_aae02_14 (by decide) ?_
    exact r2_iret C hF hG hr rfl dJ0_isLatin1_aae02_18 h
def kNJ1_charAt_3b067 (c0 : Nat) (a1 : Int32) (S0 : ZS) : Option (Int32 × ZS) :=
  chk Prod.snd S0 <|
  aL S0 c0 200000 fun x1 =>
  (kJ0_checkIndex_df160 a1 x1 S0.g).bind fun _ =>
  aG S0 c0 200000 a1 fun x2 =>
  zcL (((x2 &&& 255).toUInt32 % 65536).toInt32) S0
set_option maxRecDepth 100000 in
set_option maxHeartbeats 8000000 in
theorem mNJ1_charAt_3b067 (E : EV) (l : Launch) (c0 : Nat) (a1 : Int32) (S0 : ZS) (q0 : c0 ≠ 0 ∧ rk S0.n c0) : ∀ u, kNJ1_charAt_3b067 c0 a1 S0 = some u → MIL E l yJ1_charAt_3b067 cJ1_charAt_3b067 2 (Option.some Jvm.ClassFile.FieldType.char) 3 (fun ad => [.ref (rA E ad c0), .int a1]) S0 u := by
  intro u h
  unfold kNJ1_charAt_3b067 at h
  obtain ⟨hcw, h⟩ := chk_inv h
  refine ML2.of (by decide +kernel) (fun ad => Nat.le_of_ble_eq_true rfl) hcw ?_
  intro p e s m args below meth c ad F hF C hA hr hnm ls hl hG
  have C : Cx p s m args meth c cJ1_charAt_3b067 2 RJ1 E := C
  have hx := C.1
  have hb := C.2.1
  have hU : F.uc = (u.2).c ∧ F.uw = (u.2).w := ⟨hF.2.2.2.2.1, hF.2.2.2.2.2⟩
  have hl : lv_has ls 2 [(0, .ref (rA E ad c0)), (1, .int a1)] := hl
  obtain ⟨b0, h0, e0⟩ : ∃ b, RA E ad S0.n c0 b ∧ b = rA E ad c0 := ⟨_, RA.of q0.1 q0.2, rfl⟩
  rw [← e0] at hl
  refine lv_iload_n hx hb dJ1_charAt_3b067_0 rfl (lv_at hl 1 rfl) ?_
  refine lv_aload_n hx hb dJ1_charAt_3b067_1 rfl (lv_at hl 0 rfl) ?_
  refine r2_len C hG h0 200000 (Or.inr (Or.inl rfl)) dJ1_charAt_3b067_2 h (fun x1 h => ?_)
  refine r2_csV C hA hl.1 hG [.int a1, .int x1] [] (mJ0_checkIndex_df160 E l a1 x1 S0.g) QLJ1_9 (mTBi 929 (by decide +kernel) rfl) rfl (rm2 (by decide) (by decide)) (Nat.le_of_ble_eq_true rfl) rfl dJ1_charAt_3b067_3 h (fun _ H locs hG h => ?_)
  refine lv_aload_n hx hb dJ1_charAt_3b067_6 rfl (lv_at hl 0 rfl) ?_
  refine lv_iload_n hx hb dJ1_charAt_3b067_7 rfl (lv_at hl 1 rfl) ?_
  refine r2_gAB C hG h0 dJ1_charAt_3b067_8 h (fun x2 h => ?_)
  refine lv_sipush (v := 255) hx hb dJ1_charAt_3b067_9 (by decide) ?_
  refine lv_iand hx hb dJ1_charAt_3b067_12 ?_
  refine lv_i2c hx hb dJ1_charAt_3b067_13 rfl ?_
  exact r2_cret C hF hG hr dJ1_charAt_3b067_14 h
def kNJ0_charAt_5068e (c0 : Nat) (a1 : Int32) (S0 : ZS) : Option (Int32 × ZS) :=
  chk Prod.snd S0 <|
  rcv S0 c0 0 <| b2 Prod.snd (kNJ0_isLatin1_aae02 c0 S0) fun x3 S1 =>
  if x3 = 0 then
    gN S1 c0 0 0 fun c5 =>
    none
  else
    gN S1 c0 0 0 fun c6 =>
    b2 Prod.snd (kNJ1_charAt_3b067 c6 a1 S1) fun x9 S7 =>
    zcL x9 S7
set_option maxRecDepth 100000 in
set_option maxHeartbeats 8000000 in
theorem mNJ0_charAt_5068e (E : EV) (l : Launch) (c0 : Nat) (a1 : Int32) (S0 : ZS) (q0 : c0 ≠ 0 ∧ rk S0.n c0) : ∀ u, kNJ0_charAt_5068e c0 a1 S0 = some u → MIL E l yJ0_charAt_5068e cJ0_charAt_5068e 2 (Option.some Jvm.ClassFile.FieldType.char) 4 (fun ad => [.ref (rA E ad c0), .int a1]) S0 u := by
  intro u h
  unfold kNJ0_charAt_5068e at h
  obtain ⟨hcw, h⟩ := chk_inv h
  refine ML2.of (by decide +kernel) (fun ad => Nat.le_of_ble_eq_true rfl) hcw ?_
  intro p e s m args below meth c ad F hF C hA hr hnm ls hl hG
  have C : Cx p s m args meth c cJ0_charAt_5068e 2 RJ0 E := C
  have hx := C.1
  have hb := C.2.1
  have hU : F.uc = (u.2).c ∧ F.uw = (u.2).w := ⟨hF.2.2.2.2.1, hF.2.2.2.2.2⟩
  have hl : lv_has ls 2 [(0, .ref (rA E ad c0)), (1, .int a1)] := hl
  obtain ⟨b0, h0, e0⟩ : ∃ b, RA E ad S0.n c0 b ∧ b = rA E ad c0 := ⟨_, RA.of q0.1 q0.2, rfl⟩
  rw [← e0] at hl
  refine lv_aload_n hx hb dJ0_charAt_5068e_0 rfl (lv_at hl 0 rfl) ?_
  refine r2_cVI C hA hl.1 hG h0 [] [] (mNJ0_isLatin1_aae02 E l c0 S0 (RAq hG h0)) (by rw [h0.1]) QLJ0_492 KP0 rfl (rm2 (by decide) (by decide)) (Nat.le_of_ble_eq_true rfl) rfl dJ0_charAt_5068e_1 hU h (fun x3 S1 H locs ad2 cells slots hG hx9 h => ?_)
  have h0 := h0.up hx9
  refine lv_if_eq (tgt := 16) hx hb dJ0_charAt_5068e_4 (by decide) (fun g4 => ?_) (fun g4 => ?_)
  · have h := (if_inv h).1 g4
    refine lv_aload_n hx hb dJ0_charAt_5068e_16 rfl (lv_at hl 0 rfl) ?_
    refine r2_gN C hG h0 FQJ0_9 rfl dJ0_charAt_5068e_17 h (fun c5 bc5 h_c5 h => ?_)
    refine lv_iload_n hx hb dJ0_charAt_5068e_20 rfl (lv_at hl 1 rfl) ?_
    cases h
  · have h := (if_inv h).2 g4
    refine lv_aload_n hx hb dJ0_charAt_5068e_7 rfl (lv_at hl 0 rfl) ?_
    refine r2_gN C hG h0 FQJ0_9 rfl dJ0_charAt_5068e_8 h (fun c6 bc6 h_c6 h => ?_)
    refine lv_iload_n hx hb dJ0_charAt_5068e_11 rfl (lv_at hl 1 rfl) ?_
    refine r2_cSI C hA hl.1 hG [.ref bc6, .int a1] [] (mNJ1_charAt_3b067 E l c6 a1 S1 (RAq hG h_c6)) (by rw [h_c6.1]) QLJ0_495 rfl (rm2 (by decide) (by decide)) (Nat.le_of_ble_eq_true rfl) rfl dJ0_charAt_5068e_12 hU h (fun x9 S7 H locs ad8 cells slots hG hx9 h => ?_)
    have h0 := h0.up hx9
    exact r2_cret C hF hG hr dJ0_charAt_5068e_15 h
/-- append of a String that is an object or a constant -/
def kJ4_append_15ec4_C (c0 c1 : Nat) (S0 : ZS) : Option (Nat × ZS) := if c1 % 2 = 1 then kJ4_append_15ec4 c0 c1 S0 else kJ4_append_15ec4_S c0 (c1 / 2 - 1) S0
theorem mJ4_append_15ec4_C (E : EV) (l : Launch) (c0 c1 : Nat) (S0 : ZS) (q0 : c0 ≠ 0 ∧ rk S0.n c0) (q1 : c1 ≠ 0 ∧ rk S0.n c1) : ∀ u, kJ4_append_15ec4_C c0 c1 S0 = some u → MRL E l yJ4_append_15ec4 cJ4_append_15ec4 2 (Option.some (Jvm.ClassFile.FieldType.object "java/lang/StringBuilder")) 6 (fun ad => [.ref (rA E ad c0), .ref (rA E ad c1)]) S0 u := by
  intro u h
  unfold kJ4_append_15ec4_C at h
  by_cases hc : c1 % 2 = 1
  · rw [if_pos hc] at h
    exact mJ4_append_15ec4 E l c0 c1 S0 q0 q1 u h
  · rw [if_neg hc] at h
    have e : ∀ ad : Nat → Nat, rA E ad c1 = E.aK (c1 / 2 - 1) := fun ad => if_neg hc
    simp only [e]
    exact mJ4_append_15ec4_S E l c0 (c1 / 2 - 1) S0 q0 u h

