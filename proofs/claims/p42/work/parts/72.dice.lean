def kX9_init (c0 : Nat) (a1 : Int32) (S0 : ZS) : Option (ZS) :=
  chk id S0 <|
  pI S0 c0 11 0 a1 fun S1 =>
  some S1
set_option maxRecDepth 100000 in
set_option maxHeartbeats 8000000 in
theorem mX9_init (E : EV) (l : Launch) (c0 : Nat) (a1 : Int32) (S0 : ZS) (q0 : c0 ≠ 0 ∧ rk S0.n c0) : ∀ u, kX9_init c0 a1 S0 = some u → MVL E l yX9_init cX9_init 2 none 2 (fun ad => [.ref (rA E ad c0), .int a1]) S0 u := by
  intro u h
  unfold kX9_init at h
  obtain ⟨hcw, h⟩ := chk_inv h
  refine ML2.of (by decide +kernel) (fun ad => Nat.le_of_ble_eq_true rfl) hcw ?_
  intro p e s m args below meth c ad F hF C hA hr hnm ls hl hG
  have C : Cx p s m args meth c cX9_init 2 RX9 E := C
  have hx := C.1
  have hb := C.2.1
  have hU : F.uc = (u).c ∧ F.uw = (u).w := ⟨hF.2.2.2.2.1, hF.2.2.2.2.2⟩
  have hl : lv_has ls 2 [(0, .ref (rA E ad c0)), (1, .int a1)] := hl
  obtain ⟨b0, h0, e0⟩ : ∃ b, RA E ad S0.n c0 b ∧ b = rA E ad c0 := ⟨_, RA.of q0.1 q0.2, rfl⟩
  rw [← e0] at hl
  refine lv_aload_n hx hb dX9_init_0 rfl (lv_at hl 0 rfl) ?_
  refine r2_obj C hl.1 (mTBi 795 (by decide +kernel) rfl) QOI QOC ⟨(Nat.le_of_ble_eq_true rfl), (Nat.le_of_ble_eq_true rfl)⟩ dX9_init_1 ?_
  refine lv_aload_n hx hb dX9_init_4 rfl (lv_at hl 0 rfl) ?_
  refine lv_iload_n hx hb dX9_init_5 rfl (lv_at hl 1 rfl) ?_
  refine r2_pI C hG h0 FQX9_7 (Or.inl rfl) rfl rfl rfl dX9_init_6 h (fun H locs S1 hG h => ?_)
  exact r2_vret C hF hG hr dX9_init_9 h
def kL_below (a0 : Int32) (a1 : Int32) (S0 : ZS) : Option (Int32 × ZS) :=
  chk Prod.snd S0 <|
  rmI (a0 &&& 2147483647) a1 fun x1 =>
  some (x1, S0)
set_option maxRecDepth 100000 in
set_option maxHeartbeats 8000000 in
theorem mL_below (E : EV) (l : Launch) (a0 : Int32) (a1 : Int32) (S0 : ZS) : ∀ u, kL_below a0 a1 S0 = some u → MIL E l yL_below cL_below 2 (Option.some Jvm.ClassFile.FieldType.int) 1 (fun ad => [.int a0, .int a1]) S0 u := by
  intro u h
  unfold kL_below at h
  obtain ⟨hcw, h⟩ := chk_inv h
  refine ML2.of (by decide +kernel) (fun ad => Nat.le_of_ble_eq_true rfl) hcw ?_
  intro p e s m args below meth c ad F hF C hA hr hnm ls hl hG
  have C : Cx p s m args meth c cL_below 2 RL E := C
  have hx := C.1
  have hb := C.2.1
  have hU : F.uc = (u.2).c ∧ F.uw = (u.2).w := ⟨hF.2.2.2.2.1, hF.2.2.2.2.2⟩
  have hl : lv_has ls 2 [(0, .int a0), (1, .int a1)] := hl
  refine lv_iload_n hx hb dL_below_0 rfl (lv_at hl 0 rfl) ?_
  refine lv_ldc (v := 2147483647) hx hb C.2.2.2.1 (C.2.2.2.2.1 _ LQL_7) dL_below_1 ?_
  refine lv_iand hx hb dL_below_3 ?_
  refine lv_iload_n hx hb dL_below_4 rfl (lv_at hl 1 rfl) ?_
  refine r2_rem C dL_below_5 h (fun x1 h => ?_)
  exact r2_iret C hF hG hr rfl dL_below_6 h
def kX9_next (c0 : Nat) (a1 : Int32) (S0 : ZS) : Option (Int32 × ZS) :=
  chk Prod.snd S0 <|
  gI S0 c0 11 0 fun x1 =>
  pI S0 c0 11 0 ((x1 * 1103515245) + 12345) fun S2 =>
  gI S2 c0 11 0 fun x3 =>
  b2 Prod.snd (kL_below (x3 >>> (9 &&& 31)) a1 S2) fun x6 S4 =>
  some (x6, S4)
set_option maxRecDepth 100000 in
set_option maxHeartbeats 8000000 in
theorem mX9_next (E : EV) (l : Launch) (c0 : Nat) (a1 : Int32) (S0 : ZS) (q0 : c0 ≠ 0 ∧ rk S0.n c0) : ∀ u, kX9_next c0 a1 S0 = some u → MIL E l yX9_next cX9_next 2 (Option.some Jvm.ClassFile.FieldType.int) 2 (fun ad => [.ref (rA E ad c0), .int a1]) S0 u := by
  intro u h
  unfold kX9_next at h
  obtain ⟨hcw, h⟩ := chk_inv h
  refine ML2.of (by decide +kernel) (fun ad => Nat.le_of_ble_eq_true rfl) hcw ?_
  intro p e s m args below meth c ad F hF C hA hr hnm ls hl hG
  have C : Cx p s m args meth c cX9_next 2 RX9 E := C
  have hx := C.1
  have hb := C.2.1
  have hU : F.uc = (u.2).c ∧ F.uw = (u.2).w := ⟨hF.2.2.2.2.1, hF.2.2.2.2.2⟩
  have hl : lv_has ls 2 [(0, .ref (rA E ad c0)), (1, .int a1)] := hl
  obtain ⟨b0, h0, e0⟩ : ∃ b, RA E ad S0.n c0 b ∧ b = rA E ad c0 := ⟨_, RA.of q0.1 q0.2, rfl⟩
  rw [← e0] at hl
  refine lv_aload_n hx hb dX9_next_0 rfl (lv_at hl 0 rfl) ?_
  refine lv_aload_n hx hb dX9_next_1 rfl (lv_at hl 0 rfl) ?_
  refine r2_gI C hG h0 FQX9_7 rfl dX9_next_2 h (fun x1 h => ?_)
  refine lv_ldc (v := 1103515245) hx hb C.2.2.2.1 (C.2.2.2.2.1 _ LQX9_13) dX9_next_5 ?_
  refine lv_imul hx hb dX9_next_7 ?_
  refine lv_sipush (v := 12345) hx hb dX9_next_8 (by decide) ?_
  refine lv_iadd hx hb dX9_next_11 ?_
  refine r2_pI C hG h0 FQX9_7 (Or.inl rfl) rfl rfl rfl dX9_next_12 h (fun H locs S2 hG h => ?_)
  refine lv_aload_n hx hb dX9_next_15 rfl (lv_at hl 0 rfl) ?_
  refine r2_gI C hG h0 FQX9_7 rfl dX9_next_16 h (fun x3 h => ?_)
  refine lv_bipush (v := 9) hx hb dX9_next_19 (by decide) ?_
  refine lv_ishr hx hb dX9_next_21 ?_
  refine lv_iload_n hx hb dX9_next_22 rfl (lv_at hl 1 rfl) ?_
  refine r2_cSI C hA hl.1 hG [.int (x3 >>> (9 &&& 31)), .int a1] [] (mL_below E l (x3 >>> (9 &&& 31)) a1 S2) rfl QLX9_14 rfl (rm2 (by decide) (by decide)) (Nat.le_of_ble_eq_true rfl) rfl dX9_next_23 hU h (fun x6 S4 H locs ad5 cells slots hG hx9 h => ?_)
  have h0 := h0.up hx9
  exact r2_iret C hF hG hr rfl dX9_next_26 h
def kL_cell (sL : Nat) (sx : Nat → Int32) (a1 : Int32) (S0 : ZS) : Option (Int32 × ZS) :=
  chk Prod.snd S0 <|
  if (nI sL) ≤ a1 then
    some ((790386105 * (a1 + 3)), S0)
  else
    xld sL sx a1 fun x2 =>
    some (x2, S0)
set_option maxRecDepth 100000 in
set_option maxHeartbeats 8000000 in
theorem mL_cell (E : EV) (l : Launch) (a1 : Int32) (S0 : ZS) : ∀ u, kL_cell E.sL E.sx a1 S0 = some u → MIL E l yL_cell cL_cell 2 (Option.some Jvm.ClassFile.FieldType.int) 1 (fun ad => [.ref E.sb, .int a1]) S0 u := by
  intro u h
  unfold kL_cell at h
  obtain ⟨hcw, h⟩ := chk_inv h
  refine ML2.of (by decide +kernel) (fun ad => Nat.le_of_ble_eq_true rfl) hcw ?_
  intro p e s m args below meth c ad F hF C hA hr hnm ls hl hG
  have C : Cx p s m args meth c cL_cell 2 RL E := C
  have hx := C.1
  have hb := C.2.1
  have hU : F.uc = (u.2).c ∧ F.uw = (u.2).w := ⟨hF.2.2.2.2.1, hF.2.2.2.2.2⟩
  have hl : lv_has ls 2 [(0, .ref E.sb), (1, .int a1)] := hl
  refine lv_iload_n hx hb dL_cell_0 rfl (lv_at hl 1 rfl) ?_
  refine lv_aload_n hx hb dL_cell_1 rfl (lv_at hl 0 rfl) ?_
  refine r2_xlen C hA hG dL_cell_2 ?_
  refine lv_icmp_ge (tgt := 12) hx hb dL_cell_3 (by decide) (fun g1 => ?_) (fun g1 => ?_)
  · have h := (if_inv h).1 g1
    refine lv_ldc (v := 790386105) hx hb C.2.2.2.1 (C.2.2.2.2.1 _ LQL_8) dL_cell_12 ?_
    refine lv_iload_n hx hb dL_cell_14 rfl (lv_at hl 1 rfl) ?_
    refine lv_iconst (v := 3) hx hb dL_cell_15 (by decide) ?_
    refine lv_iadd hx hb dL_cell_16 ?_
    refine lv_imul hx hb dL_cell_17 ?_
    exact r2_iret C hF hG hr rfl dL_cell_18 h
  · have h := (if_inv h).2 g1
    refine lv_aload_n hx hb dL_cell_6 rfl (lv_at hl 0 rfl) ?_
    refine lv_iload_n hx hb dL_cell_7 rfl (lv_at hl 1 rfl) ?_
    refine r2_xld C hA hG dL_cell_8 h (fun x2 h => ?_)
    refine lv_goto (tgt := 18) hx hb dL_cell_9 (by decide) ?_
    exact r2_iret C hF hG hr rfl dL_cell_18 h
