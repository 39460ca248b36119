def kX11_init (c0 : Nat) (c1 : Nat) (a2 : Int32) (S0 : ZS) : Option (ZS) :=
  chk id S0 <|
  rcv S0 c1 11 <| b2 id (kX9_next c1 5 S0) fun x3 S1 =>
  pI S1 c0 13 0 x3 fun S4 =>
  rcv S4 c1 11 <| b2 id (kX9_next c1 a2 S4) fun x7 S5 =>
  pI S5 c0 13 1 x7 fun S8 =>
  gI S8 c0 13 0 fun x9 =>
  if 3 ≤ x9 then
    rcv S8 c1 11 <| b2 id (kX9_next c1 2 S8) fun x13 S11 =>
    if x13 = 0 then
      nO id S11 12 4 fun c28 S29 =>
      rcv S29 c1 11 <| b2 id (kX9_next c1 4 S29) fun x33 S31 =>
      b1 id (kX10_init_ZZ c28 0 x33 S31) fun S34 =>
      pR S34 c0 13 2 c28 fun S36 =>
      rcv S36 c1 11 <| b2 id (kX9_next c1 3 S36) fun x39 S37 =>
      if x39 = 0 then
        pR S37 c0 13 3 0 fun S45 =>
        some S45
      else
        b2 id (kX10_test c1 a2 1 S37) fun c43 S41 =>
        pR S41 c0 13 3 c43 fun S44 =>
        some S44
    else
      b2 id (kX10_sum c1 a2 2 S11) fun c17 S15 =>
      pR S15 c0 13 2 c17 fun S18 =>
      rcv S18 c1 11 <| b2 id (kX9_next c1 3 S18) fun x21 S19 =>
      if x21 = 0 then
        pR S19 c0 13 3 0 fun S27 =>
        some S27
      else
        b2 id (kX10_test c1 a2 1 S19) fun c25 S23 =>
        pR S23 c0 13 3 c25 fun S26 =>
        some S26
  else
    pR S8 c0 13 2 0 fun S46 =>
    rcv S46 c1 11 <| b2 id (kX9_next c1 3 S46) fun x49 S47 =>
    if x49 = 0 then
      pR S47 c0 13 3 0 fun S55 =>
      some S55
    else
      b2 id (kX10_test c1 a2 1 S47) fun c53 S51 =>
      pR S51 c0 13 3 c53 fun S54 =>
      some S54
set_option maxRecDepth 100000 in
set_option maxHeartbeats 8000000 in
theorem mX11_init (E : EV) (l : Launch) (c0 : Nat) (c1 : Nat) (a2 : Int32) (S0 : ZS) (q0 : c0 ≠ 0 ∧ rk S0.n c0) (q1 : c1 ≠ 0 ∧ rk S0.n c1) : ∀ u, kX11_init c0 c1 a2 S0 = some u → MVL E l yX11_init cX11_init 3 none 29 (fun ad => [.ref (rA E ad c0), .ref (rA E ad c1), .int a2]) S0 u := by
  intro u h
  unfold kX11_init at h
  obtain ⟨hcw, h⟩ := chk_inv h
  refine ML2.of (by decide +kernel) (fun ad => Nat.le_of_ble_eq_true rfl) hcw ?_
  intro p e s m args below meth c ad F hF C hA hr hnm ls hl hG
  have C : Cx p s m args meth c cX11_init 3 RX11 E := C
  have hx := C.1
  have hb := C.2.1
  have hU : F.uc = (u).c ∧ F.uw = (u).w := ⟨hF.2.2.2.2.1, hF.2.2.2.2.2⟩
  have hl : lv_has ls 3 [(0, .ref (rA E ad c0)), (1, .ref (rA E ad c1)), (2, .int a2)] := hl
  obtain ⟨b0, h0, e0⟩ : ∃ b, RA E ad S0.n c0 b ∧ b = rA E ad c0 := ⟨_, RA.of q0.1 q0.2, rfl⟩
  rw [← e0] at hl
  obtain ⟨b1, h1, e1⟩ : ∃ b, RA E ad S0.n c1 b ∧ b = rA E ad c1 := ⟨_, RA.of q1.1 q1.2, rfl⟩
  rw [← e1] at hl
  refine lv_aload_n hx hb dX11_init_0 rfl (lv_at hl 0 rfl) ?_
  refine r2_obj C hl.1 (mTBi 1451 (by decide +kernel) rfl) QOI QOC ⟨(Nat.le_of_ble_eq_true rfl), (Nat.le_of_ble_eq_true rfl)⟩ dX11_init_1 ?_
  refine lv_aload_n hx hb dX11_init_4 rfl (lv_at hl 0 rfl) ?_
  refine lv_aload_n hx hb dX11_init_5 rfl (lv_at hl 1 rfl) ?_
  refine lv_iconst (v := 5) hx hb dX11_init_6 (by decide) ?_
  refine r2_cVI C hA hl.1 hG h1 [.int 5] [.ref b0] (mX9_next E l c1 5 S0 (RAq hG h1)) (by rw [h1.1]) QLX11_7 KP11 rfl (rm2 (by decide) (by decide)) (Nat.le_of_ble_eq_true rfl) rfl dX11_init_7 hU h (fun x3 S1 H locs ad2 cells slots hG hx9 h => ?_)
  have h0 := h0.up hx9
  have h1 := h1.up hx9
  refine r2_pI C hG h0 FQX11_13 (Or.inr ⟨rfl, hnm⟩) rfl rfl rfl dX11_init_10 h (fun H locs S4 hG h => ?_)
  refine lv_aload_n hx hb dX11_init_13 rfl (lv_at hl 0 rfl) ?_
  refine lv_aload_n hx hb dX11_init_14 rfl (lv_at hl 1 rfl) ?_
  refine lv_iload_n hx hb dX11_init_15 rfl (lv_at hl 2 rfl) ?_
  refine r2_cVI C hA hl.1 hG h1 [.int a2] [.ref b0] (mX9_next E l c1 a2 S4 (RAq hG h1)) (by rw [h1.1]) QLX11_7 KP11 rfl (rm2 (by decide) (by decide)) (Nat.le_of_ble_eq_true rfl) rfl dX11_init_16 hU h (fun x7 S5 H locs ad6 cells slots hG hx9 h => ?_)
  have h0 := h0.up hx9
  have h1 := h1.up hx9
  refine r2_pI C hG h0 FQX11_19 (Or.inr ⟨rfl, hnm⟩) rfl rfl rfl dX11_init_19 h (fun H locs S8 hG h => ?_)
  refine lv_aload_n hx hb dX11_init_22 rfl (lv_at hl 0 rfl) ?_
  refine lv_aload_n hx hb dX11_init_23 rfl (lv_at hl 0 rfl) ?_
  refine r2_gI C hG h0 FQX11_13 rfl dX11_init_24 h (fun x9 h => ?_)
  refine lv_iconst (v := 3) hx hb dX11_init_27 (by decide) ?_
  refine lv_icmp_ge (tgt := 35) hx hb dX11_init_28 (by decide) (fun g10 => ?_) (fun g10 => ?_)
  · have h := (if_inv h).1 g10
    refine lv_aload_n hx hb dX11_init_35 rfl (lv_at hl 1 rfl) ?_
    refine lv_iconst (v := 2) hx hb dX11_init_36 (by decide) ?_
    refine r2_cVI C hA hl.1 hG h1 [.int 2] [.ref b0] (mX9_next E l c1 2 S8 (RAq hG h1)) (by rw [h1.1]) QLX11_7 KP11 rfl (rm2 (by decide) (by decide)) (Nat.le_of_ble_eq_true rfl) rfl dX11_init_37 hU h (fun x13 S11 H locs ad12 cells slots hG hx9 h => ?_)
    have h0 := h0.up hx9
    have h1 := h1.up hx9
    refine lv_if_ne (tgt := 61) hx hb dX11_init_40 (by decide) (fun g14 => ?_) (fun g14 => ?_)
    · have h := (if_inv h).2 g14
      refine lv_aload_n hx hb dX11_init_61 rfl (lv_at hl 1 rfl) ?_
      refine lv_iload_n hx hb dX11_init_62 rfl (lv_at hl 2 rfl) ?_
      refine lv_iconst (v := 2) hx hb dX11_init_63 (by decide) ?_
      refine r2_cSR C hA hl.1 hG [.ref b1, .int a2, .int 2] [.ref b0] (mX10_sum E l c1 a2 2 S11 (RAq hG h1)) (by rw [h1.1]) QLX11_27 rfl (rm2 (by decide) (by decide)) (Nat.le_of_ble_eq_true rfl) rfl dX11_init_64 hU h (fun bc17 c17 S15 H locs ad16 cells slots hG hx9 h_c17 h => ?_)
      have h0 := h0.up hx9
      have h1 := h1.up hx9
      refine r2_pR C hG h0 h_c17.RV FQX11_31 (Or.inr ⟨rfl, hnm⟩) rfl rfl rfl dX11_init_67 h (fun H locs S18 hG h => ?_)
      refine lv_aload_n hx hb dX11_init_70 rfl (lv_at hl 0 rfl) ?_
      refine lv_aload_n hx hb dX11_init_71 rfl (lv_at hl 1 rfl) ?_
      refine lv_iconst (v := 3) hx hb dX11_init_72 (by decide) ?_
      refine r2_cVI C hA hl.1 hG h1 [.int 3] [.ref b0] (mX9_next E l c1 3 S18 (RAq hG h1)) (by rw [h1.1]) QLX11_7 KP11 rfl (rm2 (by decide) (by decide)) (Nat.le_of_ble_eq_true rfl) rfl dX11_init_73 hU h (fun x21 S19 H locs ad20 cells slots hG hx9 h => ?_)
      have h0 := h0.up hx9
      have h1 := h1.up hx9
      refine lv_if_ne (tgt := 83) hx hb dX11_init_76 (by decide) (fun g22 => ?_) (fun g22 => ?_)
      · have h := (if_inv h).2 g22
        refine lv_aload_n hx hb dX11_init_83 rfl (lv_at hl 1 rfl) ?_
        refine lv_iload_n hx hb dX11_init_84 rfl (lv_at hl 2 rfl) ?_
        refine lv_iconst (v := 1) hx hb dX11_init_85 (by decide) ?_
        refine r2_cSR C hA hl.1 hG [.ref b1, .int a2, .int 1] [.ref b0] (mX10_test E l c1 a2 1 S19 (RAq hG h1)) (by rw [h1.1]) QLX11_34 rfl (rm2 (by decide) (by decide)) (Nat.le_of_ble_eq_true rfl) rfl dX11_init_86 hU h (fun bc25 c25 S23 H locs ad24 cells slots hG hx9 h_c25 h => ?_)
        have h0 := h0.up hx9
        have h1 := h1.up hx9
        refine r2_pR C hG h0 h_c25.RV FQX11_37 (Or.inr ⟨rfl, hnm⟩) rfl rfl rfl dX11_init_89 h (fun H locs S26 hG h => ?_)
        exact r2_vret C hF hG hr dX11_init_92 h
      · have h := (if_inv h).1 g22
        refine lv_null hx hb dX11_init_79 ?_
        refine lv_goto (tgt := 89) hx hb dX11_init_80 (by decide) ?_
        refine r2_pR C hG h0 RV_0 FQX11_37 (Or.inr ⟨rfl, hnm⟩) rfl rfl rfl dX11_init_89 h (fun H locs S27 hG h => ?_)
        exact r2_vret C hF hG hr dX11_init_92 h
    · have h := (if_inv h).1 g14
      refine r2_new C hA hG KP12 (mTBi 1453 (by decide +kernel) rfl) (mTBi 1454 (by decide +kernel) rfl) (mTBi 63 (by decide +kernel) rfl) (by decide +kernel) dX11_init_43 hU h (fun bc28 c28 H ad30 S29 cells slots hG hx9 h_c28 h => ?_)
      have h0 := h0.up hx9
      have h1 := h1.up hx9
      refine lv_dup hx hb dX11_init_46 rfl ?_
      refine lv_iconst (v := 0) hx hb dX11_init_47 (by decide) ?_
      refine lv_aload_n hx hb dX11_init_48 rfl (lv_at hl 1 rfl) ?_
      refine lv_iconst (v := 4) hx hb dX11_init_49 (by decide) ?_
      refine r2_cVI C hA hl.1 hG h1 [.int 4] [.int 0, .ref bc28, .ref bc28, .ref b0] (mX9_next E l c1 4 S29 (RAq hG h1)) (by rw [h1.1]) QLX11_7 KP11 rfl (rm2 (by decide) (by decide)) (Nat.le_of_ble_eq_true rfl) rfl dX11_init_50 hU h (fun x33 S31 H locs ad32 cells slots hG hx9 h => ?_)
      have h0 := h0.up hx9
      have h1 := h1.up hx9
      have h_c28 := h_c28.up hx9
      refine lv_null hx hb dX11_init_53 ?_
      refine lv_null hx hb dX11_init_54 ?_
      refine r2_cIV C hA hl.1 hG [.int 0, .int x33, .null, .null] [.ref bc28, .ref b0] (mX10_init_ZZ E l c28 0 x33 S31 (RAq hG h_c28)) (by rw [h_c28.1]) QLX11_24 rfl (rm2 (by decide) (by decide)) (Nat.le_of_ble_eq_true rfl) rfl dX11_init_55 hU h (fun S34 H locs ad35 cells slots hG hx9 h => ?_)
      have h0 := h0.up hx9
      have h1 := h1.up hx9
      have h_c28 := h_c28.up hx9
      refine lv_goto (tgt := 67) hx hb dX11_init_58 (by decide) ?_
      refine r2_pR C hG h0 h_c28.RV FQX11_31 (Or.inr ⟨rfl, hnm⟩) rfl rfl rfl dX11_init_67 h (fun H locs S36 hG h => ?_)
      refine lv_aload_n hx hb dX11_init_70 rfl (lv_at hl 0 rfl) ?_
      refine lv_aload_n hx hb dX11_init_71 rfl (lv_at hl 1 rfl) ?_
      refine lv_iconst (v := 3) hx hb dX11_init_72 (by decide) ?_
      refine r2_cVI C hA hl.1 hG h1 [.int 3] [.ref b0] (mX9_next E l c1 3 S36 (RAq hG h1)) (by rw [h1.1]) QLX11_7 KP11 rfl (rm2 (by decide) (by decide)) (Nat.le_of_ble_eq_true rfl) rfl dX11_init_73 hU h (fun x39 S37 H locs ad38 cells slots hG hx9 h => ?_)
      have h0 := h0.up hx9
      have h1 := h1.up hx9
      refine lv_if_ne (tgt := 83) hx hb dX11_init_76 (by decide) (fun g40 => ?_) (fun g40 => ?_)
      · have h := (if_inv h).2 g40
        refine lv_aload_n hx hb dX11_init_83 rfl (lv_at hl 1 rfl) ?_
        refine lv_iload_n hx hb dX11_init_84 rfl (lv_at hl 2 rfl) ?_
        refine lv_iconst (v := 1) hx hb dX11_init_85 (by decide) ?_
        refine r2_cSR C hA hl.1 hG [.ref b1, .int a2, .int 1] [.ref b0] (mX10_test E l c1 a2 1 S37 (RAq hG h1)) (by rw [h1.1]) QLX11_34 rfl (rm2 (by decide) (by decide)) (Nat.le_of_ble_eq_true rfl) rfl dX11_init_86 hU h (fun bc43 c43 S41 H locs ad42 cells slots hG hx9 h_c43 h => ?_)
        have h0 := h0.up hx9
        have h1 := h1.up hx9
        refine r2_pR C hG h0 h_c43.RV FQX11_37 (Or.inr ⟨rfl, hnm⟩) rfl rfl rfl dX11_init_89 h (fun H locs S44 hG h => ?_)
        exact r2_vret C hF hG hr dX11_init_92 h
      · have h := (if_inv h).1 g40
        refine lv_null hx hb dX11_init_79 ?_
        refine lv_goto (tgt := 89) hx hb dX11_init_80 (by decide) ?_
        refine r2_pR C hG h0 RV_0 FQX11_37 (Or.inr ⟨rfl, hnm⟩) rfl rfl rfl dX11_init_89 h (fun H locs S45 hG h => ?_)
        exact r2_vret C hF hG hr dX11_init_92 h
  · have h := (if_inv h).2 g10
    refine lv_null hx hb dX11_init_31 ?_
    refine lv_goto (tgt := 67) hx hb dX11_init_32 (by decide) ?_
    refine r2_pR C hG h0 RV_0 FQX11_31 (Or.inr ⟨rfl, hnm⟩) rfl rfl rfl dX11_init_67 h (fun H locs S46 hG h => ?_)
    refine lv_aload_n hx hb dX11_init_70 rfl (lv_at hl 0 rfl) ?_
    refine lv_aload_n hx hb dX11_init_71 rfl (lv_at hl 1 rfl) ?_
    refine lv_iconst (v := 3) hx hb dX11_init_72 (by decide) ?_
    refine r2_cVI C hA hl.1 hG h1 [.int 3] [.ref b0] (mX9_next E l c1 3 S46 (RAq hG h1)) (by rw [h1.1]) QLX11_7 KP11 rfl (rm2 (by decide) (by decide)) (Nat.le_of_ble_eq_true rfl) rfl dX11_init_73 hU h (fun x49 S47 H locs ad48 cells slots hG hx9 h => ?_)
    have h0 := h0.up hx9
    have h1 := h1.up hx9
    refine lv_if_ne (tgt := 83) hx hb dX11_init_76 (by decide) (fun g50 => ?_) (fun g50 => ?_)
    · have h := (if_inv h).2 g50
      refine lv_aload_n hx hb dX11_init_83 rfl (lv_at hl 1 rfl) ?_
      refine lv_iload_n hx hb dX11_init_84 rfl (lv_at hl 2 rfl) ?_
      refine lv_iconst (v := 1) hx hb dX11_init_85 (by decide) ?_
      refine r2_cSR C hA hl.1 hG [.ref b1, .int a2, .int 1] [.ref b0] (mX10_test E l c1 a2 1 S47 (RAq hG h1)) (by rw [h1.1]) QLX11_34 rfl (rm2 (by decide) (by decide)) (Nat.le_of_ble_eq_true rfl) rfl dX11_init_86 hU h (fun bc53 c53 S51 H locs ad52 cells slots hG hx9 h_c53 h => ?_)
      have h0 := h0.up hx9
      have h1 := h1.up hx9
      refine r2_pR C hG h0 h_c53.RV FQX11_37 (Or.inr ⟨rfl, hnm⟩) rfl rfl rfl dX11_init_89 h (fun H locs S54 hG h => ?_)
      exact r2_vret C hF hG hr dX11_init_92 h
    · have h := (if_inv h).1 g50
      refine lv_null hx hb dX11_init_79 ?_
      refine lv_goto (tgt := 89) hx hb dX11_init_80 (by decide) ?_
      refine r2_pR C hG h0 RV_0 FQX11_37 (Or.inr ⟨rfl, hnm⟩) rfl rfl rfl dX11_init_89 h (fun H locs S55 hG h => ?_)
      exact r2_vret C hF hG hr dX11_init_92 h
def kX11_text (c0 : Nat) (S0 : ZS) : Option (Nat × ZS) :=
  chk Prod.snd S0 <|
  nO Prod.snd S0 1 4 fun c1 S2 =>
  b1 Prod.snd (kJ4_init_da8c8 c1 S2) fun S4 =>
  gI S4 c0 13 0 fun x6 =>
  stN 2 x6 fun x7 =>
  rcv S4 c1 1 <| b2 Prod.snd (kJ4_append_15ec4_S c1 x7 S4) fun c10 S8 =>
  rcv S8 c10 1 <| b2 Prod.snd (kJ4_append_15ec4_S c10 89 S8) fun c13 S11 =>
  gI S11 c0 13 1 fun x14 =>
  rcv S11 c13 1 <| b2 Prod.snd (kJ4_append_bf812 c13 x14 S11) fun c17 S15 =>
  gV S15 c0 13 2 (
    rcv S15 c17 1 <| b2 Prod.snd (kJ4_append_15ec4_S c17 90 S15) fun c21 S19 =>
    gV S19 c0 13 3 (
      rcv S19 c21 1 <| b2 Prod.snd (kJ4_append_15ec4_S c21 90 S19) fun c25 S23 =>
      rcv S23 c25 1 <| b2 Prod.snd (kJ4_append_15ec4_S c25 93 S23) fun c28 S26 =>
      rcv S26 c28 1 <| b2 Prod.snd (kJ4_toString_0e30d c28 S26) fun c31 S29 =>
      some (c31, S29)) fun c22 =>
      nO Prod.snd S19 1 4 fun c32 S33 =>
      b1 Prod.snd (kJ4_init_da8c8 c32 S33) fun S35 =>
      rcv S35 c32 1 <| b2 Prod.snd (kJ4_append_15ec4_S c32 92 S35) fun c39 S37 =>
      gN S37 c0 13 3 fun c40 =>
      rcv S37 c40 12 <| b2 Prod.snd (kX10_text c40 S37) fun c43 S41 =>
      rcv S41 c39 1 <| b2 Prod.snd (kJ4_append_15ec4_C c39 c43 S41) fun c46 S44 =>
      rcv S44 c46 1 <| b2 Prod.snd (kJ4_toString_0e30d c46 S44) fun c49 S47 =>
      rcv S47 c21 1 <| b2 Prod.snd (kJ4_append_15ec4_C c21 c49 S47) fun c52 S50 =>
      rcv S50 c52 1 <| b2 Prod.snd (kJ4_append_15ec4_S c52 93 S50) fun c55 S53 =>
      rcv S53 c55 1 <| b2 Prod.snd (kJ4_toString_0e30d c55 S53) fun c58 S56 =>
      some (c58, S56)) fun c18 =>
    nO Prod.snd S15 1 4 fun c59 S60 =>
    b1 Prod.snd (kJ4_init_da8c8 c59 S60) fun S62 =>
    rcv S62 c59 1 <| b2 Prod.snd (kJ4_append_15ec4_S c59 91 S62) fun c66 S64 =>
    gN S64 c0 13 2 fun c67 =>
    rcv S64 c67 12 <| b2 Prod.snd (kX10_text c67 S64) fun c70 S68 =>
    rcv S68 c66 1 <| b2 Prod.snd (kJ4_append_15ec4_C c66 c70 S68) fun c73 S71 =>
    rcv S71 c73 1 <| b2 Prod.snd (kJ4_toString_0e30d c73 S71) fun c76 S74 =>
    rcv S74 c17 1 <| b2 Prod.snd (kJ4_append_15ec4_C c17 c76 S74) fun c79 S77 =>
    gV S77 c0 13 3 (
      rcv S77 c79 1 <| b2 Prod.snd (kJ4_append_15ec4_S c79 90 S77) fun c83 S81 =>
      rcv S81 c83 1 <| b2 Prod.snd (kJ4_append_15ec4_S c83 93 S81) fun c86 S84 =>
      rcv S84 c86 1 <| b2 Prod.snd (kJ4_toString_0e30d c86 S84) fun c89 S87 =>
      some (c89, S87)) fun c80 =>
      nO Prod.snd S77 1 4 fun c90 S91 =>
      b1 Prod.snd (kJ4_init_da8c8 c90 S91) fun S93 =>
      rcv S93 c90 1 <| b2 Prod.snd (kJ4_append_15ec4_S c90 92 S93) fun c97 S95 =>
      gN S95 c0 13 3 fun c98 =>
      rcv S95 c98 12 <| b2 Prod.snd (kX10_text c98 S95) fun c101 S99 =>
      rcv S99 c97 1 <| b2 Prod.snd (kJ4_append_15ec4_C c97 c101 S99) fun c104 S102 =>
      rcv S102 c104 1 <| b2 Prod.snd (kJ4_toString_0e30d c104 S102) fun c107 S105 =>
      rcv S105 c79 1 <| b2 Prod.snd (kJ4_append_15ec4_C c79 c107 S105) fun c110 S108 =>
      rcv S108 c110 1 <| b2 Prod.snd (kJ4_append_15ec4_S c110 93 S108) fun c113 S111 =>
      rcv S111 c113 1 <| b2 Prod.snd (kJ4_toString_0e30d c113 S111) fun c116 S114 =>
      some (c116, S114)
set_option maxRecDepth 100000 in
set_option maxHeartbeats 8000000 in
theorem mX11_text (E : EV) (l : Launch) (c0 : Nat) (S0 : ZS) (q0 : c0 ≠ 0 ∧ rk S0.n c0) : ∀ u, kX11_text c0 S0 = some u → MRL E l yX11_text cX11_text 1 (Option.some (Jvm.ClassFile.FieldType.object "java/lang/String")) 20 (fun ad => [.ref (rA E ad c0)]) S0 u := by
  intro u h
  unfold kX11_text at h
  obtain ⟨hcw, h⟩ := chk_inv h
  refine ML2.of (by decide +kernel) (fun ad => Nat.le_of_ble_eq_true rfl) hcw ?_
  intro p e s m args below meth c ad F hF C hA hr hnm ls hl hG
  have C : Cx p s m args meth c cX11_text 1 RX11 E := C
  have hx := C.1
  have hb := C.2.1
  have hU : F.uc = (u.2).c ∧ F.uw = (u.2).w := ⟨hF.2.2.2.2.1, hF.2.2.2.2.2⟩
  have hl : lv_has ls 1 [(0, .ref (rA E ad c0))] := hl
  obtain ⟨b0, h0, e0⟩ : ∃ b, RA E ad S0.n c0 b ∧ b = rA E ad c0 := ⟨_, RA.of q0.1 q0.2, rfl⟩
  rw [← e0] at hl
  refine r2_new C hA hG KP1 (mTBi 1501 (by decide +kernel) rfl) (mTBi 1502 (by decide +kernel) rfl) (mTBi 51 (by decide +kernel) rfl) (by decide +kernel) dX11_text_0 hU h (fun bc1 c1 H ad3 S2 cells slots hG hx9 h_c1 h => ?_)
  have h0 := h0.up hx9
  refine lv_dup hx hb dX11_text_3 rfl ?_
  refine r2_cIV C hA hl.1 hG [] [.ref bc1] (mJ4_init_da8c8 E l c1 S2 (RAq hG h_c1)) (by rw [h_c1.1]) QLX11_41 rfl (rm2 (by decide) (by decide)) (Nat.le_of_ble_eq_true rfl) rfl dX11_text_4 hU h (fun S4 H locs ad5 cells slots hG hx9 h => ?_)
  have h0 := h0.up hx9
  have h_c1 := h_c1.up hx9
  refine r2_gST C hA hG 2 (by decide) FTX11_42 dX11_text_7 ?_
  refine lv_aload_n hx hb dX11_text_10 rfl (lv_at hl 0 rfl) ?_
  refine r2_gI C hG h0 FQX11_13 rfl dX11_text_11 h (fun x6 h => ?_)
  refine r2_aST C hA hG (by decide) dX11_text_14 h (fun x7 h => ?_)
  refine r2_cVR C hA hl.1 hG h_c1 [.ref (E.aK x7)] [] (mJ4_append_15ec4_S E l c1 x7 S4 (RAq hG h_c1)) (by rw [h_c1.1]) QLX11_46 KP1 rfl (rm2 (by decide) (by decide)) (Nat.le_of_ble_eq_true rfl) rfl dX11_text_15 hU h (fun bc10 c10 S8 H locs ad9 cells slots hG hx9 h_c10 h => ?_)
  have h0 := h0.up hx9
  refine r_ldcS C 89 (by decide) ⟨rfl, rfl⟩ dX11_text_18 ?_
  refine r2_cVR C hA hl.1 hG h_c10 [.ref (E.aK 89)] [] (mJ4_append_15ec4_S E l c10 89 S8 (RAq hG h_c10)) (by rw [h_c10.1]) QLX11_46 KP1 rfl (rm2 (by decide) (by decide)) (Nat.le_of_ble_eq_true rfl) rfl dX11_text_20 hU h (fun bc13 c13 S11 H locs ad12 cells slots hG hx9 h_c13 h => ?_)
  have h0 := h0.up hx9
  refine lv_aload_n hx hb dX11_text_23 rfl (lv_at hl 0 rfl) ?_
  refine r2_gI C hG h0 FQX11_19 rfl dX11_text_24 h (fun x14 h => ?_)
  refine r2_cVR C hA hl.1 hG h_c13 [.int x14] [] (mJ4_append_bf812 E l c13 x14 S11 (RAq hG h_c13)) (by rw [h_c13.1]) QLX11_52 KP1 rfl (rm2 (by decide) (by decide)) (Nat.le_of_ble_eq_true rfl) rfl dX11_text_27 hU h (fun bc17 c17 S15 H locs ad16 cells slots hG hx9 h_c17 h => ?_)
  have h0 := h0.up hx9
  refine lv_aload_n hx hb dX11_text_30 rfl (lv_at hl 0 rfl) ?_
  refine r2_gV C hG h0 FQX11_31 rfl dX11_text_31 h (fun h => ?_) (fun c18 bc18 h_c18 h => ?_)
  · refine lv_ifnonnullN hx hb dX11_text_34 ?_
    refine r_ldcS C 90 (by decide) ⟨rfl, rfl⟩ dX11_text_37 ?_
    refine lv_goto (tgt := 67) hx hb dX11_text_39 (by decide) ?_
    refine r2_cVR C hA hl.1 hG h_c17 [.ref (E.aK 90)] [] (mJ4_append_15ec4_S E l c17 90 S15 (RAq hG h_c17)) (by rw [h_c17.1]) QLX11_46 KP1 rfl (rm2 (by decide) (by decide)) (Nat.le_of_ble_eq_true rfl) rfl dX11_text_67 hU h (fun bc21 c21 S19 H locs ad20 cells slots hG hx9 h_c21 h => ?_)
    have h0 := h0.up hx9
    refine lv_aload_n hx hb dX11_text_70 rfl (lv_at hl 0 rfl) ?_
    refine r2_gV C hG h0 FQX11_37 rfl dX11_text_71 h (fun h => ?_) (fun c22 bc22 h_c22 h => ?_)
    · refine lv_ifnonnullN hx hb dX11_text_74 ?_
      refine r_ldcS C 90 (by decide) ⟨rfl, rfl⟩ dX11_text_77 ?_
      refine lv_goto (tgt := 107) hx hb dX11_text_79 (by decide) ?_
      refine r2_cVR C hA hl.1 hG h_c21 [.ref (E.aK 90)] [] (mJ4_append_15ec4_S E l c21 90 S19 (RAq hG h_c21)) (by rw [h_c21.1]) QLX11_46 KP1 rfl (rm2 (by decide) (by decide)) (Nat.le_of_ble_eq_true rfl) rfl dX11_text_107 hU h (fun bc25 c25 S23 H locs ad24 cells slots hG hx9 h_c25 h => ?_)
      have h0 := h0.up hx9
      refine r_ldcS C 93 (by decide) ⟨rfl, rfl⟩ dX11_text_110 ?_
      refine r2_cVR C hA hl.1 hG h_c25 [.ref (E.aK 93)] [] (mJ4_append_15ec4_S E l c25 93 S23 (RAq hG h_c25)) (by rw [h_c25.1]) QLX11_46 KP1 rfl (rm2 (by decide) (by decide)) (Nat.le_of_ble_eq_true rfl) rfl dX11_text_112 hU h (fun bc28 c28 S26 H locs ad27 cells slots hG hx9 h_c28 h => ?_)
      have h0 := h0.up hx9
      refine r2_cVR C hA hl.1 hG h_c28 [] [] (mJ4_toString_0e30d E l c28 S26 (RAq hG h_c28)) (by rw [h_c28.1]) QLX11_63 KP1 rfl (rm2 (by decide) (by decide)) (Nat.le_of_ble_eq_true rfl) rfl dX11_text_115 hU h (fun bc31 c31 S29 H locs ad30 cells slots hG hx9 h_c31 h => ?_)
      have h0 := h0.up hx9
      exact r2_aret C hF hG h_c31 (Or.inl ⟨_, rfl⟩) hr dX11_text_118 h
    · refine lv_ifnonnull (tgt := 82) hx hb dX11_text_74 (by decide) ?_
      refine r2_new C hA hG KP1 (mTBi 1501 (by decide +kernel) rfl) (mTBi 1502 (by decide +kernel) rfl) (mTBi 51 (by decide +kernel) rfl) (by decide +kernel) dX11_text_82 hU h (fun bc32 c32 H ad34 S33 cells slots hG hx9 h_c32 h => ?_)
      have h0 := h0.up hx9
      have h_c21 := h_c21.up hx9
      refine lv_dup hx hb dX11_text_85 rfl ?_
      refine r2_cIV C hA hl.1 hG [] [.ref bc32, .ref bc21] (mJ4_init_da8c8 E l c32 S33 (RAq hG h_c32)) (by rw [h_c32.1]) QLX11_41 rfl (rm2 (by decide) (by decide)) (Nat.le_of_ble_eq_true rfl) rfl dX11_text_86 hU h (fun S35 H locs ad36 cells slots hG hx9 h => ?_)
      have h0 := h0.up hx9
      have h_c32 := h_c32.up hx9
      have h_c21 := h_c21.up hx9
      refine r_ldcS C 92 (by decide) ⟨rfl, rfl⟩ dX11_text_89 ?_
      refine r2_cVR C hA hl.1 hG h_c32 [.ref (E.aK 92)] [.ref bc21] (mJ4_append_15ec4_S E l c32 92 S35 (RAq hG h_c32)) (by rw [h_c32.1]) QLX11_46 KP1 rfl (rm2 (by decide) (by decide)) (Nat.le_of_ble_eq_true rfl) rfl dX11_text_91 hU h (fun bc39 c39 S37 H locs ad38 cells slots hG hx9 h_c39 h => ?_)
      have h0 := h0.up hx9
      have h_c21 := h_c21.up hx9
      refine lv_aload_n hx hb dX11_text_94 rfl (lv_at hl 0 rfl) ?_
      refine r2_gN C hG h0 FQX11_37 rfl dX11_text_95 h (fun c40 bc40 h_c40 h => ?_)
      refine r2_cVR C hA hl.1 hG h_c40 [] [.ref bc39, .ref bc21] (mX10_text E l c40 S37 (RAq hG h_c40)) (by rw [h_c40.1]) QLX11_59 KP12 rfl (rm2 (by decide) (by decide)) (Nat.le_of_ble_eq_true rfl) rfl dX11_text_98 hU h (fun bc43 c43 S41 H locs ad42 cells slots hG hx9 h_c43 h => ?_)
      have h0 := h0.up hx9
      have h_c39 := h_c39.up hx9
      have h_c21 := h_c21.up hx9
      refine r2_cVR C hA hl.1 hG h_c39 [.ref bc43] [.ref bc21] (mJ4_append_15ec4_C E l c39 c43 S41 (RAq hG h_c39) (RAq hG h_c43)) (by rw [h_c39.1, h_c43.1]) QLX11_46 KP1 rfl (rm2 (by decide) (by decide)) (Nat.le_of_ble_eq_true rfl) rfl dX11_text_101 hU h (fun bc46 c46 S44 H locs ad45 cells slots hG hx9 h_c46 h => ?_)
      have h0 := h0.up hx9
      have h_c21 := h_c21.up hx9
      refine r2_cVR C hA hl.1 hG h_c46 [] [.ref bc21] (mJ4_toString_0e30d E l c46 S44 (RAq hG h_c46)) (by rw [h_c46.1]) QLX11_63 KP1 rfl (rm2 (by decide) (by decide)) (Nat.le_of_ble_eq_true rfl) rfl dX11_text_104 hU h (fun bc49 c49 S47 H locs ad48 cells slots hG hx9 h_c49 h => ?_)
      have h0 := h0.up hx9
      have h_c21 := h_c21.up hx9
      refine r2_cVR C hA hl.1 hG h_c21 [.ref bc49] [] (mJ4_append_15ec4_C E l c21 c49 S47 (RAq hG h_c21) (RAq hG h_c49)) (by rw [h_c21.1, h_c49.1]) QLX11_46 KP1 rfl (rm2 (by decide) (by decide)) (Nat.le_of_ble_eq_true rfl) rfl dX11_text_107 hU h (fun bc52 c52 S50 H locs ad51 cells slots hG hx9 h_c52 h => ?_)
      have h0 := h0.up hx9
      refine r_ldcS C 93 (by decide) ⟨rfl, rfl⟩ dX11_text_110 ?_
      refine r2_cVR C hA hl.1 hG h_c52 [.ref (E.aK 93)] [] (mJ4_append_15ec4_S E l c52 93 S50 (RAq hG h_c52)) (by rw [h_c52.1]) QLX11_46 KP1 rfl (rm2 (by decide) (by decide)) (Nat.le_of_ble_eq_true rfl) rfl dX11_text_112 hU h (fun bc55 c55 S53 H locs ad54 cells slots hG hx9 h_c55 h => ?_)
      have h0 := h0.up hx9
      refine r2_cVR C hA hl.1 hG h_c55 [] [] (mJ4_toString_0e30d E l c55 S53 (RAq hG h_c55)) (by rw [h_c55.1]) QLX11_63 KP1 rfl (rm2 (by decide) (by decide)) (Nat.le_of_ble_eq_true rfl) rfl dX11_text_115 hU h (fun bc58 c58 S56 H locs ad57 cells slots hG hx9 h_c58 h => ?_)
      have h0 := h0.up hx9
      exact r2_aret C hF hG h_c58 (Or.inl ⟨_, rfl⟩) hr dX11_text_118 h
  · refine lv_ifnonnull (tgt := 42) hx hb dX11_text_34 (by decide) ?_
    refine r2_new C hA hG KP1 (mTBi 1501 (by decide +kernel) rfl) (mTBi 1502 (by decide +kernel) rfl) (mTBi 51 (by decide +kernel) rfl) (by decide +kernel) dX11_text_42 hU h (fun bc59 c59 H ad61 S60 cells slots hG hx9 h_c59 h => ?_)
    have h0 := h0.up hx9
    have h_c17 := h_c17.up hx9
    refine lv_dup hx hb dX11_text_45 rfl ?_
    refine r2_cIV C hA hl.1 hG [] [.ref bc59, .ref bc17] (mJ4_init_da8c8 E l c59 S60 (RAq hG h_c59)) (by rw [h_c59.1]) QLX11_41 rfl (rm2 (by decide) (by decide)) (Nat.le_of_ble_eq_true rfl) rfl dX11_text_46 hU h (fun S62 H locs ad63 cells slots hG hx9 h => ?_)
    have h0 := h0.up hx9
    have h_c59 := h_c59.up hx9
    have h_c17 := h_c17.up hx9
    refine r_ldcS C 91 (by decide) ⟨rfl, rfl⟩ dX11_text_49 ?_
    refine r2_cVR C hA hl.1 hG h_c59 [.ref (E.aK 91)] [.ref bc17] (mJ4_append_15ec4_S E l c59 91 S62 (RAq hG h_c59)) (by rw [h_c59.1]) QLX11_46 KP1 rfl (rm2 (by decide) (by decide)) (Nat.le_of_ble_eq_true rfl) rfl dX11_text_51 hU h (fun bc66 c66 S64 H locs ad65 cells slots hG hx9 h_c66 h => ?_)
    have h0 := h0.up hx9
    have h_c17 := h_c17.up hx9
    refine lv_aload_n hx hb dX11_text_54 rfl (lv_at hl 0 rfl) ?_
    refine r2_gN C hG h0 FQX11_31 rfl dX11_text_55 h (fun c67 bc67 h_c67 h => ?_)
    refine r2_cVR C hA hl.1 hG h_c67 [] [.ref bc66, .ref bc17] (mX10_text E l c67 S64 (RAq hG h_c67)) (by rw [h_c67.1]) QLX11_59 KP12 rfl (rm2 (by decide) (by decide)) (Nat.le_of_ble_eq_true rfl) rfl dX11_text_58 hU h (fun bc70 c70 S68 H locs ad69 cells slots hG hx9 h_c70 h => ?_)
    have h0 := h0.up hx9
    have h_c66 := h_c66.up hx9
    have h_c17 := h_c17.up hx9
    refine r2_cVR C hA hl.1 hG h_c66 [.ref bc70] [.ref bc17] (mJ4_append_15ec4_C E l c66 c70 S68 (RAq hG h_c66) (RAq hG h_c70)) (by rw [h_c66.1, h_c70.1]) QLX11_46 KP1 rfl (rm2 (by decide) (by decide)) (Nat.le_of_ble_eq_true rfl) rfl dX11_text_61 hU h (fun bc73 c73 S71 H locs ad72 cells slots hG hx9 h_c73 h => ?_)
    have h0 := h0.up hx9
    have h_c17 := h_c17.up hx9
    refine r2_cVR C hA hl.1 hG h_c73 [] [.ref bc17] (mJ4_toString_0e30d E l c73 S71 (RAq hG h_c73)) (by rw [h_c73.1]) QLX11_63 KP1 rfl (rm2 (by decide) (by decide)) (Nat.le_of_ble_eq_true rfl) rfl dX11_text_64 hU h (fun bc76 c76 S74 H locs ad75 cells slots hG hx9 h_c76 h => ?_)
    have h0 := h0.up hx9
    have h_c17 := h_c17.up hx9
    refine r2_cVR C hA hl.1 hG h_c17 [.ref bc76] [] (mJ4_append_15ec4_C E l c17 c76 S74 (RAq hG h_c17) (RAq hG h_c76)) (by rw [h_c17.1, h_c76.1]) QLX11_46 KP1 rfl (rm2 (by decide) (by decide)) (Nat.le_of_ble_eq_true rfl) rfl dX11_text_67 hU h (fun bc79 c79 S77 H locs ad78 cells slots hG hx9 h_c79 h => ?_)
    have h0 := h0.up hx9
    refine lv_aload_n hx hb dX11_text_70 rfl (lv_at hl 0 rfl) ?_
    refine r2_gV C hG h0 FQX11_37 rfl dX11_text_71 h (fun h => ?_) (fun c80 bc80 h_c80 h => ?_)
    · refine lv_ifnonnullN hx hb dX11_text_74 ?_
      refine r_ldcS C 90 (by decide) ⟨rfl, rfl⟩ dX11_text_77 ?_
      refine lv_goto (tgt := 107) hx hb dX11_text_79 (by decide) ?_
      refine r2_cVR C hA hl.1 hG h_c79 [.ref (E.aK 90)] [] (mJ4_append_15ec4_S E l c79 90 S77 (RAq hG h_c79)) (by rw [h_c79.1]) QLX11_46 KP1 rfl (rm2 (by decide) (by decide)) (Nat.le_of_ble_eq_true rfl) rfl dX11_text_107 hU h (fun bc83 c83 S81 H locs ad82 cells slots hG hx9 h_c83 h => ?_)
      have h0 := h0.up hx9
      refine r_ldcS C 93 (by decide) ⟨rfl, rfl⟩ dX11_text_110 ?_
      refine r2_cVR C hA hl.1 hG h_c83 [.ref (E.aK 93)] [] (mJ4_append_15ec4_S E l c83 93 S81 (RAq hG h_c83)) (by rw [h_c83.1]) QLX11_46 KP1 rfl (rm2 (by decide) (by decide)) (Nat.le_of_ble_eq_true rfl) rfl dX11_text_112 hU h (fun bc86 c86 S84 H locs ad85 cells slots hG hx9 h_c86 h => ?_)
      have h0 := h0.up hx9
      refine r2_cVR C hA hl.1 hG h_c86 [] [] (mJ4_toString_0e30d E l c86 S84 (RAq hG h_c86)) (by rw [h_c86.1]) QLX11_63 KP1 rfl (rm2 (by decide) (by decide)) (Nat.le_of_ble_eq_true rfl) rfl dX11_text_115 hU h (fun bc89 c89 S87 H locs ad88 cells slots hG hx9 h_c89 h => ?_)
      have h0 := h0.up hx9
      exact r2_aret C hF hG h_c89 (Or.inl ⟨_, rfl⟩) hr dX11_text_118 h
    · refine lv_ifnonnull (tgt := 82) hx hb dX11_text_74 (by decide) ?_
      refine r2_new C hA hG KP1 (mTBi 1501 (by decide +kernel) rfl) (mTBi 1502 (by decide +kernel) rfl) (mTBi 51 (by decide +kernel) rfl) (by decide +kernel) dX11_text_82 hU h (fun bc90 c90 H ad92 S91 cells slots hG hx9 h_c90 h => ?_)
      have h0 := h0.up hx9
      have h_c79 := h_c79.up hx9
      refine lv_dup hx hb dX11_text_85 rfl ?_
      refine r2_cIV C hA hl.1 hG [] [.ref bc90, .ref bc79] (mJ4_init_da8c8 E l c90 S91 (RAq hG h_c90)) (by rw [h_c90.1]) QLX11_41 rfl (rm2 (by decide) (by decide)) (Nat.le_of_ble_eq_true rfl) rfl dX11_text_86 hU h (fun S93 H locs ad94 cells slots hG hx9 h => ?_)
      have h0 := h0.up hx9
      have h_c90 := h_c90.up hx9
      have h_c79 := h_c79.up hx9
      refine r_ldcS C 92 (by decide) ⟨rfl, rfl⟩ dX11_text_89 ?_
      refine r2_cVR C hA hl.1 hG h_c90 [.ref (E.aK 92)] [.ref bc79] (mJ4_append_15ec4_S E l c90 92 S93 (RAq hG h_c90)) (by rw [h_c90.1]) QLX11_46 KP1 rfl (rm2 (by decide) (by decide)) (Nat.le_of_ble_eq_true rfl) rfl dX11_text_91 hU h (fun bc97 c97 S95 H locs ad96 cells slots hG hx9 h_c97 h => ?_)
      have h0 := h0.up hx9
      have h_c79 := h_c79.up hx9
      refine lv_aload_n hx hb dX11_text_94 rfl (lv_at hl 0 rfl) ?_
      refine r2_gN C hG h0 FQX11_37 rfl dX11_text_95 h (fun c98 bc98 h_c98 h => ?_)
      refine r2_cVR C hA hl.1 hG h_c98 [] [.ref bc97, .ref bc79] (mX10_text E l c98 S95 (RAq hG h_c98)) (by rw [h_c98.1]) QLX11_59 KP12 rfl (rm2 (by decide) (by decide)) (Nat.le_of_ble_eq_true rfl) rfl dX11_text_98 hU h (fun bc101 c101 S99 H locs ad100 cells slots hG hx9 h_c101 h => ?_)
      have h0 := h0.up hx9
      have h_c97 := h_c97.up hx9
      have h_c79 := h_c79.up hx9
      refine r2_cVR C hA hl.1 hG h_c97 [.ref bc101] [.ref bc79] (mJ4_append_15ec4_C E l c97 c101 S99 (RAq hG h_c97) (RAq hG h_c101)) (by rw [h_c97.1, h_c101.1]) QLX11_46 KP1 rfl (rm2 (by decide) (by decide)) (Nat.le_of_ble_eq_true rfl) rfl dX11_text_101 hU h (fun bc104 c104 S102 H locs ad103 cells slots hG hx9 h_c104 h => ?_)
      have h0 := h0.up hx9
      have h_c79 := h_c79.up hx9
      refine r2_cVR C hA hl.1 hG h_c104 [] [.ref bc79] (mJ4_toString_0e30d E l c104 S102 (RAq hG h_c104)) (by rw [h_c104.1]) QLX11_63 KP1 rfl (rm2 (by decide) (by decide)) (Nat.le_of_ble_eq_true rfl) rfl dX11_text_104 hU h (fun bc107 c107 S105 H locs ad106 cells slots hG hx9 h_c107 h => ?_)
      have h0 := h0.up hx9
      have h_c79 := h_c79.up hx9
      refine r2_cVR C hA hl.1 hG h_c79 [.ref bc107] [] (mJ4_append_15ec4_C E l c79 c107 S105 (RAq hG h_c79) (RAq hG h_c107)) (by rw [h_c79.1, h_c107.1]) QLX11_46 KP1 rfl (rm2 (by decide) (by decide)) (Nat.le_of_ble_eq_true rfl) rfl dX11_text_107 hU h (fun bc110 c110 S108 H locs ad109 cells slots hG hx9 h_c110 h => ?_)
      have h0 := h0.up hx9
      refine r_ldcS C 93 (by decide) ⟨rfl, rfl⟩ dX11_text_110 ?_
      refine r2_cVR C hA hl.1 hG h_c110 [.ref (E.aK 93)] [] (mJ4_append_15ec4_S E l c110 93 S108 (RAq hG h_c110)) (by rw [h_c110.1]) QLX11_46 KP1 rfl (rm2 (by decide) (by decide)) (Nat.le_of_ble_eq_true rfl) rfl dX11_text_112 hU h (fun bc113 c113 S111 H locs ad112 cells slots hG hx9 h_c113 h => ?_)
      have h0 := h0.up hx9
      refine r2_cVR C hA hl.1 hG h_c113 [] [] (mJ4_toString_0e30d E l c113 S111 (RAq hG h_c113)) (by rw [h_c113.1]) QLX11_63 KP1 rfl (rm2 (by decide) (by decide)) (Nat.le_of_ble_eq_true rfl) rfl dX11_text_115 hU h (fun bc116 c116 S114 H locs ad115 cells slots hG hx9 h_c116 h => ?_)
      have h0 := h0.up hx9
      exact r2_aret C hF hG h_c116 (Or.inl ⟨_, rfl⟩) hr dX11_text_118 h
def kX11_held (a0 : Int64) (a2 : Int32) (a3 : Int32) (S0 : ZS) : Option (Int32 × ZS) :=
  chk Prod.snd S0 <|
  if 0 ≤ (lg_cmp a0 a2.toInt64) then
    if (lg_cmp a0 a3.toInt64) ≤ 0 then
      some (a0.toInt32, S0)
    else
      some (a3, S0)
  else
    some (a2, S0)
set_option maxRecDepth 100000 in
set_option maxHeartbeats 8000000 in
theorem mX11_held (E : EV) (l : Launch) (a0 : Int64) (a2 : Int32) (a3 : Int32) (S0 : ZS) : ∀ u, kX11_held a0 a2 a3 S0 = some u → MIL E l yX11_held cX11_held 4 (Option.some Jvm.ClassFile.FieldType.int) 1 (fun ad => [.long a0, .int a2, .int a3]) S0 u := by
  intro u h
  unfold kX11_held at h
  obtain ⟨hcw, h⟩ := chk_inv h
  refine ML2.of (by decide +kernel) (fun ad => Nat.le_of_ble_eq_true rfl) hcw ?_
  intro p e s m args below meth c ad F hF C hA hr hnm ls hl hG
  have C : Cx p s m args meth c cX11_held 4 RX11 E := C
  have hx := C.1
  have hb := C.2.1
  have hU : F.uc = (u.2).c ∧ F.uw = (u.2).w := ⟨hF.2.2.2.2.1, hF.2.2.2.2.2⟩
  have hl : lv_has ls 4 [(0, .long a0), (2, .int a2), (3, .int a3)] := hl
  refine lv_lload_n hx hb dX11_held_0 rfl (lv_at hl 0 rfl) ?_
  refine lv_iload_n hx hb dX11_held_1 rfl (lv_at hl 1 rfl) ?_
  refine lv_i2l hx hb dX11_held_2 rfl ?_
  refine W.lcmp hx hb dX11_held_3 ?_
  refine lv_if_ge (tgt := 11) hx hb dX11_held_4 (by decide) (fun g1 => ?_) (fun g1 => ?_)
  · have h := (if_inv h).1 g1
    refine lv_lload_n hx hb dX11_held_11 rfl (lv_at hl 0 rfl) ?_
    refine lv_iload_n hx hb dX11_held_12 rfl (lv_at hl 2 rfl) ?_
    refine lv_i2l hx hb dX11_held_13 rfl ?_
    refine W.lcmp hx hb dX11_held_14 ?_
    refine lv_if_le (tgt := 22) hx hb dX11_held_15 (by decide) (fun g2 => ?_) (fun g2 => ?_)
    · have h := (if_inv h).1 g2
      refine lv_lload_n hx hb dX11_held_22 rfl (lv_at hl 0 rfl) ?_
      refine lv_l2i hx hb dX11_held_23 rfl ?_
      exact r2_iret C hF hG hr rfl dX11_held_24 h
    · have h := (if_inv h).2 g2
      refine lv_iload_n hx hb dX11_held_18 rfl (lv_at hl 2 rfl) ?_
      refine lv_goto (tgt := 24) hx hb dX11_held_19 (by decide) ?_
      exact r2_iret C hF hG hr rfl dX11_held_24 h
  · have h := (if_inv h).2 g1
    refine lv_iload_n hx hb dX11_held_7 rfl (lv_at hl 1 rfl) ?_
    refine lv_goto (tgt := 24) hx hb dX11_held_8 (by decide) ?_
    exact r2_iret C hF hG hr rfl dX11_held_24 h
def kX11_carryOut_19  (v0 : Nat) (v1 : Nat) (S : ZS) : Option (ZS) :=
      gN S v1 14 2 fun c1 =>
      gI S v0 13 1 fun x2 =>
      aN S c1 400000 x2 fun c3 =>
      gI S v0 13 0 fun x4 =>
      if 3 ≤ x4 then
        gI S v0 13 0 fun x6 =>
        if x6 = 3 then
          aG S c3 100000 2 fun x18 =>
          gN S v0 13 2 fun c19 =>
          rcv S c19 12 <| b2 id (kX10_value c19 v1 S) fun x22 S20 =>
          b2 id (kX11_held ((0 + x18.toInt64) + x22.toInt64) (-90) 90 S20) fun x25 S23 =>
          aP S23 c3 100000 2 x25 fun S26 =>
          some S26
        else
          aG S c3 100000 0 fun x8 =>
          gN S v0 13 2 fun c9 =>
          rcv S c9 12 <| b2 id (kX10_value c9 v1 S) fun x12 S10 =>
          aG S10 c3 100000 1 fun x13 =>
          b2 id (kX11_held ((0 + x8.toInt64) - x12.toInt64) 0 x13 S10) fun x16 S14 =>
          aP S14 c3 100000 0 x16 fun S17 =>
          some S17
      else
        gI S v0 13 0 fun x27 =>
        gI S v0 13 1 fun x28 =>
        rcv S v1 14 <| b2 id (kX12_order v1 x27 x28 S) fun x31 S29 =>
        some S29
def kX11_carryOut (c0 : Nat) (c1 : Nat) (S0 : ZS) : Option (ZS) :=
  chk id S0 <|
  gV S0 c0 13 3 (
    kX11_carryOut_19 c0 c1 S0) fun c32 =>
    gN S0 c0 13 3 fun c33 =>
    rcv S0 c33 12 <| b2 id (kX10_value c33 c1 S0) fun x36 S34 =>
    if x36 = 0 then
      some S34
    else
      kX11_carryOut_19 c0 c1 S34
set_option maxRecDepth 100000 in
set_option maxHeartbeats 8000000 in
theorem mX11_carryOut (E : EV) (l : Launch) (c0 : Nat) (c1 : Nat) (S0 : ZS) (q0 : c0 ≠ 0 ∧ rk S0.n c0) (q1 : c1 ≠ 0 ∧ rk S0.n c1) : ∀ u, kX11_carryOut c0 c1 S0 = some u → MVL E l yX11_carryOut cX11_carryOut 3 none 18 (fun ad => [.ref (rA E ad c0), .ref (rA E ad c1)]) S0 u := by
  intro u h
  unfold kX11_carryOut at h
  obtain ⟨hcw, h⟩ := chk_inv h
  refine ML2.of (by decide +kernel) (fun ad => Nat.le_of_ble_eq_true rfl) hcw ?_
  intro p e s m args below meth c ad F hF C hA hr hnm ls hl hG
  have C : Cx p s m args meth c cX11_carryOut 3 RX11 E := C
  have hx := C.1
  have hb := C.2.1
  have hU : F.uc = (u).c ∧ F.uw = (u).w := ⟨hF.2.2.2.2.1, hF.2.2.2.2.2⟩
  have hl : lv_has ls 3 [(0, .ref (rA E ad c0)), (1, .ref (rA E ad c1))] := hl
  obtain ⟨b0, h0, e0⟩ : ∃ b, RA E ad S0.n c0 b ∧ b = rA E ad c0 := ⟨_, RA.of q0.1 q0.2, rfl⟩
  rw [← e0] at hl
  obtain ⟨b1, h1, e1⟩ : ∃ b, RA E ad S0.n c1 b ∧ b = rA E ad c1 := ⟨_, RA.of q1.1 q1.2, rfl⟩
  rw [← e1] at hl
  have j19 : ∀ (v0 : Nat) (v1 : Nat) (S : ZS) (ad : Nat → Nat) (N : Nat) (bv0 : Nat) (bv1 : Nat) (H : Heap) (locs : List Loc) (ls : Array Slot) (cells slots : Nat), GL E s F H locs ad N S cells slots → RA E ad N v0 bv0 → RA E ad N v1 bv1 → lv_has ls 3 [(0, .ref bv0), (1, .ref bv1)] → kX11_carryOut_19 v0 v1 S = some u → W p l e (F.R 18) s m args below meth c H locs cells slots (MQ below (QVL E s.heap.size F.ad S0 u) args s (F.c - F.uc) (F.w - F.uw) F.A) (F0 m 19 ls []) := by
    intro v0 v1 S ad N bv0 bv1 H locs ls cells slots hG hv0 hv1 hl h
    unfold kX11_carryOut_19 at h
    refine lv_aload_n hx hb dX11_carryOut_19 rfl (lv_at hl 1 rfl) ?_
    refine r2_gN C hG hv1 FQX11_74 rfl dX11_carryOut_20 h (fun c1 bc1 h_c1 h => ?_)
    refine lv_aload_n hx hb dX11_carryOut_23 rfl (lv_at hl 0 rfl) ?_
    refine r2_gI C hG hv0 FQX11_19 rfl dX11_carryOut_24 h (fun x2 h => ?_)
    refine r2_gAA C hG h_c1 dX11_carryOut_27 h (fun c3 bc3 h_c3 h => ?_)
    refine lv_astore_n (lv' := [(2, .ref bc3), (0, .ref bv0), (1, .ref bv1)]) hx hb dX11_carryOut_28 rfl hl (by decide) rfl (fun ls hl => ?_)
    refine lv_aload_n hx hb dX11_carryOut_29 rfl (lv_at hl 1 rfl) ?_
    refine r2_gI C hG hv0 FQX11_13 rfl dX11_carryOut_30 h (fun x4 h => ?_)
    refine lv_iconst (v := 3) hx hb dX11_carryOut_33 (by decide) ?_
    refine lv_icmp_ge (tgt := 53) hx hb dX11_carryOut_34 (by decide) (fun g5 => ?_) (fun g5 => ?_)
    · have h := (if_inv h).1 g5
      refine lv_aload_n hx hb dX11_carryOut_53 rfl (lv_at hl 1 rfl) ?_
      refine r2_gI C hG hv0 FQX11_13 rfl dX11_carryOut_54 h (fun x6 h => ?_)
      refine lv_iconst (v := 3) hx hb dX11_carryOut_57 (by decide) ?_
      refine lv_icmp_ne (tgt := 90) hx hb dX11_carryOut_58 (by decide) (fun g7 => ?_) (fun g7 => ?_)
      · have h := (if_inv h).2 g7
        refine lv_aload_n hx hb dX11_carryOut_90 rfl (lv_at hl 0 rfl) ?_
        refine lv_iconst (v := 0) hx hb dX11_carryOut_91 (by decide) ?_
        refine lv_lconst (v := 0) hx hb dX11_carryOut_92 (by decide) ?_
        refine lv_aload_n hx hb dX11_carryOut_93 rfl (lv_at hl 0 rfl) ?_
        refine lv_iconst (v := 0) hx hb dX11_carryOut_94 (by decide) ?_
        refine r2_gAI C hG h_c3 dX11_carryOut_95 h (fun x8 h => ?_)
        refine lv_i2l hx hb dX11_carryOut_96 rfl ?_
        refine lv_ladd hx hb dX11_carryOut_97 ?_
        refine lv_aload_n hx hb dX11_carryOut_98 rfl (lv_at hl 1 rfl) ?_
        refine r2_gN C hG hv0 FQX11_31 rfl dX11_carryOut_99 h (fun c9 bc9 h_c9 h => ?_)
        refine lv_aload_n hx hb dX11_carryOut_102 rfl (lv_at hl 2 rfl) ?_
        refine r2_cVI C hA hl.1 hG h_c9 [.ref bv1] [.long (0 + x8.toInt64), .int 0, .ref bc3] (mX10_value E l c9 v1 S (RAq hG h_c9) (RAq hG hv1)) (by rw [h_c9.1, hv1.1]) QLX11_70 KP12 rfl (rm2 (by decide) (by decide)) (Nat.le_of_ble_eq_true rfl) rfl dX11_carryOut_103 hU h (fun x12 S10 H locs ad11 cells slots hG hx9 h => ?_)
        have h_c3 := h_c3.up hx9
        have hv0 := hv0.up hx9
        have hv1 := hv1.up hx9
        refine lv_i2l hx hb dX11_carryOut_106 rfl ?_
        refine lv_lsub hx hb dX11_carryOut_107 ?_
        refine lv_iconst (v := 0) hx hb dX11_carryOut_108 (by decide) ?_
        refine lv_aload_n hx hb dX11_carryOut_109 rfl (lv_at hl 0 rfl) ?_
        refine lv_iconst (v := 1) hx hb dX11_carryOut_110 (by decide) ?_
        refine r2_gAI C hG h_c3 dX11_carryOut_111 h (fun x13 h => ?_)
        refine r2_cSI C hA hl.1 hG [.long ((0 + x8.toInt64) - x12.toInt64), .int 0, .int x13] [.int 0, .ref bc3] (mX11_held E l ((0 + x8.toInt64) - x12.toInt64) 0 x13 S10) rfl QLX11_84 rfl (rm2 (by decide) (by decide)) (Nat.le_of_ble_eq_true rfl) rfl dX11_carryOut_112 hU h (fun x16 S14 H locs ad15 cells slots hG hx9 h => ?_)
        have h_c3 := h_c3.up hx9
        have hv0 := hv0.up hx9
        have hv1 := hv1.up hx9
        refine r2_pAI C hG h_c3 dX11_carryOut_115 h (fun H locs S17 hG h => ?_)
        exact r2_vret C hF hG hr dX11_carryOut_116 h
      · have h := (if_inv h).1 g7
        refine lv_aload_n hx hb dX11_carryOut_61 rfl (lv_at hl 0 rfl) ?_
        refine lv_iconst (v := 2) hx hb dX11_carryOut_62 (by decide) ?_
        refine lv_lconst (v := 0) hx hb dX11_carryOut_63 (by decide) ?_
        refine lv_aload_n hx hb dX11_carryOut_64 rfl (lv_at hl 0 rfl) ?_
        refine lv_iconst (v := 2) hx hb dX11_carryOut_65 (by decide) ?_
        refine r2_gAI C hG h_c3 dX11_carryOut_66 h (fun x18 h => ?_)
        refine lv_i2l hx hb dX11_carryOut_67 rfl ?_
        refine lv_ladd hx hb dX11_carryOut_68 ?_
        refine lv_aload_n hx hb dX11_carryOut_69 rfl (lv_at hl 1 rfl) ?_
        refine r2_gN C hG hv0 FQX11_31 rfl dX11_carryOut_70 h (fun c19 bc19 h_c19 h => ?_)
        refine lv_aload_n hx hb dX11_carryOut_73 rfl (lv_at hl 2 rfl) ?_
        refine r2_cVI C hA hl.1 hG h_c19 [.ref bv1] [.long (0 + x18.toInt64), .int 2, .ref bc3] (mX10_value E l c19 v1 S (RAq hG h_c19) (RAq hG hv1)) (by rw [h_c19.1, hv1.1]) QLX11_70 KP12 rfl (rm2 (by decide) (by decide)) (Nat.le_of_ble_eq_true rfl) rfl dX11_carryOut_74 hU h (fun x22 S20 H locs ad21 cells slots hG hx9 h => ?_)
        have h_c3 := h_c3.up hx9
        have hv0 := hv0.up hx9
        have hv1 := hv1.up hx9
        refine lv_i2l hx hb dX11_carryOut_77 rfl ?_
        refine lv_ladd hx hb dX11_carryOut_78 ?_
        refine lv_bipush (v := (-90)) hx hb dX11_carryOut_79 (by decide) ?_
        refine lv_bipush (v := 90) hx hb dX11_carryOut_81 (by decide) ?_
        refine r2_cSI C hA hl.1 hG [.long ((0 + x18.toInt64) + x22.toInt64), .int (-90), .int 90] [.int 2, .ref bc3] (mX11_held E l ((0 + x18.toInt64) + x22.toInt64) (-90) 90 S20) rfl QLX11_84 rfl (rm2 (by decide) (by decide)) (Nat.le_of_ble_eq_true rfl) rfl dX11_carryOut_83 hU h (fun x25 S23 H locs ad24 cells slots hG hx9 h => ?_)
        have h_c3 := h_c3.up hx9
        have hv0 := hv0.up hx9
        have hv1 := hv1.up hx9
        refine r2_pAI C hG h_c3 dX11_carryOut_86 h (fun H locs S26 hG h => ?_)
        refine lv_goto (tgt := 116) hx hb dX11_carryOut_87 (by decide) ?_
        exact r2_vret C hF hG hr dX11_carryOut_116 h
    · have h := (if_inv h).2 g5
      refine lv_aload_n hx hb dX11_carryOut_37 rfl (lv_at hl 2 rfl) ?_
      refine lv_aload_n hx hb dX11_carryOut_38 rfl (lv_at hl 1 rfl) ?_
      refine r2_gI C hG hv0 FQX11_13 rfl dX11_carryOut_39 h (fun x27 h => ?_)
      refine lv_aload_n hx hb dX11_carryOut_42 rfl (lv_at hl 1 rfl) ?_
      refine r2_gI C hG hv0 FQX11_19 rfl dX11_carryOut_43 h (fun x28 h => ?_)
      refine r2_cVI C hA hl.1 hG hv1 [.int x27, .int x28] [] (mX12_order E l v1 x27 x28 S (RAq hG hv1)) (by rw [hv1.1]) QLX11_80 KP14 rfl (rm2 (by decide) (by decide)) (Nat.le_of_ble_eq_true rfl) rfl dX11_carryOut_46 hU h (fun x31 S29 H locs ad30 cells slots hG hx9 h => ?_)
      have h_c3 := h_c3.up hx9
      have hv0 := hv0.up hx9
      have hv1 := hv1.up hx9
      refine lv_pop hx hb dX11_carryOut_49 rfl ?_
      refine lv_goto (tgt := 116) hx hb dX11_carryOut_50 (by decide) ?_
      exact r2_vret C hF hG hr dX11_carryOut_116 h
  refine lv_aload_n hx hb dX11_carryOut_0 rfl (lv_at hl 0 rfl) ?_
  refine r2_gV C hG h0 FQX11_37 rfl dX11_carryOut_1 h (fun h => ?_) (fun c32 bc32 h_c32 h => ?_)
  · refine lv_ifnullN (tgt := 19) hx hb dX11_carryOut_4 (by decide) ?_
    exact j19 c0 c1 S0 _ _ _ _ _ _ _ _ _ hG h0 h1 (lv_sub hl [0, 1] rfl) h
  · refine lv_ifnull hx hb dX11_carryOut_4 ?_
    refine lv_aload_n hx hb dX11_carryOut_7 rfl (lv_at hl 0 rfl) ?_
    refine r2_gN C hG h0 FQX11_37 rfl dX11_carryOut_8 h (fun c33 bc33 h_c33 h => ?_)
    refine lv_aload_n hx hb dX11_carryOut_11 rfl (lv_at hl 1 rfl) ?_
    refine r2_cVI C hA hl.1 hG h_c33 [.ref b1] [] (mX10_value E l c33 c1 S0 (RAq hG h_c33) (RAq hG h1)) (by rw [h_c33.1, h1.1]) QLX11_70 KP12 rfl (rm2 (by decide) (by decide)) (Nat.le_of_ble_eq_true rfl) rfl dX11_carryOut_12 hU h (fun x36 S34 H locs ad35 cells slots hG hx9 h => ?_)
    have h0 := h0.up hx9
    have h1 := h1.up hx9
    refine lv_if_ne (tgt := 19) hx hb dX11_carryOut_15 (by decide) (fun g37 => ?_) (fun g37 => ?_)
    · have h := (if_inv h).2 g37
      exact j19 c0 c1 S34 _ _ _ _ _ _ _ _ _ hG h0 h1 (lv_sub hl [0, 1] rfl) h
    · have h := (if_inv h).1 g37
      exact r2_vret C hF hG hr dX11_carryOut_18 h
def kX12_pass_205  (v1 : Nat) (v2 : Nat) (S : ZS) : Option (Int32 × ZS) :=
      aG S v2 100000 0 fun x1 =>
      if x1 = 2 then
        aP S v1 100000 0 100 fun S3 =>
        aP S3 v1 100000 1 100 fun S4 =>
        some (1, S4)
      else
        some (1, S)
def kX12_pass_185  (v1 : Nat) (v2 : Nat) (S : ZS) : Option (Int32 × ZS) :=
      aG S v1 100000 1 fun x5 =>
      if x5 ≤ 0 then
        kX12_pass_205 v1 v2 S
      else
        aG S v1 100000 1 fun x7 =>
        aP S v1 100000 1 (x7 - 1) fun S8 =>
        kX12_pass_205 v1 v2 S8
def kX12_pass_129  (v0 : Nat) (v1 : Nat) (S : ZS) : Option (Int32 × ZS) :=
      gI S v0 14 5 fun x9 =>
      pI S v0 14 5 (x9 - 1) fun S10 =>
      gI S10 v0 14 5 fun x11 =>
      if x11 ≤ 0 then
        rcv S10 v0 14 <| b2 Prod.snd (kX12_take v0 0 S10) fun c15 S13 =>
        gI S13 v0 14 7 fun x16 =>
        pI S13 v0 14 7 (x16 + 1) fun S17 =>
        aG S17 c15 100000 0 fun x18 =>
        if x18 = 0 then
          aG S17 v1 100000 0 fun x21 =>
          aG S17 v1 100000 1 fun x22 =>
          if x22 ≤ x21 then
            kX12_pass_185 v1 c15 S17
          else
            aG S17 v1 100000 1 fun x24 =>
            aP S17 v1 100000 0 x24 fun S25 =>
            kX12_pass_185 v1 c15 S25
        else
          aP S17 v1 100000 2 0 fun S20 =>
          kX12_pass_205 v1 c15 S20
      else
        some (0, S10)
def kX12_pass_126  (v0 : Nat) (v1 : Nat) (vt0 : Int32) (vt1 : Nat) (S : ZS) : Option (Int32 × ZS) :=
      pI S vt1 14 5 vt0 fun S26 =>
      kX12_pass_129 v0 v1 S26
def kX12_pass_10  : Nat → Nat → Nat → Int32 → Int32 → ZS → Option (Int32 × ZS)
  | 0, _, _, _, _, _ => none
  | f + 1, v0, v1, v2, v3, S =>
        if v2 ≤ v3 then
          gI S v0 14 6 fun x28 =>
          pI S v0 14 6 (x28 + 1) fun S29 =>
          gN S29 v0 14 4 fun c30 =>
          aL S29 c30 400000 fun x31 =>
          if x31 = 0 then
            some (0, S29)
          else
            gN S29 v0 14 2 fun c33 =>
            gN S29 v0 14 4 fun c34 =>
            aN S29 c34 400000 0 fun c35 =>
            aG S29 c35 100000 1 fun x36 =>
            aN S29 c33 400000 x36 fun c37 =>
            gI S29 v0 14 5 fun x38 =>
            if x38 = 0 then
              gN S29 v0 14 4 fun c40 =>
              aN S29 c40 400000 0 fun c41 =>
              aG S29 c41 100000 0 fun x42 =>
              if x42 = 0 then
                aG S29 c37 100000 0 fun x51 =>
                dv (100 - x51) 10 fun x52 =>
                kX12_pass_126 v0 c37 (1 + x52) v0 S29
              else
                gN S29 v0 14 4 fun c44 =>
                aN S29 c44 400000 0 fun c45 =>
                aG S29 c45 100000 0 fun x46 =>
                if x46 = 1 then
                  aG S29 c37 100000 2 fun x48 =>
                  bd (if 0 ≤ x48 then x48 else 0 - x48) fun x49 =>
                  dv x49 5 fun x50 =>
                  kX12_pass_126 v0 c37 (1 + x50) v0 S29
                else
                  kX12_pass_126 v0 c37 20 v0 S29
            else
              kX12_pass_129 v0 c37 S29
        else
          aN S v1 500000 v3 fun c53 =>
          rcv S c53 13 <| b1 Prod.snd (kX11_carryOut c53 v0 S) fun S54 =>
          bd (v3 + 1) fun x56 =>
          kX12_pass_10 f v0 v1 v2 x56 S54
def kX12_pass (c0 : Nat) (S0 : ZS) : Option (Int32 × ZS) :=
  chk Prod.snd S0 <|
  gN S0 c0 14 8 fun c57 =>
  aL S0 c57 500000 fun x58 =>
  kX12_pass_10 FU c0 c57 x58 0 S0
set_option maxRecDepth 100000 in
set_option maxHeartbeats 8000000 in
theorem mX12_pass (E : EV) (l : Launch) (c0 : Nat) (S0 : ZS) (q0 : c0 ≠ 0 ∧ rk S0.n c0) : ∀ u, kX12_pass c0 S0 = some u → MIL E l yX12_pass cX12_pass 5 (Option.some Jvm.ClassFile.FieldType.int) 19 (fun ad => [.ref (rA E ad c0)]) S0 u := by
  intro u h
  unfold kX12_pass at h
  obtain ⟨hcw, h⟩ := chk_inv h
  refine ML2.of (by decide +kernel) (fun ad => Nat.le_of_ble_eq_true rfl) hcw ?_
  intro p e s m args below meth c ad F hF C hA hr hnm ls hl hG
  have C : Cx p s m args meth c cX12_pass 5 RX12 E := C
  have hx := C.1
  have hb := C.2.1
  have hU : F.uc = (u.2).c ∧ F.uw = (u.2).w := ⟨hF.2.2.2.2.1, hF.2.2.2.2.2⟩
  have hl : lv_has ls 5 [(0, .ref (rA E ad c0))] := hl
  obtain ⟨b0, h0, e0⟩ : ∃ b, RA E ad S0.n c0 b ∧ b = rA E ad c0 := ⟨_, RA.of q0.1 q0.2, rfl⟩
  rw [← e0] at hl
  have j205 : ∀ (v1 : Nat) (v2 : Nat) (S : ZS) (ad : Nat → Nat) (N : Nat) (bv1 : Nat) (bv2 : Nat) (H : Heap) (locs : List Loc) (ls : Array Slot) (cells slots : Nat), GL E s F H locs ad N S cells slots → RA E ad N v1 bv1 → RA E ad N v2 bv2 → lv_has ls 5 [(1, .ref bv1), (2, .ref bv2)] → kX12_pass_205 v1 v2 S = some u → W p l e (F.R 19) s m args below meth c H locs cells slots (MQ below (QIL E s.heap.size F.ad S0 u) args s (F.c - F.uc) (F.w - F.uw) F.A) (F0 m 205 ls []) := by
    intro v1 v2 S ad N bv1 bv2 H locs ls cells slots hG hv1 hv2 hl h
    unfold kX12_pass_205 at h
    refine lv_aload_n hx hb dX12_pass_205 rfl (lv_at hl 1 rfl) ?_
    refine lv_iconst (v := 0) hx hb dX12_pass_206 (by decide) ?_
    refine r2_gAI C hG hv2 dX12_pass_207 h (fun x1 h => ?_)
    refine lv_iconst (v := 2) hx hb dX12_pass_208 (by decide) ?_
    refine lv_icmp_ne (tgt := 222) hx hb dX12_pass_209 (by decide) (fun g2 => ?_) (fun g2 => ?_)
    · have h := (if_inv h).2 g2
      refine lv_iconst (v := 1) hx hb dX12_pass_222 (by decide) ?_
      exact r2_iret C hF hG hr rfl dX12_pass_223 h
    · have h := (if_inv h).1 g2
      refine lv_aload_n hx hb dX12_pass_212 rfl (lv_at hl 0 rfl) ?_
      refine lv_iconst (v := 0) hx hb dX12_pass_213 (by decide) ?_
      refine lv_bipush (v := 100) hx hb dX12_pass_214 (by decide) ?_
      refine r2_pAI C hG hv1 dX12_pass_216 h (fun H locs S3 hG h => ?_)
      refine lv_aload_n hx hb dX12_pass_217 rfl (lv_at hl 0 rfl) ?_
      refine lv_iconst (v := 1) hx hb dX12_pass_218 (by decide) ?_
      refine lv_bipush (v := 100) hx hb dX12_pass_219 (by decide) ?_
      refine r2_pAI C hG hv1 dX12_pass_221 h (fun H locs S4 hG h => ?_)
      refine lv_iconst (v := 1) hx hb dX12_pass_222 (by decide) ?_
      exact r2_iret C hF hG hr rfl dX12_pass_223 h
  have j185 : ∀ (v1 : Nat) (v2 : Nat) (S : ZS) (ad : Nat → Nat) (N : Nat) (bv1 : Nat) (bv2 : Nat) (H : Heap) (locs : List Loc) (ls : Array Slot) (cells slots : Nat), GL E s F H locs ad N S cells slots → RA E ad N v1 bv1 → RA E ad N v2 bv2 → lv_has ls 5 [(1, .ref bv1), (2, .ref bv2)] → kX12_pass_185 v1 v2 S = some u → W p l e (F.R 19) s m args below meth c H locs cells slots (MQ below (QIL E s.heap.size F.ad S0 u) args s (F.c - F.uc) (F.w - F.uw) F.A) (F0 m 185 ls []) := by
    intro v1 v2 S ad N bv1 bv2 H locs ls cells slots hG hv1 hv2 hl h
    unfold kX12_pass_185 at h
    refine lv_aload_n hx hb dX12_pass_185 rfl (lv_at hl 0 rfl) ?_
    refine lv_iconst (v := 1) hx hb dX12_pass_186 (by decide) ?_
    refine r2_gAI C hG hv1 dX12_pass_187 h (fun x5 h => ?_)
    refine lv_if_le (tgt := 205) hx hb dX12_pass_188 (by decide) (fun g6 => ?_) (fun g6 => ?_)
    · have h := (if_inv h).1 g6
      exact j205 v1 v2 S _ _ _ _ _ _ _ _ _ hG hv1 hv2 (lv_sub hl [0, 1] rfl) h
    · have h := (if_inv h).2 g6
      refine lv_aload_n hx hb dX12_pass_191 rfl (lv_at hl 0 rfl) ?_
      refine lv_iconst (v := 1) hx hb dX12_pass_192 (by decide) ?_
      refine lv_dup2_11 hx hb dX12_pass_193 rfl rfl ?_
      refine r2_gAI C hG hv1 dX12_pass_194 h (fun x7 h => ?_)
      refine lv_iconst (v := 1) hx hb dX12_pass_195 (by decide) ?_
      refine lv_isub hx hb dX12_pass_196 ?_
      refine r2_pAI C hG hv1 dX12_pass_197 h (fun H locs S8 hG h => ?_)
      refine lv_goto (tgt := 205) hx hb dX12_pass_198 (by decide) ?_
      exact j205 v1 v2 S8 _ _ _ _ _ _ _ _ _ hG hv1 hv2 (lv_sub hl [0, 1] rfl) h
  have j129 : ∀ (v0 : Nat) (v1 : Nat) (S : ZS) (ad : Nat → Nat) (N : Nat) (bv0 : Nat) (bv1 : Nat) (H : Heap) (locs : List Loc) (ls : Array Slot) (cells slots : Nat), GL E s F H locs ad N S cells slots → RA E ad N v0 bv0 → RA E ad N v1 bv1 → lv_has ls 5 [(0, .ref bv0), (1, .ref bv1)] → kX12_pass_129 v0 v1 S = some u → W p l e (F.R 19) s m args below meth c H locs cells slots (MQ below (QIL E s.heap.size F.ad S0 u) args s (F.c - F.uc) (F.w - F.uw) F.A) (F0 m 129 ls []) := by
    intro v0 v1 S ad N bv0 bv1 H locs ls cells slots hG hv0 hv1 hl h
    unfold kX12_pass_129 at h
    refine lv_aload_n hx hb dX12_pass_129 rfl (lv_at hl 0 rfl) ?_
    refine lv_dup hx hb dX12_pass_130 rfl ?_
    refine r2_gI C hG hv0 FQX12_39 rfl dX12_pass_131 h (fun x9 h => ?_)
    refine lv_iconst (v := 1) hx hb dX12_pass_134 (by decide) ?_
    refine lv_isub hx hb dX12_pass_135 ?_
    refine r2_pI C hG hv0 FQX12_39 (Or.inl rfl) rfl rfl rfl dX12_pass_136 h (fun H locs S10 hG h => ?_)
    refine lv_aload_n hx hb dX12_pass_139 rfl (lv_at hl 0 rfl) ?_
    refine r2_gI C hG hv0 FQX12_39 rfl dX12_pass_140 h (fun x11 h => ?_)
    refine lv_if_le (tgt := 148) hx hb dX12_pass_143 (by decide) (fun g12 => ?_) (fun g12 => ?_)
    · have h := (if_inv h).1 g12
      refine lv_aload_n hx hb dX12_pass_148 rfl (lv_at hl 0 rfl) ?_
      refine lv_iconst (v := 0) hx hb dX12_pass_149 (by decide) ?_
      refine r2_cVR C hA hl.1 hG hv0 [.int 0] [] (mX12_take E l v0 0 S10 (RAq hG hv0)) (by rw [hv0.1]) QLX12_72 KP14 rfl (rm2 (by decide) (by decide)) (Nat.le_of_ble_eq_true rfl) rfl dX12_pass_150 hU h (fun bc15 c15 S13 H locs ad14 cells slots hG hx9 h_c15 h => ?_)
      have hv0 := hv0.up hx9
      have hv1 := hv1.up hx9
      refine lv_astore_n (lv' := [(2, .ref bc15), (0, .ref bv0), (1, .ref bv1)]) hx hb dX12_pass_153 rfl hl (by decide) rfl (fun ls hl => ?_)
      refine lv_aload_n hx hb dX12_pass_154 rfl (lv_at hl 1 rfl) ?_
      refine lv_dup hx hb dX12_pass_155 rfl ?_
      refine r2_gI C hG hv0 FQX12_45 rfl dX12_pass_156 h (fun x16 h => ?_)
      refine lv_iconst (v := 1) hx hb dX12_pass_159 (by decide) ?_
      refine lv_iadd hx hb dX12_pass_160 ?_
      refine r2_pI C hG hv0 FQX12_45 (Or.inl rfl) rfl rfl rfl dX12_pass_161 h (fun H locs S17 hG h => ?_)
      refine lv_aload_n hx hb dX12_pass_164 rfl (lv_at hl 0 rfl) ?_
      refine lv_iconst (v := 0) hx hb dX12_pass_165 (by decide) ?_
      refine r2_gAI C hG h_c15 dX12_pass_166 h (fun x18 h => ?_)
      refine lv_if_ne (tgt := 201) hx hb dX12_pass_167 (by decide) (fun g19 => ?_) (fun g19 => ?_)
      · have h := (if_inv h).2 g19
        refine lv_aload_n hx hb dX12_pass_201 rfl (lv_at hl 2 rfl) ?_
        refine lv_iconst (v := 2) hx hb dX12_pass_202 (by decide) ?_
        refine lv_iconst (v := 0) hx hb dX12_pass_203 (by decide) ?_
        refine r2_pAI C hG hv1 dX12_pass_204 h (fun H locs S20 hG h => ?_)
        exact j205 v1 c15 S20 _ _ _ _ _ _ _ _ _ hG hv1 h_c15 (lv_sub hl [2, 0] rfl) h
      · have h := (if_inv h).1 g19
        refine lv_aload_n hx hb dX12_pass_170 rfl (lv_at hl 2 rfl) ?_
        refine lv_iconst (v := 0) hx hb dX12_pass_171 (by decide) ?_
        refine r2_gAI C hG hv1 dX12_pass_172 h (fun x21 h => ?_)
        refine lv_aload_n hx hb dX12_pass_173 rfl (lv_at hl 2 rfl) ?_
        refine lv_iconst (v := 1) hx hb dX12_pass_174 (by decide) ?_
        refine r2_gAI C hG hv1 dX12_pass_175 h (fun x22 h => ?_)
        refine lv_icmp_ge (tgt := 185) hx hb dX12_pass_176 (by decide) (fun g23 => ?_) (fun g23 => ?_)
        · have h := (if_inv h).1 g23
          exact j185 v1 c15 S17 _ _ _ _ _ _ _ _ _ hG hv1 h_c15 (lv_sub hl [2, 0] rfl) h
        · have h := (if_inv h).2 g23
          refine lv_aload_n hx hb dX12_pass_179 rfl (lv_at hl 2 rfl) ?_
          refine lv_iconst (v := 0) hx hb dX12_pass_180 (by decide) ?_
          refine lv_aload_n hx hb dX12_pass_181 rfl (lv_at hl 2 rfl) ?_
          refine lv_iconst (v := 1) hx hb dX12_pass_182 (by decide) ?_
          refine r2_gAI C hG hv1 dX12_pass_183 h (fun x24 h => ?_)
          refine r2_pAI C hG hv1 dX12_pass_184 h (fun H locs S25 hG h => ?_)
          exact j185 v1 c15 S25 _ _ _ _ _ _ _ _ _ hG hv1 h_c15 (lv_sub hl [2, 0] rfl) h
    · have h := (if_inv h).2 g12
      refine lv_iconst (v := 0) hx hb dX12_pass_146 (by decide) ?_
      exact r2_iret C hF hG hr rfl dX12_pass_147 h
  have j126 : ∀ (v0 : Nat) (v1 : Nat) (vt0 : Int32) (vt1 : Nat) (S : ZS) (ad : Nat → Nat) (N : Nat) (bv0 : Nat) (bv1 : Nat) (bvt1 : Nat) (H : Heap) (locs : List Loc) (ls : Array Slot) (cells slots : Nat), GL E s F H locs ad N S cells slots → RA E ad N v0 bv0 → RA E ad N v1 bv1 → RA E ad N vt1 bvt1 → lv_has ls 5 [(0, .ref bv0), (1, .ref bv1)] → kX12_pass_126 v0 v1 vt0 vt1 S = some u → W p l e (F.R 19) s m args below meth c H locs cells slots (MQ below (QIL E s.heap.size F.ad S0 u) args s (F.c - F.uc) (F.w - F.uw) F.A) (F0 m 126 ls [.int vt0, .ref bvt1]) := by
    intro v0 v1 vt0 vt1 S ad N bv0 bv1 bvt1 H locs ls cells slots hG hv0 hv1 hvt1 hl h
    unfold kX12_pass_126 at h
    refine r2_pI C hG hvt1 FQX12_39 (Or.inl rfl) rfl rfl rfl dX12_pass_126 h (fun H locs S26 hG h => ?_)
    exact j129 v0 v1 S26 _ _ _ _ _ _ _ _ _ hG hv0 hv1 (lv_sub hl [0, 1] rfl) h
  have j10 : ∀ f : Nat, ∀ (v0 : Nat) (v1 : Nat) (v2 : Int32) (v3 : Int32) (S : ZS) (ad : Nat → Nat) (N : Nat) (bv0 : Nat) (bv1 : Nat) (H : Heap) (locs : List Loc) (ls : Array Slot) (cells slots : Nat), GL E s F H locs ad N S cells slots → RA E ad N v0 bv0 → RA E ad N v1 bv1 → lv_has ls 5 [(0, .ref bv0), (1, .ref bv1), (2, .int v2), (3, .int v3)] → kX12_pass_10 f v0 v1 v2 v3 S = some u → W p l e (F.R 19) s m args below meth c H locs cells slots (MQ below (QIL E s.heap.size F.ad S0 u) args s (F.c - F.uc) (F.w - F.uw) F.A) (F0 m 10 ls []) := by
    intro f
    induction f with
    | zero =>
      intro v0 v1 v2 v3 S ad N bv0 bv1 H locs ls cells slots hG hv0 hv1 hl h
      unfold kX12_pass_10 at h
      cases h
    | succ f ih =>
      intro v0 v1 v2 v3 S ad N bv0 bv1 H locs ls cells slots hG hv0 hv1 hl h
      unfold kX12_pass_10 at h
      refine lv_iload_n hx hb dX12_pass_10 rfl (lv_at hl 3 rfl) ?_
      refine lv_iload_n hx hb dX12_pass_11 rfl (lv_at hl 2 rfl) ?_
      refine lv_icmp_ge (tgt := 32) hx hb dX12_pass_12 (by decide) (fun g27 => ?_) (fun g27 => ?_)
      · have h := (if_inv h).1 g27
        refine lv_aload_n hx hb dX12_pass_32 rfl (lv_at hl 0 rfl) ?_
        refine lv_dup hx hb dX12_pass_33 rfl ?_
        refine r2_gI C hG hv0 FQX12_42 rfl dX12_pass_34 h (fun x28 h => ?_)
        refine lv_iconst (v := 1) hx hb dX12_pass_37 (by decide) ?_
        refine lv_iadd hx hb dX12_pass_38 ?_
        refine r2_pI C hG hv0 FQX12_42 (Or.inl rfl) rfl rfl rfl dX12_pass_39 h (fun H locs S29 hG h => ?_)
        refine lv_aload_n hx hb dX12_pass_42 rfl (lv_at hl 0 rfl) ?_
        refine r2_gN C hG hv0 FQX12_25 rfl dX12_pass_43 h (fun c30 bc30 h_c30 h => ?_)
        refine r2_len C hG h_c30 400000 (Or.inr (Or.inr (Or.inr (Or.inl rfl)))) dX12_pass_46 h (fun x31 h => ?_)
        refine lv_if_ne (tgt := 52) hx hb dX12_pass_47 (by decide) (fun g32 => ?_) (fun g32 => ?_)
        · have h := (if_inv h).2 g32
          refine lv_aload_n hx hb dX12_pass_52 rfl (lv_at hl 0 rfl) ?_
          refine r2_gN C hG hv0 FQX12_18 rfl dX12_pass_53 h (fun c33 bc33 h_c33 h => ?_)
          refine lv_aload_n hx hb dX12_pass_56 rfl (lv_at hl 0 rfl) ?_
          refine r2_gN C hG hv0 FQX12_25 rfl dX12_pass_57 h (fun c34 bc34 h_c34 h => ?_)
          refine lv_iconst (v := 0) hx hb dX12_pass_60 (by decide) ?_
          refine r2_gAA C hG h_c34 dX12_pass_61 h (fun c35 bc35 h_c35 h => ?_)
          refine lv_iconst (v := 1) hx hb dX12_pass_62 (by decide) ?_
          refine r2_gAI C hG h_c35 dX12_pass_63 h (fun x36 h => ?_)
          refine r2_gAA C hG h_c33 dX12_pass_64 h (fun c37 bc37 h_c37 h => ?_)
          refine lv_astore_n (lv' := [(1, .ref bc37), (0, .ref bv0), (2, .int v2), (3, .int v3)]) hx hb dX12_pass_65 rfl hl (by decide) rfl (fun ls hl => ?_)
          refine lv_aload_n hx hb dX12_pass_66 rfl (lv_at hl 1 rfl) ?_
          refine r2_gI C hG hv0 FQX12_39 rfl dX12_pass_67 h (fun x38 h => ?_)
          refine lv_if_ne (tgt := 129) hx hb dX12_pass_70 (by decide) (fun g39 => ?_) (fun g39 => ?_)
          · have h := (if_inv h).2 g39
            exact j129 v0 c37 S29 _ _ _ _ _ _ _ _ _ hG hv0 h_c37 (lv_sub hl [1, 0] rfl) h
          · have h := (if_inv h).1 g39
            refine lv_aload_n hx hb dX12_pass_73 rfl (lv_at hl 1 rfl) ?_
            refine lv_aload_n hx hb dX12_pass_74 rfl (lv_at hl 1 rfl) ?_
            refine r2_gN C hG hv0 FQX12_25 rfl dX12_pass_75 h (fun c40 bc40 h_c40 h => ?_)
            refine lv_iconst (v := 0) hx hb dX12_pass_78 (by decide) ?_
            refine r2_gAA C hG h_c40 dX12_pass_79 h (fun c41 bc41 h_c41 h => ?_)
            refine lv_iconst (v := 0) hx hb dX12_pass_80 (by decide) ?_
            refine r2_gAI C hG h_c41 dX12_pass_81 h (fun x42 h => ?_)
            refine lv_if_ne (tgt := 99) hx hb dX12_pass_82 (by decide) (fun g43 => ?_) (fun g43 => ?_)
            · have h := (if_inv h).2 g43
              refine lv_aload_n hx hb dX12_pass_99 rfl (lv_at hl 1 rfl) ?_
              refine r2_gN C hG hv0 FQX12_25 rfl dX12_pass_100 h (fun c44 bc44 h_c44 h => ?_)
              refine lv_iconst (v := 0) hx hb dX12_pass_103 (by decide) ?_
              refine r2_gAA C hG h_c44 dX12_pass_104 h (fun c45 bc45 h_c45 h => ?_)
              refine lv_iconst (v := 0) hx hb dX12_pass_105 (by decide) ?_
              refine r2_gAI C hG h_c45 dX12_pass_106 h (fun x46 h => ?_)
              refine lv_iconst (v := 1) hx hb dX12_pass_107 (by decide) ?_
              refine lv_icmp_ne (tgt := 124) hx hb dX12_pass_108 (by decide) (fun g47 => ?_) (fun g47 => ?_)
              · have h := (if_inv h).2 g47
                refine lv_bipush (v := 20) hx hb dX12_pass_124 (by decide) ?_
                exact j126 v0 c37 20 v0 S29 _ _ _ _ _ _ _ _ _ _ hG hv0 h_c37 hv0 (lv_sub hl [1, 0] rfl) h
              · have h := (if_inv h).1 g47
                refine lv_iconst (v := 1) hx hb dX12_pass_111 (by decide) ?_
                refine lv_aload_n hx hb dX12_pass_112 rfl (lv_at hl 0 rfl) ?_
                refine lv_iconst (v := 2) hx hb dX12_pass_113 (by decide) ?_
                refine r2_gAI C hG h_c37 dX12_pass_114 h (fun x48 h => ?_)
                refine r_abs C hl.1 QLX12_63 ⟨(Nat.le_of_ble_eq_true rfl), (Nat.le_of_ble_eq_true rfl), (GLr hG).1, (GLr hG).2⟩ dX12_pass_115 ?_
                refine r_nm h (fun x49 h => ?_)
                refine lv_iconst (v := 5) hx hb dX12_pass_118 (by decide) ?_
                refine r_div C dX12_pass_119 h (fun x50 h => ?_)
                refine lv_iadd hx hb dX12_pass_120 ?_
                refine lv_goto (tgt := 126) hx hb dX12_pass_121 (by decide) ?_
                exact j126 v0 c37 (1 + x50) v0 S29 _ _ _ _ _ _ _ _ _ _ hG hv0 h_c37 hv0 (lv_sub hl [1, 0] rfl) h
            · have h := (if_inv h).1 g43
              refine lv_iconst (v := 1) hx hb dX12_pass_85 (by decide) ?_
              refine lv_bipush (v := 100) hx hb dX12_pass_86 (by decide) ?_
              refine lv_aload_n hx hb dX12_pass_88 rfl (lv_at hl 0 rfl) ?_
              refine lv_iconst (v := 0) hx hb dX12_pass_89 (by decide) ?_
              refine r2_gAI C hG h_c37 dX12_pass_90 h (fun x51 h => ?_)
              refine lv_isub hx hb dX12_pass_91 ?_
              refine lv_bipush (v := 10) hx hb dX12_pass_92 (by decide) ?_
              refine r_div C dX12_pass_94 h (fun x52 h => ?_)
              refine lv_iadd hx hb dX12_pass_95 ?_
              refine lv_goto (tgt := 126) hx hb dX12_pass_96 (by decide) ?_
              exact j126 v0 c37 (1 + x52) v0 S29 _ _ _ _ _ _ _ _ _ _ hG hv0 h_c37 hv0 (lv_sub hl [1, 0] rfl) h
        · have h := (if_inv h).1 g32
          refine lv_iconst (v := 0) hx hb dX12_pass_50 (by decide) ?_
          exact r2_iret C hF hG hr rfl dX12_pass_51 h
      · have h := (if_inv h).2 g27
        refine lv_aload_n hx hb dX12_pass_15 rfl (lv_at hl 1 rfl) ?_
        refine lv_iload_n hx hb dX12_pass_16 rfl (lv_at hl 3 rfl) ?_
        refine r2_gAQ C hG hv1 dX12_pass_17 h (fun c53 bc53 h_c53 h => ?_)
        refine lv_astore (lv' := [(4, .ref bc53), (0, .ref bv0), (1, .ref bv1), (2, .int v2), (3, .int v3)]) hx hb dX12_pass_18 hl (by decide) rfl (fun ls hl => ?_)
        refine lv_aload hx hb dX12_pass_20 (lv_at hl 0 rfl) ?_
        refine lv_aload_n hx hb dX12_pass_22 rfl (lv_at hl 1 rfl) ?_
        refine r2_cVV C hA hl.1 hG h_c53 [.ref bv0] [] (mX11_carryOut E l c53 v0 S (RAq hG h_c53) (RAq hG hv0)) (by rw [h_c53.1, hv0.1]) QLX12_68 KP13 rfl (rm2 (by decide) (by decide)) (Nat.le_of_ble_eq_true rfl) rfl dX12_pass_23 hU h (fun S54 H locs ad55 cells slots hG hx9 h => ?_)
        have h_c53 := h_c53.up hx9
        have hv0 := hv0.up hx9
        have hv1 := hv1.up hx9
        refine r_iinc (w := 1) (lv' := fun x56 => [(3, .int x56), (4, .ref bc53), (0, .ref bv0), (1, .ref bv1), (2, .int v2)]) C dX12_pass_26 hl (k := 4) rfl (by decide) (by decide) (fun _ => rfl) h (fun x56 ls hl h => ?_)
        refine lv_goto (tgt := 10) hx hb dX12_pass_29 (by decide) ?_
        exact ih v0 v1 v2 x56 S54 _ _ _ _ _ _ _ _ _ hG hv0 hv1 (lv_sub hl [2, 3, 4, 0] rfl) h
  refine lv_aload_n hx hb dX12_pass_0 rfl (lv_at hl 0 rfl) ?_
  refine r2_gN C hG h0 FQX12_30 rfl dX12_pass_1 h (fun c57 bc57 h_c57 h => ?_)
  refine lv_astore_n (lv' := [(1, .ref bc57), (0, .ref b0)]) hx hb dX12_pass_4 rfl hl (by decide) rfl (fun ls hl => ?_)
  refine lv_aload_n hx hb dX12_pass_5 rfl (lv_at hl 0 rfl) ?_
  refine r2_len C hG h_c57 500000 (Or.inr (Or.inr (Or.inr (Or.inr rfl)))) dX12_pass_6 h (fun x58 h => ?_)
  refine lv_istore_n (lv' := [(2, .int x58), (1, .ref bc57), (0, .ref b0)]) hx hb dX12_pass_7 rfl hl (by decide) rfl (fun ls hl => ?_)
  refine lv_iconst (v := 0) hx hb dX12_pass_8 (by decide) ?_
  refine lv_istore_n (lv' := [(3, .int 0), (2, .int x58), (1, .ref bc57), (0, .ref b0)]) hx hb dX12_pass_9 rfl hl (by decide) rfl (fun ls hl => ?_)
  exact j10 FU c0 c57 x58 0 S0 _ _ _ _ _ _ _ _ _ hG h0 h_c57 (lv_sub hl [3, 2, 1, 0] rfl) h
def kX12_pass__4  : Nat → Nat → Int32 → Int32 → Int32 → ZS → Option (Int32 × ZS)
  | 0, _, _, _, _, _ => none
  | f + 1, v0, v1, v2, v3, S =>
        if v1 ≤ v3 then
          some (v2, S)
        else
          rcv S v0 14 <| b2 Prod.snd (kX12_pass v0 S) fun x4 S2 =>
          bd (v2 + x4) fun x5 =>
          bd (v3 + 1) fun x6 =>
          kX12_pass__4 f v0 v1 x5 x6 S2
def kX12_pass_ (c0 : Nat) (a1 : Int32) (S0 : ZS) : Option (Int32 × ZS) :=
  chk Prod.snd S0 <|
  kX12_pass__4 FU c0 a1 0 0 S0
set_option maxRecDepth 100000 in
set_option maxHeartbeats 8000000 in
theorem mX12_pass_ (E : EV) (l : Launch) (c0 : Nat) (a1 : Int32) (S0 : ZS) (q0 : c0 ≠ 0 ∧ rk S0.n c0) : ∀ u, kX12_pass_ c0 a1 S0 = some u → MIL E l yX12_pass_ cX12_pass_ 4 (Option.some Jvm.ClassFile.FieldType.int) 20 (fun ad => [.ref (rA E ad c0), .int a1]) S0 u := by
  intro u h
  unfold kX12_pass_ at h
  obtain ⟨hcw, h⟩ := chk_inv h
  refine ML2.of (by decide +kernel) (fun ad => Nat.le_of_ble_eq_true rfl) hcw ?_
  intro p e s m args below meth c ad F hF C hA hr hnm ls hl hG
  have C : Cx p s m args meth c cX12_pass_ 4 RX12 E := C
  have hx := C.1
  have hb := C.2.1
  have hU : F.uc = (u.2).c ∧ F.uw = (u.2).w := ⟨hF.2.2.2.2.1, hF.2.2.2.2.2⟩
  have hl : lv_has ls 4 [(0, .ref (rA E ad c0)), (1, .int a1)] := hl
  obtain ⟨b0, h0, e0⟩ : ∃ b, RA E ad S0.n c0 b ∧ b = rA E ad c0 := ⟨_, RA.of q0.1 q0.2, rfl⟩
  rw [← e0] at hl
  have j4 : ∀ f : Nat, ∀ (v0 : Nat) (v1 : Int32) (v2 : Int32) (v3 : Int32) (S : ZS) (ad : Nat → Nat) (N : Nat) (bv0 : Nat) (H : Heap) (locs : List Loc) (ls : Array Slot) (cells slots : Nat), GL E s F H locs ad N S cells slots → RA E ad N v0 bv0 → lv_has ls 4 [(0, .ref bv0), (1, .int v1), (2, .int v2), (3, .int v3)] → kX12_pass__4 f v0 v1 v2 v3 S = some u → W p l e (F.R 20) s m args below meth c H locs cells slots (MQ below (QIL E s.heap.size F.ad S0 u) args s (F.c - F.uc) (F.w - F.uw) F.A) (F0 m 4 ls []) := by
    intro f
    induction f with
    | zero =>
      intro v0 v1 v2 v3 S ad N bv0 H locs ls cells slots hG hv0 hl h
      unfold kX12_pass__4 at h
      cases h
    | succ f ih =>
      intro v0 v1 v2 v3 S ad N bv0 H locs ls cells slots hG hv0 hl h
      unfold kX12_pass__4 at h
      refine lv_iload_n hx hb dX12_pass__4 rfl (lv_at hl 3 rfl) ?_
      refine lv_iload_n hx hb dX12_pass__5 rfl (lv_at hl 1 rfl) ?_
      refine lv_icmp_ge (tgt := 22) hx hb dX12_pass__6 (by decide) (fun g1 => ?_) (fun g1 => ?_)
      · have h := (if_inv h).1 g1
        refine lv_iload_n hx hb dX12_pass__22 rfl (lv_at hl 2 rfl) ?_
        exact r2_iret C hF hG hr rfl dX12_pass__23 h
      · have h := (if_inv h).2 g1
        refine lv_iload_n hx hb dX12_pass__9 rfl (lv_at hl 2 rfl) ?_
        refine lv_aload_n hx hb dX12_pass__10 rfl (lv_at hl 0 rfl) ?_
        refine r2_cVI C hA hl.1 hG hv0 [] [.int v2] (mX12_pass E l v0 S (RAq hG hv0)) (by rw [hv0.1]) QLX12_76 KP14 rfl (rm2 (by decide) (by decide)) (Nat.le_of_ble_eq_true rfl) rfl dX12_pass__11 hU h (fun x4 S2 H locs ad3 cells slots hG hx9 h => ?_)
        have hv0 := hv0.up hx9
        refine lv_iadd hx hb dX12_pass__14 ?_
        refine r_nm h (fun x5 h => ?_)
        refine lv_istore_n (lv' := [(2, .int x5), (0, .ref bv0), (1, .int v1), (3, .int v3)]) hx hb dX12_pass__15 rfl hl (by decide) rfl (fun ls hl => ?_)
        refine r_iinc (w := 1) (lv' := fun x6 => [(3, .int x6), (2, .int x5), (0, .ref bv0), (1, .int v1)]) C dX12_pass__16 hl (k := 3) rfl (by decide) (by decide) (fun _ => rfl) h (fun x6 ls hl h => ?_)
        refine lv_goto (tgt := 4) hx hb dX12_pass__19 (by decide) ?_
        exact ih v0 v1 x5 x6 S2 _ _ _ _ _ _ _ _ hG hv0 (lv_sub hl [2, 3, 1, 0] rfl) h
  refine lv_iconst (v := 0) hx hb dX12_pass__0 (by decide) ?_
  refine lv_istore_n (lv' := [(2, .int 0), (0, .ref b0), (1, .int a1)]) hx hb dX12_pass__1 rfl hl (by decide) rfl (fun ls hl => ?_)
  refine lv_iconst (v := 0) hx hb dX12_pass__2 (by decide) ?_
  refine lv_istore_n (lv' := [(3, .int 0), (2, .int 0), (0, .ref b0), (1, .int a1)]) hx hb dX12_pass__3 rfl hl (by decide) rfl (fun ls hl => ?_)
  exact j4 FU c0 a1 0 0 S0 _ _ _ _ _ _ _ _ hG h0 (lv_sub hl [2, 3, 1, 0] rfl) h
