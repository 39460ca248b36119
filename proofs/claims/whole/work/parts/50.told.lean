def k10_begin (o : Nat) (g : G) : Option (G) :=
  bd (up g o 0 0) fun g1 =>
  bd (up g1 o 1 60) fun g2 =>
  bd (up g2 o 2 1000) fun g3 =>
  bd (up g3 o 5 0) fun g4 =>
  bd (up g4 o 12 0) fun g5 =>
  some g5
set_option maxRecDepth 100000 in
set_option maxHeartbeats 4000000 in
theorem m10_begin (E : EV) (l : Launch) (o : Nat) (hk : kd o = 10) (g : G) : ∀ u, k10_begin o g = some u → MV E l yX10_begin cX10_begin 1 none 0 0 0 [.ref (E.ad o)] g u := by
  intro u h
  refine MG.of (by decide +kernel) (Nat.le_of_ble_eq_true rfl) ?_
  intro p e s m args below meth c C hr hnm ls hl hG
  have C : Cx p s m args meth c cX10_begin 1 RX10 E := C
  have hx := C.1
  have hb := C.2.1
  have hl : lv_has ls 1 [(0, .ref (E.ad o))] := hl
  unfold k10_begin at h
  refine lv_aload_n hx hb dX10_begin_0 rfl (lv_at hl 0 rfl) ?_
  refine lv_iconst (v := 0) hx hb dX10_begin_1 (by decide) ?_
  refine r_putI C hG FX10_52 hk rfl dX10_begin_2 h (fun H locs g1 hG h => ?_)
  refine lv_aload_n hx hb dX10_begin_5 rfl (lv_at hl 0 rfl) ?_
  refine lv_bipush (v := 60) hx hb dX10_begin_6 (by decide) ?_
  refine r_putI C hG FX10_9 hk rfl dX10_begin_8 h (fun H locs g2 hG h => ?_)
  refine lv_aload_n hx hb dX10_begin_11 rfl (lv_at hl 0 rfl) ?_
  refine lv_sipush (v := 1000) hx hb dX10_begin_12 (by decide) ?_
  refine r_putI C hG FX10_15 hk rfl dX10_begin_15 h (fun H locs g3 hG h => ?_)
  refine lv_aload_n hx hb dX10_begin_18 rfl (lv_at hl 0 rfl) ?_
  refine lv_iconst (v := 0) hx hb dX10_begin_19 (by decide) ?_
  refine r_putI C hG FX10_55 hk rfl dX10_begin_20 h (fun H locs g4 hG h => ?_)
  refine lv_aload_n hx hb dX10_begin_23 rfl (lv_at hl 0 rfl) ?_
  refine lv_iconst (v := 0) hx hb dX10_begin_24 (by decide) ?_
  refine r_putI C hG FX10_58 hk rfl dX10_begin_25 h (fun H locs g5 hG h => ?_)
  exact r_vret C hG hr dX10_begin_28 h
def k10_copy (o0 : Nat) (o1 : Nat) (N : Nat) (g : G) : Option (G) :=
  bd (cpy g o0 o1 N) fun g1 =>
  some g1
set_option maxRecDepth 100000 in
set_option maxHeartbeats 4000000 in
theorem m10_copy (E : EV) (l : Launch) (o0 : Nat) (o1 : Nat) (N : Nat) (hk0 : kd o0 = 100000 + N) (hk1 : kd o1 = 100000 + N) (hN : N < 100000) (g : G) : ∀ u, k10_copy o0 o1 N g = some u → MV E l yX10_copy cX10_copy 2 none 1 0 0 [.ref (E.ad o0), .ref (E.ad o1)] g u := by
  intro u h
  refine MG.of (by decide +kernel) (Nat.le_of_ble_eq_true rfl) ?_
  intro p e s m args below meth c C hr hnm ls hl hG
  have C : Cx p s m args meth c cX10_copy 2 RX10 E := C
  have hx := C.1
  have hb := C.2.1
  have hl : lv_has ls 2 [(0, .ref (E.ad o0)), (1, .ref (E.ad o1))] := hl
  unfold k10_copy at h
  refine lv_aload_n hx hb dX10_copy_0 rfl (lv_at hl 0 rfl) ?_
  refine lv_iconst (v := 0) hx hb dX10_copy_1 (by decide) ?_
  refine lv_aload_n hx hb dX10_copy_2 rfl (lv_at hl 1 rfl) ?_
  refine lv_iconst (v := 0) hx hb dX10_copy_3 (by decide) ?_
  refine lv_aload_n hx hb dX10_copy_4 rfl (lv_at hl 1 rfl) ?_
  refine r_alen (v := nI N) C hG (N := N) hk1 hN rfl dX10_copy_5 ?_
  refine r_cpy C hl.1 hG (N := N) LX10_61 hk0 hk1 hN rfl ⟨(Nat.le_of_ble_eq_true rfl), (by decide +kernel)⟩ dX10_copy_6 h (fun H locs g1 hG h => ?_)
  exact r_vret C hG hr dX10_copy_9 h
def k10_become (o : Nat) (o1 : Nat) (g : G) : Option (G) :=
  bd (up g o 0 (g o1 0)) fun g1 =>
  bd (up g1 o 1 (g1 o1 1)) fun g2 =>
  bd (up g2 o 2 (g2 o1 2)) fun g3 =>
  bd (up g3 o 5 (g3 o1 5)) fun g4 =>
  bd (up g4 o 12 (g4 o1 12)) fun g5 =>
  (k10_copy (o1 + 1) (o + 1) 11 g5).bind fun g6 =>
  (k10_copy (o1 + 2) (o + 2) 11 g6).bind fun g7 =>
  (k10_copy (o1 + 3) (o + 3) 17 g7).bind fun g8 =>
  (k10_copy (o1 + 4) (o + 4) 17 g8).bind fun g9 =>
  (k10_copy (o1 + 5) (o + 5) 17 g9).bind fun g10 =>
  (k10_copy (o1 + 6) (o + 6) 17 g10).bind fun g11 =>
  (k10_copy (o1 + 7) (o + 7) 17 g11).bind fun g12 =>
  (k10_copy (o1 + 8) (o + 8) 17 g12).bind fun g13 =>
  (k10_copy (o1 + 9) (o + 9) 800 g13).bind fun g14 =>
  (k10_copy (o1 + 10) (o + 10) 800 g14).bind fun g15 =>
  (k10_copy (o1 + 11) (o + 11) 800 g15).bind fun g16 =>
  some g16
set_option maxRecDepth 100000 in
set_option maxHeartbeats 4000000 in
theorem m10_become (E : EV) (l : Launch) (o : Nat) (o1 : Nat) (hk : kd o = 10) (hk1 : kd o1 = 10) (g : G) : ∀ u, k10_become o o1 g = some u → MV E l yX10_become cX10_become 2 none 2 0 0 [.ref (E.ad o), .ref (E.ad o1)] g u := by
  intro u h
  refine MG.of (by decide +kernel) (Nat.le_of_ble_eq_true rfl) ?_
  intro p e s m args below meth c C hr hnm ls hl hG
  have C : Cx p s m args meth c cX10_become 2 RX10 E := C
  have hx := C.1
  have hb := C.2.1
  have hl : lv_has ls 2 [(0, .ref (E.ad o)), (1, .ref (E.ad o1))] := hl
  unfold k10_become at h
  refine lv_aload_n hx hb dX10_become_0 rfl (lv_at hl 0 rfl) ?_
  refine lv_aload_n hx hb dX10_become_1 rfl (lv_at hl 1 rfl) ?_
  refine r_getI C hG FX10_52 hk1 rfl dX10_become_2 ?_
  refine r_putI C hG FX10_52 hk rfl dX10_become_5 h (fun H locs g1 hG h => ?_)
  refine lv_aload_n hx hb dX10_become_8 rfl (lv_at hl 0 rfl) ?_
  refine lv_aload_n hx hb dX10_become_9 rfl (lv_at hl 1 rfl) ?_
  refine r_getI C hG FX10_9 hk1 rfl dX10_become_10 ?_
  refine r_putI C hG FX10_9 hk rfl dX10_become_13 h (fun H locs g2 hG h => ?_)
  refine lv_aload_n hx hb dX10_become_16 rfl (lv_at hl 0 rfl) ?_
  refine lv_aload_n hx hb dX10_become_17 rfl (lv_at hl 1 rfl) ?_
  refine r_getI C hG FX10_15 hk1 rfl dX10_become_18 ?_
  refine r_putI C hG FX10_15 hk rfl dX10_become_21 h (fun H locs g3 hG h => ?_)
  refine lv_aload_n hx hb dX10_become_24 rfl (lv_at hl 0 rfl) ?_
  refine lv_aload_n hx hb dX10_become_25 rfl (lv_at hl 1 rfl) ?_
  refine r_getI C hG FX10_55 hk1 rfl dX10_become_26 ?_
  refine r_putI C hG FX10_55 hk rfl dX10_become_29 h (fun H locs g4 hG h => ?_)
  refine lv_aload_n hx hb dX10_become_32 rfl (lv_at hl 0 rfl) ?_
  refine lv_aload_n hx hb dX10_become_33 rfl (lv_at hl 1 rfl) ?_
  refine r_getI C hG FX10_58 hk1 rfl dX10_become_34 ?_
  refine r_putI C hG FX10_58 hk rfl dX10_become_37 h (fun H locs g5 hG h => ?_)
  refine lv_aload_n hx hb dX10_become_40 rfl (lv_at hl 1 rfl) ?_
  refine r_getR (d := 1) C hG FX10_18 hk1 rfl (by decide) dX10_become_41 ?_
  refine lv_aload_n hx hb dX10_become_44 rfl (lv_at hl 0 rfl) ?_
  refine r_getR (d := 1) C hG FX10_18 hk rfl (by decide) dX10_become_45 ?_
  refine r_callSV C hl.1 hG [.ref (E.ad (o1 + 1)), .ref (E.ad (o + 1))] [] (m10_copy E l (o1 + 1) (o + 1) 11 (kR10_3 hk1) (kR10_3 hk) (by decide) g5) LX10_67 rfl (rm_ok (by decide) (by decide)) (Nat.le_of_ble_eq_true rfl) ⟨Nat.le_refl _, Nat.le_refl _⟩ rfl dX10_become_48 h (fun g6 H locs hG h => ?_)
  refine lv_aload_n hx hb dX10_become_51 rfl (lv_at hl 1 rfl) ?_
  refine r_getR (d := 2) C hG FX10_22 hk1 rfl (by decide) dX10_become_52 ?_
  refine lv_aload_n hx hb dX10_become_55 rfl (lv_at hl 0 rfl) ?_
  refine r_getR (d := 2) C hG FX10_22 hk rfl (by decide) dX10_become_56 ?_
  refine r_callSV C hl.1 hG [.ref (E.ad (o1 + 2)), .ref (E.ad (o + 2))] [] (m10_copy E l (o1 + 2) (o + 2) 11 (kR10_4 hk1) (kR10_4 hk) (by decide) g6) LX10_67 rfl (rm_ok (by decide) (by decide)) (Nat.le_of_ble_eq_true rfl) ⟨Nat.le_refl _, Nat.le_refl _⟩ rfl dX10_become_59 h (fun g7 H locs hG h => ?_)
  refine lv_aload_n hx hb dX10_become_62 rfl (lv_at hl 1 rfl) ?_
  refine r_getR (d := 3) C hG FX10_25 hk1 rfl (by decide) dX10_become_63 ?_
  refine lv_aload_n hx hb dX10_become_66 rfl (lv_at hl 0 rfl) ?_
  refine r_getR (d := 3) C hG FX10_25 hk rfl (by decide) dX10_become_67 ?_
  refine r_callSV C hl.1 hG [.ref (E.ad (o1 + 3)), .ref (E.ad (o + 3))] [] (m10_copy E l (o1 + 3) (o + 3) 17 (kR10_6 hk1) (kR10_6 hk) (by decide) g7) LX10_67 rfl (rm_ok (by decide) (by decide)) (Nat.le_of_ble_eq_true rfl) ⟨Nat.le_refl _, Nat.le_refl _⟩ rfl dX10_become_70 h (fun g8 H locs hG h => ?_)
  refine lv_aload_n hx hb dX10_become_73 rfl (lv_at hl 1 rfl) ?_
  refine r_getR (d := 4) C hG FX10_28 hk1 rfl (by decide) dX10_become_74 ?_
  refine lv_aload_n hx hb dX10_become_77 rfl (lv_at hl 0 rfl) ?_
  refine r_getR (d := 4) C hG FX10_28 hk rfl (by decide) dX10_become_78 ?_
  refine r_callSV C hl.1 hG [.ref (E.ad (o1 + 4)), .ref (E.ad (o + 4))] [] (m10_copy E l (o1 + 4) (o + 4) 17 (kR10_7 hk1) (kR10_7 hk) (by decide) g8) LX10_67 rfl (rm_ok (by decide) (by decide)) (Nat.le_of_ble_eq_true rfl) ⟨Nat.le_refl _, Nat.le_refl _⟩ rfl dX10_become_81 h (fun g9 H locs hG h => ?_)
  refine lv_aload_n hx hb dX10_become_84 rfl (lv_at hl 1 rfl) ?_
  refine r_getR (d := 5) C hG FX10_31 hk1 rfl (by decide) dX10_become_85 ?_
  refine lv_aload_n hx hb dX10_become_88 rfl (lv_at hl 0 rfl) ?_
  refine r_getR (d := 5) C hG FX10_31 hk rfl (by decide) dX10_become_89 ?_
  refine r_callSV C hl.1 hG [.ref (E.ad (o1 + 5)), .ref (E.ad (o + 5))] [] (m10_copy E l (o1 + 5) (o + 5) 17 (kR10_8 hk1) (kR10_8 hk) (by decide) g9) LX10_67 rfl (rm_ok (by decide) (by decide)) (Nat.le_of_ble_eq_true rfl) ⟨Nat.le_refl _, Nat.le_refl _⟩ rfl dX10_become_92 h (fun g10 H locs hG h => ?_)
  refine lv_aload_n hx hb dX10_become_95 rfl (lv_at hl 1 rfl) ?_
  refine r_getR (d := 6) C hG FX10_34 hk1 rfl (by decide) dX10_become_96 ?_
  refine lv_aload_n hx hb dX10_become_99 rfl (lv_at hl 0 rfl) ?_
  refine r_getR (d := 6) C hG FX10_34 hk rfl (by decide) dX10_become_100 ?_
  refine r_callSV C hl.1 hG [.ref (E.ad (o1 + 6)), .ref (E.ad (o + 6))] [] (m10_copy E l (o1 + 6) (o + 6) 17 (kR10_9 hk1) (kR10_9 hk) (by decide) g10) LX10_67 rfl (rm_ok (by decide) (by decide)) (Nat.le_of_ble_eq_true rfl) ⟨Nat.le_refl _, Nat.le_refl _⟩ rfl dX10_become_103 h (fun g11 H locs hG h => ?_)
  refine lv_aload_n hx hb dX10_become_106 rfl (lv_at hl 1 rfl) ?_
  refine r_getR (d := 7) C hG FX10_37 hk1 rfl (by decide) dX10_become_107 ?_
  refine lv_aload_n hx hb dX10_become_110 rfl (lv_at hl 0 rfl) ?_
  refine r_getR (d := 7) C hG FX10_37 hk rfl (by decide) dX10_become_111 ?_
  refine r_callSV C hl.1 hG [.ref (E.ad (o1 + 7)), .ref (E.ad (o + 7))] [] (m10_copy E l (o1 + 7) (o + 7) 17 (kR10_10 hk1) (kR10_10 hk) (by decide) g11) LX10_67 rfl (rm_ok (by decide) (by decide)) (Nat.le_of_ble_eq_true rfl) ⟨Nat.le_refl _, Nat.le_refl _⟩ rfl dX10_become_114 h (fun g12 H locs hG h => ?_)
  refine lv_aload_n hx hb dX10_become_117 rfl (lv_at hl 1 rfl) ?_
  refine r_getR (d := 8) C hG FX10_40 hk1 rfl (by decide) dX10_become_118 ?_
  refine lv_aload_n hx hb dX10_become_121 rfl (lv_at hl 0 rfl) ?_
  refine r_getR (d := 8) C hG FX10_40 hk rfl (by decide) dX10_become_122 ?_
  refine r_callSV C hl.1 hG [.ref (E.ad (o1 + 8)), .ref (E.ad (o + 8))] [] (m10_copy E l (o1 + 8) (o + 8) 17 (kR10_11 hk1) (kR10_11 hk) (by decide) g12) LX10_67 rfl (rm_ok (by decide) (by decide)) (Nat.le_of_ble_eq_true rfl) ⟨Nat.le_refl _, Nat.le_refl _⟩ rfl dX10_become_125 h (fun g13 H locs hG h => ?_)
  refine lv_aload_n hx hb dX10_become_128 rfl (lv_at hl 1 rfl) ?_
  refine r_getR (d := 9) C hG FX10_43 hk1 rfl (by decide) dX10_become_129 ?_
  refine lv_aload_n hx hb dX10_become_132 rfl (lv_at hl 0 rfl) ?_
  refine r_getR (d := 9) C hG FX10_43 hk rfl (by decide) dX10_become_133 ?_
  refine r_callSV C hl.1 hG [.ref (E.ad (o1 + 9)), .ref (E.ad (o + 9))] [] (m10_copy E l (o1 + 9) (o + 9) 800 (kR10_13 hk1) (kR10_13 hk) (by decide) g13) LX10_67 rfl (rm_ok (by decide) (by decide)) (Nat.le_of_ble_eq_true rfl) ⟨Nat.le_refl _, Nat.le_refl _⟩ rfl dX10_become_136 h (fun g14 H locs hG h => ?_)
  refine lv_aload_n hx hb dX10_become_139 rfl (lv_at hl 1 rfl) ?_
  refine r_getR (d := 10) C hG FX10_46 hk1 rfl (by decide) dX10_become_140 ?_
  refine lv_aload_n hx hb dX10_become_143 rfl (lv_at hl 0 rfl) ?_
  refine r_getR (d := 10) C hG FX10_46 hk rfl (by decide) dX10_become_144 ?_
  refine r_callSV C hl.1 hG [.ref (E.ad (o1 + 10)), .ref (E.ad (o + 10))] [] (m10_copy E l (o1 + 10) (o + 10) 800 (kR10_14 hk1) (kR10_14 hk) (by decide) g14) LX10_67 rfl (rm_ok (by decide) (by decide)) (Nat.le_of_ble_eq_true rfl) ⟨Nat.le_refl _, Nat.le_refl _⟩ rfl dX10_become_147 h (fun g15 H locs hG h => ?_)
  refine lv_aload_n hx hb dX10_become_150 rfl (lv_at hl 1 rfl) ?_
  refine r_getR (d := 11) C hG FX10_49 hk1 rfl (by decide) dX10_become_151 ?_
  refine lv_aload_n hx hb dX10_become_154 rfl (lv_at hl 0 rfl) ?_
  refine r_getR (d := 11) C hG FX10_49 hk rfl (by decide) dX10_become_155 ?_
  refine r_callSV C hl.1 hG [.ref (E.ad (o1 + 11)), .ref (E.ad (o + 11))] [] (m10_copy E l (o1 + 11) (o + 11) 800 (kR10_15 hk1) (kR10_15 hk) (by decide) g15) LX10_67 rfl (rm_ok (by decide) (by decide)) (Nat.le_of_ble_eq_true rfl) ⟨Nat.le_refl _, Nat.le_refl _⟩ rfl dX10_become_158 h (fun g16 H locs hG h => ?_)
  exact r_vret C hG hr dX10_become_161 h
