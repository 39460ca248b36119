def k4_begin_41 (o : Nat) (o1 : Nat) : Nat → Int32 → G → Option (G)
  | 0, _, _ => none
  | f + 1, v2, g =>
        if (g o 7) ≤ v2 then
          some g
        else
          ld g (o1 + 1) 10 v2 fun x2 =>
          sto g (o + 1) 10 v2 x2 fun g3 =>
          sto g3 (o + 2) 10 v2 100 fun g4 =>
          ld g4 (o1 + 2) 10 v2 fun x5 =>
          sto g4 (o + 3) 10 v2 x5 fun g6 =>
          sto g6 (o + 4) 10 v2 v2 fun g7 =>
          bd (v2 + 1) fun x8 =>
          k4_begin_41 o o1 f x8 g7
def k4_begin (o : Nat) (o1 : Nat) (g : G) : Option (G) :=
  bd (if 10 < (g o1 4) then 10 else (g o1 4)) fun x9 =>
  bd (up g o 7 x9) fun g10 =>
  bd (up g10 o 8 (g10 o1 6)) fun g11 =>
  bd (up g11 o 9 (g11 o1 7)) fun g12 =>
  bd (up g12 o 10 (-1)) fun g13 =>
  bd (up g13 o 13 0) fun g14 =>
  k4_begin_41 o o1 FU 0 g14
set_option maxRecDepth 100000 in
set_option maxHeartbeats 4000000 in
theorem m4_begin (E : EV) (l : Launch) (o : Nat) (o1 : Nat) (hk : kd o = 4) (hk1 : kd o1 = 2) (g : G) : ∀ u, k4_begin o o1 g = some u → MV E l yX4_begin cX4_begin 3 none 1 0 0 [.ref (E.ad o), .ref (E.ad o1)] g u := by
  intro u h
  refine MG.of (by decide +kernel) (Nat.le_of_ble_eq_true rfl) ?_
  intro p e s m args below meth c C hr hnm ls hl hG
  have C : Cx p s m args meth c cX4_begin 3 RX4 E := C
  have hx := C.1
  have hb := C.2.1
  have hl : lv_has ls 3 [(0, .ref (E.ad o)), (1, .ref (E.ad o1))] := hl
  unfold k4_begin at h
  have j41 : ∀ f : Nat, ∀ (v2 : Int32) (g : G) (H : Heap) (locs : List Loc) (ls : Array Slot), Gd E s H locs g [] → lv_has ls 3 [(0, .ref (E.ad o)), (1, .ref (E.ad o1)), (2, .int v2)] → k4_begin_41 o o1 f v2 g = some u → W p l e (rmD 1 0 0) s m args below meth c H locs 0 0 (MQ below (QV E s.heap.size u) args s 0 0 (AA E s.heap.size)) (F0 m 41 ls []) := by
    intro f
    induction f with
    | zero =>
      intro v2 g H locs ls hG hl h
      unfold k4_begin_41 at h
      cases h
    | succ f ih =>
      intro v2 g H locs ls hG hl h
      unfold k4_begin_41 at h
      refine lv_iload_n hx hb dX4_begin_41 rfl (lv_at hl 2 rfl) ?_
      refine lv_aload_n hx hb dX4_begin_42 rfl (lv_at hl 0 rfl) ?_
      refine r_getI C hG FX4_54 hk rfl dX4_begin_43 ?_
      refine lv_icmp_ge (tgt := 94) hx hb dX4_begin_46 (by decide) (fun c1 => ?_) (fun c1 => ?_)
      · have h := (if_inv h).1 c1
        exact r_vret C hG hr dX4_begin_94 h
      · have h := (if_inv h).2 c1
        refine lv_aload_n hx hb dX4_begin_49 rfl (lv_at hl 0 rfl) ?_
        refine r_getR (d := 1) C hG FX4_9 hk rfl (by decide) dX4_begin_50 ?_
        refine lv_iload_n hx hb dX4_begin_53 rfl (lv_at hl 2 rfl) ?_
        refine lv_aload_n hx hb dX4_begin_54 rfl (lv_at hl 1 rfl) ?_
        refine r_getR (d := 1) C hG FX4_63 hk1 rfl (by decide) dX4_begin_55 ?_
        refine lv_iload_n hx hb dX4_begin_58 rfl (lv_at hl 2 rfl) ?_
        refine r_ild C hG (N := 10) (kR2_0 hk1) (by decide) dX4_begin_59 h (fun x2 h => ?_)
        refine r_ist C hG (N := 10) (kR4_0 hk) (by decide) dX4_begin_60 h (fun H locs g3 hG h => ?_)
        refine lv_aload_n hx hb dX4_begin_61 rfl (lv_at hl 0 rfl) ?_
        refine r_getR (d := 2) C hG FX4_15 hk rfl (by decide) dX4_begin_62 ?_
        refine lv_iload_n hx hb dX4_begin_65 rfl (lv_at hl 2 rfl) ?_
        refine lv_bipush (v := 100) hx hb dX4_begin_66 (by decide) ?_
        refine r_ist C hG (N := 10) (kR4_1 hk) (by decide) dX4_begin_68 h (fun H locs g4 hG h => ?_)
        refine lv_aload_n hx hb dX4_begin_69 rfl (lv_at hl 0 rfl) ?_
        refine r_getR (d := 3) C hG FX4_18 hk rfl (by decide) dX4_begin_70 ?_
        refine lv_iload_n hx hb dX4_begin_73 rfl (lv_at hl 2 rfl) ?_
        refine lv_aload_n hx hb dX4_begin_74 rfl (lv_at hl 1 rfl) ?_
        refine r_getR (d := 2) C hG FX4_64 hk1 rfl (by decide) dX4_begin_75 ?_
        refine lv_iload_n hx hb dX4_begin_78 rfl (lv_at hl 2 rfl) ?_
        refine r_ild C hG (N := 10) (kR2_1 hk1) (by decide) dX4_begin_79 h (fun x5 h => ?_)
        refine r_ist C hG (N := 10) (kR4_2 hk) (by decide) dX4_begin_80 h (fun H locs g6 hG h => ?_)
        refine lv_aload_n hx hb dX4_begin_81 rfl (lv_at hl 0 rfl) ?_
        refine r_getR (d := 4) C hG FX4_21 hk rfl (by decide) dX4_begin_82 ?_
        refine lv_iload_n hx hb dX4_begin_85 rfl (lv_at hl 2 rfl) ?_
        refine lv_iload_n hx hb dX4_begin_86 rfl (lv_at hl 2 rfl) ?_
        refine r_ist C hG (N := 10) (kR4_3 hk) (by decide) dX4_begin_87 h (fun H locs g7 hG h => ?_)
        refine r_iinc (w := 1) (lv' := fun x8 => [(2, .int x8), (0, .ref (E.ad o)), (1, .ref (E.ad o1))]) C dX4_begin_88 hl (k := 2) rfl (by decide) (by decide) (fun _ => rfl) h (fun x8 ls hl h => ?_)
        refine lv_goto (tgt := 41) hx hb dX4_begin_91 (by decide) ?_
        exact ih x8 g7 _ _ _ hG (lv_sub hl [1, 2, 0] rfl) h
  refine lv_aload_n hx hb dX4_begin_0 rfl (lv_at hl 0 rfl) ?_
  refine lv_aload_n hx hb dX4_begin_1 rfl (lv_at hl 1 rfl) ?_
  refine r_getI C hG FX4_43 hk1 rfl dX4_begin_2 ?_
  refine lv_bipush (v := 10) hx hb dX4_begin_5 (by decide) ?_
  refine r_min C hl.1 LX4_48 ⟨(Nat.le_of_ble_eq_true rfl), (Nat.le_of_ble_eq_true rfl), Nat.zero_le _, Nat.zero_le _⟩ dX4_begin_7 ?_
  refine r_nm h (fun x9 h => ?_)
  refine r_putI C hG FX4_54 hk rfl dX4_begin_10 h (fun H locs g10 hG h => ?_)
  refine lv_aload_n hx hb dX4_begin_13 rfl (lv_at hl 0 rfl) ?_
  refine lv_aload_n hx hb dX4_begin_14 rfl (lv_at hl 1 rfl) ?_
  refine r_getI C hG FX4_57 hk1 rfl dX4_begin_15 ?_
  refine r_putI C hG FX4_33 hk rfl dX4_begin_18 h (fun H locs g11 hG h => ?_)
  refine lv_aload_n hx hb dX4_begin_21 rfl (lv_at hl 0 rfl) ?_
  refine lv_aload_n hx hb dX4_begin_22 rfl (lv_at hl 1 rfl) ?_
  refine r_getI C hG FX4_58 hk1 rfl dX4_begin_23 ?_
  refine r_putI C hG FX4_37 hk rfl dX4_begin_26 h (fun H locs g12 hG h => ?_)
  refine lv_aload_n hx hb dX4_begin_29 rfl (lv_at hl 0 rfl) ?_
  refine lv_iconst (v := (-1)) hx hb dX4_begin_30 (by decide) ?_
  refine r_putI C hG FX4_40 hk rfl dX4_begin_31 h (fun H locs g13 hG h => ?_)
  refine lv_aload_n hx hb dX4_begin_34 rfl (lv_at hl 0 rfl) ?_
  refine lv_iconst (v := 0) hx hb dX4_begin_35 (by decide) ?_
  refine r_putZ C hG FX4_59 hk rfl (by decide) dX4_begin_36 h (fun H locs g14 hG h => ?_)
  refine lv_iconst (v := 0) hx hb dX4_begin_39 (by decide) ?_
  refine lv_istore_n (lv' := [(2, .int 0), (0, .ref (E.ad o)), (1, .ref (E.ad o1))]) hx hb dX4_begin_40 rfl hl (by decide) rfl (fun ls hl => ?_)
  exact j41 FU 0 g14 _ _ _ hG (lv_sub hl [1, 2, 0] rfl) h
def k4_copy (o : Nat) (o1 : Nat) (g : G) : Option (G) :=
  bd (cpy g (o1 + 1) (o + 1) 10) fun g1 =>
  bd (cpy g1 (o1 + 2) (o + 2) 10) fun g2 =>
  bd (cpy g2 (o1 + 3) (o + 3) 10) fun g3 =>
  bd (cpy g3 (o1 + 4) (o + 4) 10) fun g4 =>
  bd (up g4 o 7 (g4 o1 7)) fun g5 =>
  bd (up g5 o 8 (g5 o1 8)) fun g6 =>
  bd (up g6 o 9 (g6 o1 9)) fun g7 =>
  bd (up g7 o 10 (g7 o1 10)) fun g8 =>
  bd (up g8 o 13 0) fun g9 =>
  some g9
set_option maxRecDepth 100000 in
set_option maxHeartbeats 4000000 in
theorem m4_copy (E : EV) (l : Launch) (o : Nat) (o1 : Nat) (hk : kd o = 4) (hk1 : kd o1 = 4) (g : G) : ∀ u, k4_copy o o1 g = some u → MV E l yX4_copy cX4_copy 2 none 1 0 0 [.ref (E.ad o), .ref (E.ad o1)] g u := by
  intro u h
  refine MG.of (by decide +kernel) (Nat.le_of_ble_eq_true rfl) ?_
  intro p e s m args below meth c C hr hnm ls hl hG
  have C : Cx p s m args meth c cX4_copy 2 RX4 E := C
  have hx := C.1
  have hb := C.2.1
  have hl : lv_has ls 2 [(0, .ref (E.ad o)), (1, .ref (E.ad o1))] := hl
  unfold k4_copy at h
  refine lv_aload_n hx hb dX4_copy_0 rfl (lv_at hl 1 rfl) ?_
  refine r_getR (d := 1) C hG FX4_9 hk1 rfl (by decide) dX4_copy_1 ?_
  refine lv_iconst (v := 0) hx hb dX4_copy_4 (by decide) ?_
  refine lv_aload_n hx hb dX4_copy_5 rfl (lv_at hl 0 rfl) ?_
  refine r_getR (d := 1) C hG FX4_9 hk rfl (by decide) dX4_copy_6 ?_
  refine lv_iconst (v := 0) hx hb dX4_copy_9 (by decide) ?_
  refine lv_bipush (v := 10) hx hb dX4_copy_10 (by decide) ?_
  refine r_cpy C hl.1 hG (N := 10) LX4_65 (kR4_0 hk1) (kR4_0 hk) (by decide) rfl ⟨(Nat.le_of_ble_eq_true rfl), (by decide +kernel)⟩ dX4_copy_12 h (fun H locs g1 hG h => ?_)
  refine lv_aload_n hx hb dX4_copy_15 rfl (lv_at hl 1 rfl) ?_
  refine r_getR (d := 2) C hG FX4_15 hk1 rfl (by decide) dX4_copy_16 ?_
  refine lv_iconst (v := 0) hx hb dX4_copy_19 (by decide) ?_
  refine lv_aload_n hx hb dX4_copy_20 rfl (lv_at hl 0 rfl) ?_
  refine r_getR (d := 2) C hG FX4_15 hk rfl (by decide) dX4_copy_21 ?_
  refine lv_iconst (v := 0) hx hb dX4_copy_24 (by decide) ?_
  refine lv_bipush (v := 10) hx hb dX4_copy_25 (by decide) ?_
  refine r_cpy C hl.1 hG (N := 10) LX4_65 (kR4_1 hk1) (kR4_1 hk) (by decide) rfl ⟨(Nat.le_of_ble_eq_true rfl), (by decide +kernel)⟩ dX4_copy_27 h (fun H locs g2 hG h => ?_)
  refine lv_aload_n hx hb dX4_copy_30 rfl (lv_at hl 1 rfl) ?_
  refine r_getR (d := 3) C hG FX4_18 hk1 rfl (by decide) dX4_copy_31 ?_
  refine lv_iconst (v := 0) hx hb dX4_copy_34 (by decide) ?_
  refine lv_aload_n hx hb dX4_copy_35 rfl (lv_at hl 0 rfl) ?_
  refine r_getR (d := 3) C hG FX4_18 hk rfl (by decide) dX4_copy_36 ?_
  refine lv_iconst (v := 0) hx hb dX4_copy_39 (by decide) ?_
  refine lv_bipush (v := 10) hx hb dX4_copy_40 (by decide) ?_
  refine r_cpy C hl.1 hG (N := 10) LX4_65 (kR4_2 hk1) (kR4_2 hk) (by decide) rfl ⟨(Nat.le_of_ble_eq_true rfl), (by decide +kernel)⟩ dX4_copy_42 h (fun H locs g3 hG h => ?_)
  refine lv_aload_n hx hb dX4_copy_45 rfl (lv_at hl 1 rfl) ?_
  refine r_getR (d := 4) C hG FX4_21 hk1 rfl (by decide) dX4_copy_46 ?_
  refine lv_iconst (v := 0) hx hb dX4_copy_49 (by decide) ?_
  refine lv_aload_n hx hb dX4_copy_50 rfl (lv_at hl 0 rfl) ?_
  refine r_getR (d := 4) C hG FX4_21 hk rfl (by decide) dX4_copy_51 ?_
  refine lv_iconst (v := 0) hx hb dX4_copy_54 (by decide) ?_
  refine lv_bipush (v := 10) hx hb dX4_copy_55 (by decide) ?_
  refine r_cpy C hl.1 hG (N := 10) LX4_65 (kR4_3 hk1) (kR4_3 hk) (by decide) rfl ⟨(Nat.le_of_ble_eq_true rfl), (by decide +kernel)⟩ dX4_copy_57 h (fun H locs g4 hG h => ?_)
  refine lv_aload_n hx hb dX4_copy_60 rfl (lv_at hl 0 rfl) ?_
  refine lv_aload_n hx hb dX4_copy_61 rfl (lv_at hl 1 rfl) ?_
  refine r_getI C hG FX4_54 hk1 rfl dX4_copy_62 ?_
  refine r_putI C hG FX4_54 hk rfl dX4_copy_65 h (fun H locs g5 hG h => ?_)
  refine lv_aload_n hx hb dX4_copy_68 rfl (lv_at hl 0 rfl) ?_
  refine lv_aload_n hx hb dX4_copy_69 rfl (lv_at hl 1 rfl) ?_
  refine r_getI C hG FX4_33 hk1 rfl dX4_copy_70 ?_
  refine r_putI C hG FX4_33 hk rfl dX4_copy_73 h (fun H locs g6 hG h => ?_)
  refine lv_aload_n hx hb dX4_copy_76 rfl (lv_at hl 0 rfl) ?_
  refine lv_aload_n hx hb dX4_copy_77 rfl (lv_at hl 1 rfl) ?_
  refine r_getI C hG FX4_37 hk1 rfl dX4_copy_78 ?_
  refine r_putI C hG FX4_37 hk rfl dX4_copy_81 h (fun H locs g7 hG h => ?_)
  refine lv_aload_n hx hb dX4_copy_84 rfl (lv_at hl 0 rfl) ?_
  refine lv_aload_n hx hb dX4_copy_85 rfl (lv_at hl 1 rfl) ?_
  refine r_getI C hG FX4_40 hk1 rfl dX4_copy_86 ?_
  refine r_putI C hG FX4_40 hk rfl dX4_copy_89 h (fun H locs g8 hG h => ?_)
  refine lv_aload_n hx hb dX4_copy_92 rfl (lv_at hl 0 rfl) ?_
  refine lv_iconst (v := 0) hx hb dX4_copy_93 (by decide) ?_
  refine r_putZ C hG FX4_59 hk rfl (by decide) dX4_copy_94 h (fun H locs g9 hG h => ?_)
  exact r_vret C hG hr dX4_copy_97 h
def k4_has (o : Nat) (a1 : Int32) (g : G) : Option (Int32) :=
  if a1 < 0 then
    some 0
  else
    if (g o 7) ≤ a1 then
      some 0
    else
      some 1
set_option maxRecDepth 100000 in
set_option maxHeartbeats 4000000 in
theorem m4_has (E : EV) (l : Launch) (o : Nat) (hk : kd o = 4) (a1 : Int32) (g : G) : ∀ u, k4_has o a1 g = some u → MI E l yX4_has cX4_has 2 (some .boolean) 0 0 0 [.ref (E.ad o), .int a1] g (u, g) := by
  intro u h
  refine MG.of (by decide +kernel) (Nat.le_of_ble_eq_true rfl) ?_
  intro p e s m args below meth c C hr hnm ls hl hG
  have C : Cx p s m args meth c cX4_has 2 RX4 E := C
  have hx := C.1
  have hb := C.2.1
  have hl : lv_has ls 2 [(0, .ref (E.ad o)), (1, .int a1)] := hl
  unfold k4_has at h
  refine lv_iload_n hx hb dX4_has_0 rfl (lv_at hl 1 rfl) ?_
  refine lv_if_lt (tgt := 16) hx hb dX4_has_1 (by decide) (fun c1 => ?_) (fun c1 => ?_)
  · have h := (if_inv h).1 c1
    refine lv_iconst (v := 0) hx hb dX4_has_16 (by decide) ?_
    exact r_iretP C hG hr rfl dX4_has_17 h
  · have h := (if_inv h).2 c1
    refine lv_iload_n hx hb dX4_has_4 rfl (lv_at hl 1 rfl) ?_
    refine lv_aload_n hx hb dX4_has_5 rfl (lv_at hl 0 rfl) ?_
    refine r_getI C hG FX4_54 hk rfl dX4_has_6 ?_
    refine lv_icmp_ge (tgt := 16) hx hb dX4_has_9 (by decide) (fun c2 => ?_) (fun c2 => ?_)
    · have h := (if_inv h).1 c2
      refine lv_iconst (v := 0) hx hb dX4_has_16 (by decide) ?_
      exact r_iretP C hG hr rfl dX4_has_17 h
    · have h := (if_inv h).2 c2
      refine lv_iconst (v := 1) hx hb dX4_has_12 (by decide) ?_
      refine lv_goto (tgt := 17) hx hb dX4_has_13 (by decide) ?_
      exact r_iretP C hG hr rfl dX4_has_17 h
def k4_mirrorIn (o : Nat) (a1 : Int32) (g : G) : Option (Int32) :=
  if a1 < 0 then
    some (-1)
  else
    if (g o 7) ≤ a1 then
      some (-1)
    else
      ld g (o + 4) 10 a1 fun x3 =>
      some x3
set_option maxRecDepth 100000 in
set_option maxHeartbeats 4000000 in
theorem m4_mirrorIn (E : EV) (l : Launch) (o : Nat) (hk : kd o = 4) (a1 : Int32) (g : G) : ∀ u, k4_mirrorIn o a1 g = some u → MI E l yX4_mirrorIn cX4_mirrorIn 2 (some .int) 0 0 0 [.ref (E.ad o), .int a1] g (u, g) := by
  intro u h
  refine MG.of (by decide +kernel) (Nat.le_of_ble_eq_true rfl) ?_
  intro p e s m args below meth c C hr hnm ls hl hG
  have C : Cx p s m args meth c cX4_mirrorIn 2 RX4 E := C
  have hx := C.1
  have hb := C.2.1
  have hl : lv_has ls 2 [(0, .ref (E.ad o)), (1, .int a1)] := hl
  unfold k4_mirrorIn at h
  refine lv_iload_n hx hb dX4_mirrorIn_0 rfl (lv_at hl 1 rfl) ?_
  refine lv_if_lt (tgt := 21) hx hb dX4_mirrorIn_1 (by decide) (fun c1 => ?_) (fun c1 => ?_)
  · have h := (if_inv h).1 c1
    refine lv_iconst (v := (-1)) hx hb dX4_mirrorIn_21 (by decide) ?_
    exact r_iretP C hG hr rfl dX4_mirrorIn_22 h
  · have h := (if_inv h).2 c1
    refine lv_iload_n hx hb dX4_mirrorIn_4 rfl (lv_at hl 1 rfl) ?_
    refine lv_aload_n hx hb dX4_mirrorIn_5 rfl (lv_at hl 0 rfl) ?_
    refine r_getI C hG FX4_54 hk rfl dX4_mirrorIn_6 ?_
    refine lv_icmp_ge (tgt := 21) hx hb dX4_mirrorIn_9 (by decide) (fun c2 => ?_) (fun c2 => ?_)
    · have h := (if_inv h).1 c2
      refine lv_iconst (v := (-1)) hx hb dX4_mirrorIn_21 (by decide) ?_
      exact r_iretP C hG hr rfl dX4_mirrorIn_22 h
    · have h := (if_inv h).2 c2
      refine lv_aload_n hx hb dX4_mirrorIn_12 rfl (lv_at hl 0 rfl) ?_
      refine r_getR (d := 4) C hG FX4_21 hk rfl (by decide) dX4_mirrorIn_13 ?_
      refine lv_iload_n hx hb dX4_mirrorIn_16 rfl (lv_at hl 1 rfl) ?_
      refine r_ild C hG (N := 10) (kR4_3 hk) (by decide) dX4_mirrorIn_17 h (fun x3 h => ?_)
      refine lv_goto (tgt := 22) hx hb dX4_mirrorIn_18 (by decide) ?_
      exact r_iretP C hG hr rfl dX4_mirrorIn_22 h
def k4_findPlace_2 (o : Nat) (g : G) : Nat → Int32 → Int32 → Option (Int32)
  | 0, _, _ => none
  | f + 1, v1, v2 =>
        if (g o 7) ≤ v2 then
          some (-1)
        else
          ld g (o + 4) 10 v2 fun x2 =>
          if x2 = v1 then
            some v2
          else
            bd (v2 + 1) fun x4 =>
            k4_findPlace_2 o g f v1 x4
def k4_findPlace (o : Nat) (a1 : Int32) (g : G) : Option (Int32) :=
  k4_findPlace_2 o g FU a1 0
set_option maxRecDepth 100000 in
set_option maxHeartbeats 4000000 in
theorem m4_findPlace (E : EV) (l : Launch) (o : Nat) (hk : kd o = 4) (a1 : Int32) (g : G) : ∀ u, k4_findPlace o a1 g = some u → MI E l yX4_findPlace cX4_findPlace 3 (some .int) 0 0 0 [.ref (E.ad o), .int a1] g (u, g) := by
  intro u h
  refine MG.of (by decide +kernel) (Nat.le_of_ble_eq_true rfl) ?_
  intro p e s m args below meth c C hr hnm ls hl hG
  have C : Cx p s m args meth c cX4_findPlace 3 RX4 E := C
  have hx := C.1
  have hb := C.2.1
  have hl : lv_has ls 3 [(0, .ref (E.ad o)), (1, .int a1)] := hl
  unfold k4_findPlace at h
  have j2 : ∀ f : Nat, ∀ (v1 : Int32) (v2 : Int32) (H : Heap) (locs : List Loc) (ls : Array Slot), Gd E s H locs g [] → lv_has ls 3 [(0, .ref (E.ad o)), (1, .int v1), (2, .int v2)] → k4_findPlace_2 o g f v1 v2 = some u → W p l e (rmD 0 0 0) s m args below meth c H locs 0 0 (MQ below (QI E s.heap.size u g) args s 0 0 (AA E s.heap.size)) (F0 m 2 ls []) := by
    intro f
    induction f with
    | zero =>
      intro v1 v2 H locs ls hG hl h
      unfold k4_findPlace_2 at h
      cases h
    | succ f ih =>
      intro v1 v2 H locs ls hG hl h
      unfold k4_findPlace_2 at h
      refine lv_iload_n hx hb dX4_findPlace_2 rfl (lv_at hl 2 rfl) ?_
      refine lv_aload_n hx hb dX4_findPlace_3 rfl (lv_at hl 0 rfl) ?_
      refine r_getI C hG FX4_54 hk rfl dX4_findPlace_4 ?_
      refine lv_icmp_ge (tgt := 28) hx hb dX4_findPlace_7 (by decide) (fun c1 => ?_) (fun c1 => ?_)
      · have h := (if_inv h).1 c1
        refine lv_iconst (v := (-1)) hx hb dX4_findPlace_28 (by decide) ?_
        exact r_iretP C hG hr rfl dX4_findPlace_29 h
      · have h := (if_inv h).2 c1
        refine lv_aload_n hx hb dX4_findPlace_10 rfl (lv_at hl 0 rfl) ?_
        refine r_getR (d := 4) C hG FX4_21 hk rfl (by decide) dX4_findPlace_11 ?_
        refine lv_iload_n hx hb dX4_findPlace_14 rfl (lv_at hl 2 rfl) ?_
        refine r_ild C hG (N := 10) (kR4_3 hk) (by decide) dX4_findPlace_15 h (fun x2 h => ?_)
        refine lv_iload_n hx hb dX4_findPlace_16 rfl (lv_at hl 1 rfl) ?_
        refine lv_icmp_ne (tgt := 22) hx hb dX4_findPlace_17 (by decide) (fun c3 => ?_) (fun c3 => ?_)
        · have h := (if_inv h).2 c3
          refine r_iinc (w := 1) (lv' := fun x4 => [(2, .int x4), (0, .ref (E.ad o)), (1, .int v1)]) C dX4_findPlace_22 hl (k := 2) rfl (by decide) (by decide) (fun _ => rfl) h (fun x4 ls hl h => ?_)
          refine lv_goto (tgt := 2) hx hb dX4_findPlace_25 (by decide) ?_
          exact ih v1 x4 _ _ _ hG (lv_sub hl [1, 2, 0] rfl) h
        · have h := (if_inv h).1 c3
          refine lv_iload_n hx hb dX4_findPlace_20 rfl (lv_at hl 2 rfl) ?_
          exact r_iretP C hG hr rfl dX4_findPlace_21 h
  refine lv_iconst (v := 0) hx hb dX4_findPlace_0 (by decide) ?_
  refine lv_istore_n (lv' := [(2, .int 0), (0, .ref (E.ad o)), (1, .int a1)]) hx hb dX4_findPlace_1 rfl hl (by decide) rfl (fun ls hl => ?_)
  exact j2 FU a1 0 _ _ _ hG (lv_sub hl [1, 2, 0] rfl) h
def k4_isWithinWidth (o : Nat) (a1 : Int32) (g : G) : Option (Int32) :=
  if (g o 8) < a1 then
    some 0
  else
    if a1 < (-(g o 8)) then
      some 0
    else
      some 1
set_option maxRecDepth 100000 in
set_option maxHeartbeats 4000000 in
theorem m4_isWithinWidth (E : EV) (l : Launch) (o : Nat) (hk : kd o = 4) (a1 : Int32) (g : G) : ∀ u, k4_isWithinWidth o a1 g = some u → MI E l yX4_isWithinWidth cX4_isWithinWidth 2 (some .boolean) 0 0 0 [.ref (E.ad o), .int a1] g (u, g) := by
  intro u h
  refine MG.of (by decide +kernel) (Nat.le_of_ble_eq_true rfl) ?_
  intro p e s m args below meth c C hr hnm ls hl hG
  have C : Cx p s m args meth c cX4_isWithinWidth 2 RX4 E := C
  have hx := C.1
  have hb := C.2.1
  have hl : lv_has ls 2 [(0, .ref (E.ad o)), (1, .int a1)] := hl
  unfold k4_isWithinWidth at h
  refine lv_iload_n hx hb dX4_isWithinWidth_0 rfl (lv_at hl 1 rfl) ?_
  refine lv_aload_n hx hb dX4_isWithinWidth_1 rfl (lv_at hl 0 rfl) ?_
  refine r_getI C hG FX4_33 hk rfl dX4_isWithinWidth_2 ?_
  refine lv_icmp_gt (tgt := 21) hx hb dX4_isWithinWidth_5 (by decide) (fun c1 => ?_) (fun c1 => ?_)
  · have h := (if_inv h).1 c1
    refine lv_iconst (v := 0) hx hb dX4_isWithinWidth_21 (by decide) ?_
    exact r_iretP C hG hr rfl dX4_isWithinWidth_22 h
  · have h := (if_inv h).2 c1
    refine lv_iload_n hx hb dX4_isWithinWidth_8 rfl (lv_at hl 1 rfl) ?_
    refine lv_aload_n hx hb dX4_isWithinWidth_9 rfl (lv_at hl 0 rfl) ?_
    refine r_getI C hG FX4_33 hk rfl dX4_isWithinWidth_10 ?_
    refine lv_ineg hx hb dX4_isWithinWidth_13 ?_
    refine lv_icmp_lt (tgt := 21) hx hb dX4_isWithinWidth_14 (by decide) (fun c2 => ?_) (fun c2 => ?_)
    · have h := (if_inv h).1 c2
      refine lv_iconst (v := 0) hx hb dX4_isWithinWidth_21 (by decide) ?_
      exact r_iretP C hG hr rfl dX4_isWithinWidth_22 h
    · have h := (if_inv h).2 c2
      refine lv_iconst (v := 1) hx hb dX4_isWithinWidth_17 (by decide) ?_
      refine lv_goto (tgt := 22) hx hb dX4_isWithinWidth_18 (by decide) ?_
      exact r_iretP C hG hr rfl dX4_isWithinWidth_22 h
def k4_shine_91 (o : Nat) (K16 : Int32 → Int32 → Int32 → G → Option (G)) (v1 : Int32) (v2 : Int32) (v3 : Int32) (v4 : Int32) (t0 : Int32) (t1 : Int32) (g : G) : Option (G) :=
      sto g (o + 5) 10 t1 t0 fun g1 =>
      ld g1 (o + 5) 10 v4 fun x2 =>
      sto g1 (o + 6) 10 v4 (v1 - x2) fun g3 =>
      ld g3 (o + 3) 10 v4 fun x4 =>
      sto g3 (o + 7) 10 v4 (v2 + (2 * x4)) fun g5 =>
      ld g5 (o + 5) 10 v4 fun x6 =>
      ld g5 (o + 7) 10 v4 fun x7 =>
      bd (v3 + 1) fun x8 =>
      K16 x6 x7 x8 g5
def k4_shine_62 (o : Nat) (K16 : Int32 → Int32 → Int32 → G → Option (G)) (v1 : Int32) (v2 : Int32) (v3 : Int32) (v4 : Int32) (t0 : Int32) (g : G) : Option (G) :=
      if t0 = 0 then
        ld g (o + 1) 10 v4 fun x10 =>
        dv (v1 * x10) 100 fun x11 =>
        k4_shine_91 o K16 v1 v2 v3 v4 x11 v4 g
      else
        k4_shine_91 o K16 v1 v2 v3 v4 0 v4 g
def k4_shine_16 (o : Nat) : Nat → Int32 → Int32 → Int32 → G → Option (G)
  | 0, _, _, _, _ => none
  | f + 1, v1, v2, v3, g =>
        if (g o 7) ≤ v3 then
          bd (up g o 11 v1) fun g13 =>
          bd (up g13 o 12 v2) fun g14 =>
          bd (up g14 o 13 1) fun g15 =>
          some g15
        else
          (k4_mirrorIn o v3 g).bind fun u16 =>
          (k4_has o u16 g).bind fun u17 =>
          if u17 = 0 then
            bd (v3 + 1) fun x19 =>
            k4_shine_16 o f v1 v2 x19 g
          else
            if u16 = (g o 10) then
              k4_shine_62 o (k4_shine_16 o f) v1 v2 v3 u16 1 g
            else
              (k4_isWithinWidth o v2 g).bind fun u21 =>
              if u21 = 0 then
                k4_shine_62 o (k4_shine_16 o f) v1 v2 v3 u16 1 g
              else
                k4_shine_62 o (k4_shine_16 o f) v1 v2 v3 u16 0 g
def k4_shine (o : Nat) (g : G) : Option (G) :=
  if (g o 13) = 0 then
    k4_shine_16 o FU 10000 0 0 g
  else
    some g
set_option maxRecDepth 100000 in
set_option maxHeartbeats 4000000 in
theorem m4_shine (E : EV) (l : Launch) (o : Nat) (hk : kd o = 4) (g : G) : ∀ u, k4_shine o g = some u → MV E l yX4_shine cX4_shine 6 none 1 0 0 [.ref (E.ad o)] g u := by
  intro u h
  refine MG.of (by decide +kernel) (Nat.le_of_ble_eq_true rfl) ?_
  intro p e s m args below meth c C hr hnm ls hl hG
  have C : Cx p s m args meth c cX4_shine 6 RX4 E := C
  have hx := C.1
  have hb := C.2.1
  have hl : lv_has ls 6 [(0, .ref (E.ad o))] := hl
  unfold k4_shine at h
  have j91 : ∀ (K16 : Int32 → Int32 → Int32 → G → Option (G)), (∀ (v1 : Int32) (v2 : Int32) (v3 : Int32) (g : G) (H : Heap) (locs : List Loc) (ls : Array Slot), Gd E s H locs g [] → lv_has ls 6 [(0, .ref (E.ad o)), (1, .int v1), (2, .int v2), (3, .int v3)] → K16 v1 v2 v3 g = some u → W p l e (rmD 1 0 0) s m args below meth c H locs 0 0 (MQ below (QV E s.heap.size u) args s 0 0 (AA E s.heap.size)) (F0 m 16 ls [])) → ∀ (v1 : Int32) (v2 : Int32) (v3 : Int32) (v4 : Int32) (t0 : Int32) (t1 : Int32) (g : G) (H : Heap) (locs : List Loc) (ls : Array Slot), Gd E s H locs g [] → lv_has ls 6 [(0, .ref (E.ad o)), (1, .int v1), (2, .int v2), (3, .int v3), (4, .int v4)] → k4_shine_91 o K16 v1 v2 v3 v4 t0 t1 g = some u → W p l e (rmD 1 0 0) s m args below meth c H locs 0 0 (MQ below (QV E s.heap.size u) args s 0 0 (AA E s.heap.size)) (F0 m 91 ls [.int t0, .int t1, .ref (E.ad (o + 5))]) := by
    intro K16 hK16 v1 v2 v3 v4 t0 t1 g H locs ls hG hl h
    unfold k4_shine_91 at h
    refine r_ist C hG (N := 10) (kR4_4 hk) (by decide) dX4_shine_91 h (fun H locs g1 hG h => ?_)
    refine lv_aload_n hx hb dX4_shine_92 rfl (lv_at hl 0 rfl) ?_
    refine r_getR (d := 6) C hG FX4_27 hk rfl (by decide) dX4_shine_93 ?_
    refine lv_iload hx hb dX4_shine_96 (lv_at hl 4 rfl) ?_
    refine lv_iload_n hx hb dX4_shine_98 rfl (lv_at hl 1 rfl) ?_
    refine lv_aload_n hx hb dX4_shine_99 rfl (lv_at hl 0 rfl) ?_
    refine r_getR (d := 5) C hG FX4_24 hk rfl (by decide) dX4_shine_100 ?_
    refine lv_iload hx hb dX4_shine_103 (lv_at hl 4 rfl) ?_
    refine r_ild C hG (N := 10) (kR4_4 hk) (by decide) dX4_shine_105 h (fun x2 h => ?_)
    refine lv_isub hx hb dX4_shine_106 ?_
    refine r_ist C hG (N := 10) (kR4_5 hk) (by decide) dX4_shine_107 h (fun H locs g3 hG h => ?_)
    refine lv_aload_n hx hb dX4_shine_108 rfl (lv_at hl 0 rfl) ?_
    refine r_getR (d := 7) C hG FX4_30 hk rfl (by decide) dX4_shine_109 ?_
    refine lv_iload hx hb dX4_shine_112 (lv_at hl 4 rfl) ?_
    refine lv_iload_n hx hb dX4_shine_114 rfl (lv_at hl 2 rfl) ?_
    refine lv_iconst (v := 2) hx hb dX4_shine_115 (by decide) ?_
    refine lv_aload_n hx hb dX4_shine_116 rfl (lv_at hl 0 rfl) ?_
    refine r_getR (d := 3) C hG FX4_18 hk rfl (by decide) dX4_shine_117 ?_
    refine lv_iload hx hb dX4_shine_120 (lv_at hl 4 rfl) ?_
    refine r_ild C hG (N := 10) (kR4_2 hk) (by decide) dX4_shine_122 h (fun x4 h => ?_)
    refine lv_imul hx hb dX4_shine_123 ?_
    refine lv_iadd hx hb dX4_shine_124 ?_
    refine r_ist C hG (N := 10) (kR4_6 hk) (by decide) dX4_shine_125 h (fun H locs g5 hG h => ?_)
    refine lv_aload_n hx hb dX4_shine_126 rfl (lv_at hl 0 rfl) ?_
    refine r_getR (d := 5) C hG FX4_24 hk rfl (by decide) dX4_shine_127 ?_
    refine lv_iload hx hb dX4_shine_130 (lv_at hl 4 rfl) ?_
    refine r_ild C hG (N := 10) (kR4_4 hk) (by decide) dX4_shine_132 h (fun x6 h => ?_)
    refine lv_istore_n (lv' := [(1, .int x6), (0, .ref (E.ad o)), (2, .int v2), (3, .int v3), (4, .int v4)]) hx hb dX4_shine_133 rfl hl (by decide) rfl (fun ls hl => ?_)
    refine lv_aload_n hx hb dX4_shine_134 rfl (lv_at hl 1 rfl) ?_
    refine r_getR (d := 7) C hG FX4_30 hk rfl (by decide) dX4_shine_135 ?_
    refine lv_iload hx hb dX4_shine_138 (lv_at hl 4 rfl) ?_
    refine r_ild C hG (N := 10) (kR4_6 hk) (by decide) dX4_shine_140 h (fun x7 h => ?_)
    refine lv_istore_n (lv' := [(2, .int x7), (1, .int x6), (0, .ref (E.ad o)), (3, .int v3), (4, .int v4)]) hx hb dX4_shine_141 rfl hl (by decide) rfl (fun ls hl => ?_)
    refine r_iinc (w := 1) (lv' := fun x8 => [(3, .int x8), (2, .int x7), (1, .int x6), (0, .ref (E.ad o)), (4, .int v4)]) C dX4_shine_142 hl (k := 3) rfl (by decide) (by decide) (fun _ => rfl) h (fun x8 ls hl h => ?_)
    refine lv_goto (tgt := 16) hx hb dX4_shine_145 (by decide) ?_
    exact hK16 x6 x7 x8 g5 _ _ _ hG (lv_sub hl [3, 2, 1, 0] rfl) h
  have j62 : ∀ (K16 : Int32 → Int32 → Int32 → G → Option (G)), (∀ (v1 : Int32) (v2 : Int32) (v3 : Int32) (g : G) (H : Heap) (locs : List Loc) (ls : Array Slot), Gd E s H locs g [] → lv_has ls 6 [(0, .ref (E.ad o)), (1, .int v1), (2, .int v2), (3, .int v3)] → K16 v1 v2 v3 g = some u → W p l e (rmD 1 0 0) s m args below meth c H locs 0 0 (MQ below (QV E s.heap.size u) args s 0 0 (AA E s.heap.size)) (F0 m 16 ls [])) → ∀ (v1 : Int32) (v2 : Int32) (v3 : Int32) (v4 : Int32) (t0 : Int32) (g : G) (H : Heap) (locs : List Loc) (ls : Array Slot), Gd E s H locs g [] → lv_has ls 6 [(0, .ref (E.ad o)), (1, .int v1), (2, .int v2), (3, .int v3), (4, .int v4)] → k4_shine_62 o K16 v1 v2 v3 v4 t0 g = some u → W p l e (rmD 1 0 0) s m args below meth c H locs 0 0 (MQ below (QV E s.heap.size u) args s 0 0 (AA E s.heap.size)) (F0 m 62 ls [.int t0]) := by
    intro K16 hK16 v1 v2 v3 v4 t0 g H locs ls hG hl h
    unfold k4_shine_62 at h
    refine lv_istore (lv' := [(5, .int t0), (0, .ref (E.ad o)), (1, .int v1), (2, .int v2), (3, .int v3), (4, .int v4)]) hx hb dX4_shine_62 hl (by decide) rfl (fun ls hl => ?_)
    refine lv_aload_n hx hb dX4_shine_64 rfl (lv_at hl 1 rfl) ?_
    refine r_getR (d := 5) C hG FX4_24 hk rfl (by decide) dX4_shine_65 ?_
    refine lv_iload hx hb dX4_shine_68 (lv_at hl 5 rfl) ?_
    refine lv_iload hx hb dX4_shine_70 (lv_at hl 0 rfl) ?_
    refine lv_if_eq (tgt := 79) hx hb dX4_shine_72 (by decide) (fun c9 => ?_) (fun c9 => ?_)
    · have h := (if_inv h).1 c9
      refine lv_iload_n hx hb dX4_shine_79 rfl (lv_at hl 2 rfl) ?_
      refine lv_aload_n hx hb dX4_shine_80 rfl (lv_at hl 1 rfl) ?_
      refine r_getR (d := 1) C hG FX4_9 hk rfl (by decide) dX4_shine_81 ?_
      refine lv_iload hx hb dX4_shine_84 (lv_at hl 5 rfl) ?_
      refine r_ild C hG (N := 10) (kR4_0 hk) (by decide) dX4_shine_86 h (fun x10 h => ?_)
      refine lv_imul hx hb dX4_shine_87 ?_
      refine lv_bipush (v := 100) hx hb dX4_shine_88 (by decide) ?_
      refine r_div C dX4_shine_90 h (fun x11 h => ?_)
      exact j91 K16 hK16 v1 v2 v3 v4 x11 v4 g _ _ _ hG (lv_sub hl [1, 2, 3, 4, 5] rfl) h
    · have h := (if_inv h).2 c9
      refine lv_iconst (v := 0) hx hb dX4_shine_75 (by decide) ?_
      refine lv_goto (tgt := 91) hx hb dX4_shine_76 (by decide) ?_
      exact j91 K16 hK16 v1 v2 v3 v4 0 v4 g _ _ _ hG (lv_sub hl [1, 2, 3, 4, 5] rfl) h
  have j16 : ∀ f : Nat, ∀ (v1 : Int32) (v2 : Int32) (v3 : Int32) (g : G) (H : Heap) (locs : List Loc) (ls : Array Slot), Gd E s H locs g [] → lv_has ls 6 [(0, .ref (E.ad o)), (1, .int v1), (2, .int v2), (3, .int v3)] → k4_shine_16 o f v1 v2 v3 g = some u → W p l e (rmD 1 0 0) s m args below meth c H locs 0 0 (MQ below (QV E s.heap.size u) args s 0 0 (AA E s.heap.size)) (F0 m 16 ls []) := by
    intro f
    induction f with
    | zero =>
      intro v1 v2 v3 g H locs ls hG hl h
      unfold k4_shine_16 at h
      cases h
    | succ f ih =>
      intro v1 v2 v3 g H locs ls hG hl h
      unfold k4_shine_16 at h
      refine lv_iload_n hx hb dX4_shine_16 rfl (lv_at hl 3 rfl) ?_
      refine lv_aload_n hx hb dX4_shine_17 rfl (lv_at hl 0 rfl) ?_
      refine r_getI C hG FX4_54 hk rfl dX4_shine_18 ?_
      refine lv_icmp_ge (tgt := 148) hx hb dX4_shine_21 (by decide) (fun c12 => ?_) (fun c12 => ?_)
      · have h := (if_inv h).1 c12
        refine lv_aload_n hx hb dX4_shine_148 rfl (lv_at hl 0 rfl) ?_
        refine lv_iload_n hx hb dX4_shine_149 rfl (lv_at hl 1 rfl) ?_
        refine r_putI C hG FX4_78 hk rfl dX4_shine_150 h (fun H locs g13 hG h => ?_)
        refine lv_aload_n hx hb dX4_shine_153 rfl (lv_at hl 0 rfl) ?_
        refine lv_iload_n hx hb dX4_shine_154 rfl (lv_at hl 2 rfl) ?_
        refine r_putI C hG FX4_81 hk rfl dX4_shine_155 h (fun H locs g14 hG h => ?_)
        refine lv_aload_n hx hb dX4_shine_158 rfl (lv_at hl 0 rfl) ?_
        refine lv_iconst (v := 1) hx hb dX4_shine_159 (by decide) ?_
        refine r_putZ C hG FX4_59 hk rfl (by decide) dX4_shine_160 h (fun H locs g15 hG h => ?_)
        exact r_vret C hG hr dX4_shine_163 h
      · have h := (if_inv h).2 c12
        refine lv_aload_n hx hb dX4_shine_24 rfl (lv_at hl 0 rfl) ?_
        refine lv_iload_n hx hb dX4_shine_25 rfl (lv_at hl 3 rfl) ?_
        refine r_callVIP C hl.1 hG [.int v3] [] (m4_mirrorIn E l o hk v3 g) LX4_87 hk KC4 rfl (rm_ok (by decide) (by decide)) (Nat.le_of_ble_eq_true rfl) ⟨Nat.le_refl _, Nat.le_refl _⟩ rfl dX4_shine_26 h (fun u16 H locs hG h => ?_)
        refine lv_istore (lv' := [(4, .int u16), (0, .ref (E.ad o)), (1, .int v1), (2, .int v2), (3, .int v3)]) hx hb dX4_shine_29 hl (by decide) rfl (fun ls hl => ?_)
        refine lv_aload_n hx hb dX4_shine_31 rfl (lv_at hl 1 rfl) ?_
        refine lv_iload hx hb dX4_shine_32 (lv_at hl 0 rfl) ?_
        refine r_callVIP C hl.1 hG [.int u16] [] (m4_has E l o hk u16 g) LX4_71 hk KC4 rfl (rm_ok (by decide) (by decide)) (Nat.le_of_ble_eq_true rfl) ⟨Nat.le_refl _, Nat.le_refl _⟩ rfl dX4_shine_34 h (fun u17 H locs hG h => ?_)
        refine lv_if_eq (tgt := 142) hx hb dX4_shine_37 (by decide) (fun c18 => ?_) (fun c18 => ?_)
        · have h := (if_inv h).1 c18
          refine r_iinc (w := 1) (lv' := fun x19 => [(3, .int x19), (4, .int u16), (0, .ref (E.ad o)), (1, .int v1), (2, .int v2)]) C dX4_shine_142 hl (k := 4) rfl (by decide) (by decide) (fun _ => rfl) h (fun x19 ls hl h => ?_)
          refine lv_goto (tgt := 16) hx hb dX4_shine_145 (by decide) ?_
          exact ih v1 v2 x19 g _ _ _ hG (lv_sub hl [2, 3, 4, 0] rfl) h
        · have h := (if_inv h).2 c18
          refine lv_iload hx hb dX4_shine_40 (lv_at hl 0 rfl) ?_
          refine lv_aload_n hx hb dX4_shine_42 rfl (lv_at hl 1 rfl) ?_
          refine r_getI C hG FX4_40 hk rfl dX4_shine_43 ?_
          refine lv_icmp_eq (tgt := 57) hx hb dX4_shine_46 (by decide) (fun c20 => ?_) (fun c20 => ?_)
          · have h := (if_inv h).1 c20
            refine lv_iconst (v := 1) hx hb dX4_shine_57 (by decide) ?_
            refine lv_goto (tgt := 62) hx hb dX4_shine_58 (by decide) ?_
            exact j62 (k4_shine_16 o f) ih v1 v2 v3 u16 1 g _ _ _ hG (lv_sub hl [1, 2, 3, 4, 0] rfl) h
          · have h := (if_inv h).2 c20
            refine lv_aload_n hx hb dX4_shine_49 rfl (lv_at hl 1 rfl) ?_
            refine lv_iload_n hx hb dX4_shine_50 rfl (lv_at hl 3 rfl) ?_
            refine r_callVIP C hl.1 hG [.int v2] [] (m4_isWithinWidth E l o hk v2 g) LX4_84 hk KC4 rfl (rm_ok (by decide) (by decide)) (Nat.le_of_ble_eq_true rfl) ⟨Nat.le_refl _, Nat.le_refl _⟩ rfl dX4_shine_51 h (fun u21 H locs hG h => ?_)
            refine lv_if_ne (tgt := 61) hx hb dX4_shine_54 (by decide) (fun c22 => ?_) (fun c22 => ?_)
            · have h := (if_inv h).2 c22
              refine lv_iconst (v := 0) hx hb dX4_shine_61 (by decide) ?_
              exact j62 (k4_shine_16 o f) ih v1 v2 v3 u16 0 g _ _ _ hG (lv_sub hl [1, 2, 3, 4, 0] rfl) h
            · have h := (if_inv h).1 c22
              refine lv_iconst (v := 1) hx hb dX4_shine_57 (by decide) ?_
              refine lv_goto (tgt := 62) hx hb dX4_shine_58 (by decide) ?_
              exact j62 (k4_shine_16 o f) ih v1 v2 v3 u16 1 g _ _ _ hG (lv_sub hl [1, 2, 3, 4, 0] rfl) h
  refine lv_aload_n hx hb dX4_shine_0 rfl (lv_at hl 0 rfl) ?_
  refine r_getI C hG FX4_59 hk rfl dX4_shine_1 ?_
  refine lv_if_eq (tgt := 8) hx hb dX4_shine_4 (by decide) (fun c23 => ?_) (fun c23 => ?_)
  · have h := (if_inv h).1 c23
    refine lv_sipush (v := 10000) hx hb dX4_shine_8 (by decide) ?_
    refine lv_istore_n (lv' := [(1, .int 10000), (0, .ref (E.ad o))]) hx hb dX4_shine_11 rfl hl (by decide) rfl (fun ls hl => ?_)
    refine lv_iconst (v := 0) hx hb dX4_shine_12 (by decide) ?_
    refine lv_istore_n (lv' := [(2, .int 0), (1, .int 10000), (0, .ref (E.ad o))]) hx hb dX4_shine_13 rfl hl (by decide) rfl (fun ls hl => ?_)
    refine lv_iconst (v := 0) hx hb dX4_shine_14 (by decide) ?_
    refine lv_istore_n (lv' := [(3, .int 0), (2, .int 0), (1, .int 10000), (0, .ref (E.ad o))]) hx hb dX4_shine_15 rfl hl (by decide) rfl (fun ls hl => ?_)
    exact j16 FU 10000 0 0 g _ _ _ hG (lv_sub hl [3, 2, 1, 0] rfl) h
  · have h := (if_inv h).2 c23
    exact r_vret C hG hr dX4_shine_7 h
def k4_valueOf (o : Nat) (a1 : Int32) (a2 : Int32) (g : G) : Option (Int32 × G) :=
  (k4_has o a2 g).bind fun u1 =>
  if u1 = 0 then
    some (0, g)
  else
    (k4_shine o g).bind fun g3 =>
    if a1 = 129 then
      ld g3 (o + 1) 10 a2 fun x5 =>
      some (x5, g3)
    else
    if a1 = 130 then
      ld g3 (o + 3) 10 a2 fun x7 =>
      some (x7, g3)
    else
    if a1 = 131 then
      some (0, g3)
    else
    if a1 = 132 then
      some (0, g3)
    else
    if a1 = 133 then
      some (0, g3)
    else
    if a1 = 134 then
      some (0, g3)
    else
    if a1 = 135 then
      some (0, g3)
    else
    if a1 = 136 then
      some (0, g3)
    else
    if a1 = 137 then
      some (0, g3)
    else
    if a1 = 138 then
      some (0, g3)
    else
    if a1 = 139 then
      some (0, g3)
    else
    if a1 = 140 then
      some (0, g3)
    else
    if a1 = 141 then
      ld g3 (o + 5) 10 a2 fun x19 =>
      some (x19, g3)
    else
    if a1 = 142 then
      some (0, g3)
    else
    if a1 = 143 then
      ld g3 (o + 6) 10 a2 fun x22 =>
      some (x22, g3)
    else
    if a1 = 144 then
      ld g3 (o + 7) 10 a2 fun x24 =>
      some (x24, g3)
    else
    if a1 = 145 then
      ld g3 (o + 2) 10 a2 fun x26 =>
      some (x26, g3)
    else
    some (0, g3)
set_option maxRecDepth 100000 in
set_option maxHeartbeats 4000000 in
theorem m4_valueOf (E : EV) (l : Launch) (o : Nat) (hk : kd o = 4) (a1 : Int32) (a2 : Int32) (g : G) : ∀ u, k4_valueOf o a1 a2 g = some u → MI E l yX4_valueOf cX4_valueOf 3 (some .int) 2 0 0 [.ref (E.ad o), .int a1, .int a2] g u := by
  intro u h
  refine MG.of (by decide +kernel) (Nat.le_of_ble_eq_true rfl) ?_
  intro p e s m args below meth c C hr hnm ls hl hG
  have C : Cx p s m args meth c cX4_valueOf 3 RX4 E := C
  have hx := C.1
  have hb := C.2.1
  have hl : lv_has ls 3 [(0, .ref (E.ad o)), (1, .int a1), (2, .int a2)] := hl
  unfold k4_valueOf at h
  refine lv_aload_n hx hb dX4_valueOf_0 rfl (lv_at hl 0 rfl) ?_
  refine lv_iload_n hx hb dX4_valueOf_1 rfl (lv_at hl 2 rfl) ?_
  refine r_callVIP C hl.1 hG [.int a2] [] (m4_has E l o hk a2 g) LX4_71 hk KC4 rfl (rm_ok (by decide) (by decide)) (Nat.le_of_ble_eq_true rfl) ⟨Nat.le_refl _, Nat.le_refl _⟩ rfl dX4_valueOf_2 h (fun u1 H locs hG h => ?_)
  refine lv_if_ne (tgt := 10) hx hb dX4_valueOf_5 (by decide) (fun c2 => ?_) (fun c2 => ?_)
  · have h := (if_inv h).2 c2
    refine lv_aload_n hx hb dX4_valueOf_10 rfl (lv_at hl 0 rfl) ?_
    refine r_callVV C hl.1 hG [] [] (m4_shine E l o hk g) LX4_75 hk KC4 rfl (rm_ok (by decide) (by decide)) (Nat.le_of_ble_eq_true rfl) ⟨Nat.le_refl _, Nat.le_refl _⟩ rfl dX4_valueOf_11 h (fun g3 H locs hG h => ?_)
    refine lv_iload_n hx hb dX4_valueOf_14 rfl (lv_at hl 1 rfl) ?_
    by_cases c4 : a1 = 129
    · have h := (if_inv h).1 c4
      refine lv_tableIn (off := 81) (tgt := 96) hx hb dX4_valueOf_15 (by rw [c4]; decide +kernel) (by rw [c4]; decide +kernel) (by rw [c4]; decide +kernel) (by decide) ?_
      refine lv_aload_n hx hb dX4_valueOf_96 rfl (lv_at hl 0 rfl) ?_
      refine r_getR (d := 1) C hG FX4_9 hk rfl (by decide) dX4_valueOf_97 ?_
      refine lv_iload_n hx hb dX4_valueOf_100 rfl (lv_at hl 2 rfl) ?_
      refine r_ild C hG (N := 10) (kR4_0 hk) (by decide) dX4_valueOf_101 h (fun x5 h => ?_)
      exact r_iret C hG hr rfl dX4_valueOf_102 h
    have h := (if_inv h).2 c4
    by_cases c6 : a1 = 130
    · have h := (if_inv h).1 c6
      refine lv_tableIn (off := 95) (tgt := 110) hx hb dX4_valueOf_15 (by rw [c6]; decide +kernel) (by rw [c6]; decide +kernel) (by rw [c6]; decide +kernel) (by decide) ?_
      refine lv_aload_n hx hb dX4_valueOf_110 rfl (lv_at hl 0 rfl) ?_
      refine r_getR (d := 3) C hG FX4_18 hk rfl (by decide) dX4_valueOf_111 ?_
      refine lv_iload_n hx hb dX4_valueOf_114 rfl (lv_at hl 2 rfl) ?_
      refine r_ild C hG (N := 10) (kR4_2 hk) (by decide) dX4_valueOf_115 h (fun x7 h => ?_)
      exact r_iret C hG hr rfl dX4_valueOf_116 h
    have h := (if_inv h).2 c6
    by_cases c8 : a1 = 131
    · have h := (if_inv h).1 c8
      refine lv_tableIn (off := 123) (tgt := 138) hx hb dX4_valueOf_15 (by rw [c8]; decide +kernel) (by rw [c8]; decide +kernel) (by rw [c8]; decide +kernel) (by decide) ?_
      refine lv_iconst (v := 0) hx hb dX4_valueOf_138 (by decide) ?_
      exact r_iret C hG hr rfl dX4_valueOf_139 h
    have h := (if_inv h).2 c8
    by_cases c9 : a1 = 132
    · have h := (if_inv h).1 c9
      refine lv_tableIn (off := 123) (tgt := 138) hx hb dX4_valueOf_15 (by rw [c9]; decide +kernel) (by rw [c9]; decide +kernel) (by rw [c9]; decide +kernel) (by decide) ?_
      refine lv_iconst (v := 0) hx hb dX4_valueOf_138 (by decide) ?_
      exact r_iret C hG hr rfl dX4_valueOf_139 h
    have h := (if_inv h).2 c9
    by_cases c10 : a1 = 133
    · have h := (if_inv h).1 c10
      refine lv_tableIn (off := 123) (tgt := 138) hx hb dX4_valueOf_15 (by rw [c10]; decide +kernel) (by rw [c10]; decide +kernel) (by rw [c10]; decide +kernel) (by decide) ?_
      refine lv_iconst (v := 0) hx hb dX4_valueOf_138 (by decide) ?_
      exact r_iret C hG hr rfl dX4_valueOf_139 h
    have h := (if_inv h).2 c10
    by_cases c11 : a1 = 134
    · have h := (if_inv h).1 c11
      refine lv_tableIn (off := 123) (tgt := 138) hx hb dX4_valueOf_15 (by rw [c11]; decide +kernel) (by rw [c11]; decide +kernel) (by rw [c11]; decide +kernel) (by decide) ?_
      refine lv_iconst (v := 0) hx hb dX4_valueOf_138 (by decide) ?_
      exact r_iret C hG hr rfl dX4_valueOf_139 h
    have h := (if_inv h).2 c11
    by_cases c12 : a1 = 135
    · have h := (if_inv h).1 c12
      refine lv_tableIn (off := 123) (tgt := 138) hx hb dX4_valueOf_15 (by rw [c12]; decide +kernel) (by rw [c12]; decide +kernel) (by rw [c12]; decide +kernel) (by decide) ?_
      refine lv_iconst (v := 0) hx hb dX4_valueOf_138 (by decide) ?_
      exact r_iret C hG hr rfl dX4_valueOf_139 h
    have h := (if_inv h).2 c12
    by_cases c13 : a1 = 136
    · have h := (if_inv h).1 c13
      refine lv_tableIn (off := 123) (tgt := 138) hx hb dX4_valueOf_15 (by rw [c13]; decide +kernel) (by rw [c13]; decide +kernel) (by rw [c13]; decide +kernel) (by decide) ?_
      refine lv_iconst (v := 0) hx hb dX4_valueOf_138 (by decide) ?_
      exact r_iret C hG hr rfl dX4_valueOf_139 h
    have h := (if_inv h).2 c13
    by_cases c14 : a1 = 137
    · have h := (if_inv h).1 c14
      refine lv_tableIn (off := 123) (tgt := 138) hx hb dX4_valueOf_15 (by rw [c14]; decide +kernel) (by rw [c14]; decide +kernel) (by rw [c14]; decide +kernel) (by decide) ?_
      refine lv_iconst (v := 0) hx hb dX4_valueOf_138 (by decide) ?_
      exact r_iret C hG hr rfl dX4_valueOf_139 h
    have h := (if_inv h).2 c14
    by_cases c15 : a1 = 138
    · have h := (if_inv h).1 c15
      refine lv_tableIn (off := 123) (tgt := 138) hx hb dX4_valueOf_15 (by rw [c15]; decide +kernel) (by rw [c15]; decide +kernel) (by rw [c15]; decide +kernel) (by decide) ?_
      refine lv_iconst (v := 0) hx hb dX4_valueOf_138 (by decide) ?_
      exact r_iret C hG hr rfl dX4_valueOf_139 h
    have h := (if_inv h).2 c15
    by_cases c16 : a1 = 139
    · have h := (if_inv h).1 c16
      refine lv_tableIn (off := 123) (tgt := 138) hx hb dX4_valueOf_15 (by rw [c16]; decide +kernel) (by rw [c16]; decide +kernel) (by rw [c16]; decide +kernel) (by decide) ?_
      refine lv_iconst (v := 0) hx hb dX4_valueOf_138 (by decide) ?_
      exact r_iret C hG hr rfl dX4_valueOf_139 h
    have h := (if_inv h).2 c16
    by_cases c17 : a1 = 140
    · have h := (if_inv h).1 c17
      refine lv_tableIn (off := 123) (tgt := 138) hx hb dX4_valueOf_15 (by rw [c17]; decide +kernel) (by rw [c17]; decide +kernel) (by rw [c17]; decide +kernel) (by decide) ?_
      refine lv_iconst (v := 0) hx hb dX4_valueOf_138 (by decide) ?_
      exact r_iret C hG hr rfl dX4_valueOf_139 h
    have h := (if_inv h).2 c17
    by_cases c18 : a1 = 141
    · have h := (if_inv h).1 c18
      refine lv_tableIn (off := 102) (tgt := 117) hx hb dX4_valueOf_15 (by rw [c18]; decide +kernel) (by rw [c18]; decide +kernel) (by rw [c18]; decide +kernel) (by decide) ?_
      refine lv_aload_n hx hb dX4_valueOf_117 rfl (lv_at hl 0 rfl) ?_
      refine r_getR (d := 5) C hG FX4_24 hk rfl (by decide) dX4_valueOf_118 ?_
      refine lv_iload_n hx hb dX4_valueOf_121 rfl (lv_at hl 2 rfl) ?_
      refine r_ild C hG (N := 10) (kR4_4 hk) (by decide) dX4_valueOf_122 h (fun x19 h => ?_)
      exact r_iret C hG hr rfl dX4_valueOf_123 h
    have h := (if_inv h).2 c18
    by_cases c20 : a1 = 142
    · have h := (if_inv h).1 c20
      refine lv_tableIn (off := 123) (tgt := 138) hx hb dX4_valueOf_15 (by rw [c20]; decide +kernel) (by rw [c20]; decide +kernel) (by rw [c20]; decide +kernel) (by decide) ?_
      refine lv_iconst (v := 0) hx hb dX4_valueOf_138 (by decide) ?_
      exact r_iret C hG hr rfl dX4_valueOf_139 h
    have h := (if_inv h).2 c20
    by_cases c21 : a1 = 143
    · have h := (if_inv h).1 c21
      refine lv_tableIn (off := 109) (tgt := 124) hx hb dX4_valueOf_15 (by rw [c21]; decide +kernel) (by rw [c21]; decide +kernel) (by rw [c21]; decide +kernel) (by decide) ?_
      refine lv_aload_n hx hb dX4_valueOf_124 rfl (lv_at hl 0 rfl) ?_
      refine r_getR (d := 6) C hG FX4_27 hk rfl (by decide) dX4_valueOf_125 ?_
      refine lv_iload_n hx hb dX4_valueOf_128 rfl (lv_at hl 2 rfl) ?_
      refine r_ild C hG (N := 10) (kR4_5 hk) (by decide) dX4_valueOf_129 h (fun x22 h => ?_)
      exact r_iret C hG hr rfl dX4_valueOf_130 h
    have h := (if_inv h).2 c21
    by_cases c23 : a1 = 144
    · have h := (if_inv h).1 c23
      refine lv_tableIn (off := 116) (tgt := 131) hx hb dX4_valueOf_15 (by rw [c23]; decide +kernel) (by rw [c23]; decide +kernel) (by rw [c23]; decide +kernel) (by decide) ?_
      refine lv_aload_n hx hb dX4_valueOf_131 rfl (lv_at hl 0 rfl) ?_
      refine r_getR (d := 7) C hG FX4_30 hk rfl (by decide) dX4_valueOf_132 ?_
      refine lv_iload_n hx hb dX4_valueOf_135 rfl (lv_at hl 2 rfl) ?_
      refine r_ild C hG (N := 10) (kR4_6 hk) (by decide) dX4_valueOf_136 h (fun x24 h => ?_)
      exact r_iret C hG hr rfl dX4_valueOf_137 h
    have h := (if_inv h).2 c23
    by_cases c25 : a1 = 145
    · have h := (if_inv h).1 c25
      refine lv_tableIn (off := 88) (tgt := 103) hx hb dX4_valueOf_15 (by rw [c25]; decide +kernel) (by rw [c25]; decide +kernel) (by rw [c25]; decide +kernel) (by decide) ?_
      refine lv_aload_n hx hb dX4_valueOf_103 rfl (lv_at hl 0 rfl) ?_
      refine r_getR (d := 2) C hG FX4_15 hk rfl (by decide) dX4_valueOf_104 ?_
      refine lv_iload_n hx hb dX4_valueOf_107 rfl (lv_at hl 2 rfl) ?_
      refine r_ild C hG (N := 10) (kR4_1 hk) (by decide) dX4_valueOf_108 h (fun x26 h => ?_)
      exact r_iret C hG hr rfl dX4_valueOf_109 h
    have h := (if_inv h).2 c25
    refine lv_tableOut (tgt := 138) hx hb dX4_valueOf_15 (tab_out 17 (by decide) (lt_s (lt_s (lt_s (lt_s (lt_s (lt_s (lt_s (lt_s (lt_s (lt_s (lt_s (lt_s (lt_s (lt_s (lt_s (lt_s (lt_s lt_0 (nei c4 (by decide))) (nei c6 (by decide))) (nei c8 (by decide))) (nei c9 (by decide))) (nei c10 (by decide))) (nei c11 (by decide))) (nei c12 (by decide))) (nei c13 (by decide))) (nei c14 (by decide))) (nei c15 (by decide))) (nei c16 (by decide))) (nei c17 (by decide))) (nei c18 (by decide))) (nei c20 (by decide))) (nei c21 (by decide))) (nei c23 (by decide))) (nei c25 (by decide)))) (by decide) ?_
    refine lv_iconst (v := 0) hx hb dX4_valueOf_138 (by decide) ?_
    exact r_iret C hG hr rfl dX4_valueOf_139 h
  · have h := (if_inv h).1 c2
    refine lv_iconst (v := 0) hx hb dX4_valueOf_8 (by decide) ?_
    exact r_iret C hG hr rfl dX4_valueOf_9 h
def k4_lastLight (o : Nat) (g : G) : Option (Int32 × G) :=
  (k4_shine o g).bind fun g1 =>
  some ((g1 o 11), g1)
set_option maxRecDepth 100000 in
set_option maxHeartbeats 4000000 in
theorem m4_lastLight (E : EV) (l : Launch) (o : Nat) (hk : kd o = 4) (g : G) : ∀ u, k4_lastLight o g = some u → MI E l yX4_lastLight cX4_lastLight 1 (some .int) 2 0 0 [.ref (E.ad o)] g u := by
  intro u h
  refine MG.of (by decide +kernel) (Nat.le_of_ble_eq_true rfl) ?_
  intro p e s m args below meth c C hr hnm ls hl hG
  have C : Cx p s m args meth c cX4_lastLight 1 RX4 E := C
  have hx := C.1
  have hb := C.2.1
  have hl : lv_has ls 1 [(0, .ref (E.ad o))] := hl
  unfold k4_lastLight at h
  refine lv_aload_n hx hb dX4_lastLight_0 rfl (lv_at hl 0 rfl) ?_
  refine r_callVV C hl.1 hG [] [] (m4_shine E l o hk g) LX4_75 hk KC4 rfl (rm_ok (by decide) (by decide)) (Nat.le_of_ble_eq_true rfl) ⟨Nat.le_refl _, Nat.le_refl _⟩ rfl dX4_lastLight_1 h (fun g1 H locs hG h => ?_)
  refine lv_aload_n hx hb dX4_lastLight_4 rfl (lv_at hl 0 rfl) ?_
  refine r_getI C hG FX4_78 hk rfl dX4_lastLight_5 ?_
  exact r_iret C hG hr rfl dX4_lastLight_8 h
def k4_lastTilt (o : Nat) (g : G) : Option (Int32 × G) :=
  (k4_shine o g).bind fun g1 =>
  some ((g1 o 12), g1)
set_option maxRecDepth 100000 in
set_option maxHeartbeats 4000000 in
theorem m4_lastTilt (E : EV) (l : Launch) (o : Nat) (hk : kd o = 4) (g : G) : ∀ u, k4_lastTilt o g = some u → MI E l yX4_lastTilt cX4_lastTilt 1 (some .int) 2 0 0 [.ref (E.ad o)] g u := by
  intro u h
  refine MG.of (by decide +kernel) (Nat.le_of_ble_eq_true rfl) ?_
  intro p e s m args below meth c C hr hnm ls hl hG
  have C : Cx p s m args meth c cX4_lastTilt 1 RX4 E := C
  have hx := C.1
  have hb := C.2.1
  have hl : lv_has ls 1 [(0, .ref (E.ad o))] := hl
  unfold k4_lastTilt at h
  refine lv_aload_n hx hb dX4_lastTilt_0 rfl (lv_at hl 0 rfl) ?_
  refine r_callVV C hl.1 hG [] [] (m4_shine E l o hk g) LX4_75 hk KC4 rfl (rm_ok (by decide) (by decide)) (Nat.le_of_ble_eq_true rfl) ⟨Nat.le_refl _, Nat.le_refl _⟩ rfl dX4_lastTilt_1 h (fun g1 H locs hG h => ?_)
  refine lv_aload_n hx hb dX4_lastTilt_4 rfl (lv_at hl 0 rfl) ?_
  refine r_getI C hG FX4_81 hk rfl dX4_lastTilt_5 ?_
  exact r_iret C hG hr rfl dX4_lastTilt_8 h
def k4_showsLight (o : Nat) (g : G) : Option (Int32 × G) :=
  (k4_shine o g).bind fun g1 =>
  if (g1 o 11) < (g1 o 9) then
    some (0, g1)
  else
    (k4_isWithinWidth o (g1 o 12) g1).bind fun u3 =>
    if u3 = 0 then
      some (0, g1)
    else
      some (1, g1)
set_option maxRecDepth 100000 in
set_option maxHeartbeats 4000000 in
theorem m4_showsLight (E : EV) (l : Launch) (o : Nat) (hk : kd o = 4) (g : G) : ∀ u, k4_showsLight o g = some u → MI E l yX4_showsLight cX4_showsLight 1 (some .boolean) 2 0 0 [.ref (E.ad o)] g u := by
  intro u h
  refine MG.of (by decide +kernel) (Nat.le_of_ble_eq_true rfl) ?_
  intro p e s m args below meth c C hr hnm ls hl hG
  have C : Cx p s m args meth c cX4_showsLight 1 RX4 E := C
  have hx := C.1
  have hb := C.2.1
  have hl : lv_has ls 1 [(0, .ref (E.ad o))] := hl
  unfold k4_showsLight at h
  refine lv_aload_n hx hb dX4_showsLight_0 rfl (lv_at hl 0 rfl) ?_
  refine r_callVV C hl.1 hG [] [] (m4_shine E l o hk g) LX4_75 hk KC4 rfl (rm_ok (by decide) (by decide)) (Nat.le_of_ble_eq_true rfl) ⟨Nat.le_refl _, Nat.le_refl _⟩ rfl dX4_showsLight_1 h (fun g1 H locs hG h => ?_)
  refine lv_aload_n hx hb dX4_showsLight_4 rfl (lv_at hl 0 rfl) ?_
  refine r_getI C hG FX4_78 hk rfl dX4_showsLight_5 ?_
  refine lv_aload_n hx hb dX4_showsLight_8 rfl (lv_at hl 0 rfl) ?_
  refine r_getI C hG FX4_37 hk rfl dX4_showsLight_9 ?_
  refine lv_icmp_lt (tgt := 30) hx hb dX4_showsLight_12 (by decide) (fun c2 => ?_) (fun c2 => ?_)
  · have h := (if_inv h).1 c2
    refine lv_iconst (v := 0) hx hb dX4_showsLight_30 (by decide) ?_
    exact r_iret C hG hr rfl dX4_showsLight_31 h
  · have h := (if_inv h).2 c2
    refine lv_aload_n hx hb dX4_showsLight_15 rfl (lv_at hl 0 rfl) ?_
    refine lv_aload_n hx hb dX4_showsLight_16 rfl (lv_at hl 0 rfl) ?_
    refine r_getI C hG FX4_81 hk rfl dX4_showsLight_17 ?_
    refine r_callVIP C hl.1 hG [.int (g1 o 12)] [] (m4_isWithinWidth E l o hk (g1 o 12) g1) LX4_84 hk KC4 rfl (rm_ok (by decide) (by decide)) (Nat.le_of_ble_eq_true rfl) ⟨Nat.le_refl _, Nat.le_refl _⟩ rfl dX4_showsLight_20 h (fun u3 H locs hG h => ?_)
    refine lv_if_eq (tgt := 30) hx hb dX4_showsLight_23 (by decide) (fun c4 => ?_) (fun c4 => ?_)
    · have h := (if_inv h).1 c4
      refine lv_iconst (v := 0) hx hb dX4_showsLight_30 (by decide) ?_
      exact r_iret C hG hr rfl dX4_showsLight_31 h
    · have h := (if_inv h).2 c4
      refine lv_iconst (v := 1) hx hb dX4_showsLight_26 (by decide) ?_
      refine lv_goto (tgt := 31) hx hb dX4_showsLight_27 (by decide) ?_
      exact r_iret C hG hr rfl dX4_showsLight_31 h
def k4_mostLosing_12 (o : Nat) : Nat → Int32 → Int32 → G → Option (Int32 × G)
  | 0, _, _, _ => none
  | f + 1, v1, v2, g =>
        if (g o 7) ≤ v2 then
          some (v1, g)
        else
          (k4_mirrorIn o v2 g).bind fun u2 =>
          (k4_has o u2 g).bind fun u3 =>
          if u3 = 0 then
            bd (v2 + 1) fun x5 =>
            k4_mostLosing_12 o f v1 x5 g
          else
            (k4_has o v1 g).bind fun u6 =>
            if u6 = 0 then
              bd (v2 + 1) fun x8 =>
              k4_mostLosing_12 o f v1 x8 g
            else
              ld g (o + 6) 10 u2 fun x9 =>
              ld g (o + 6) 10 v1 fun x10 =>
              if x9 ≤ x10 then
                bd (v2 + 1) fun x12 =>
                k4_mostLosing_12 o f v1 x12 g
              else
                bd (v2 + 1) fun x13 =>
                k4_mostLosing_12 o f u2 x13 g
def k4_mostLosing (o : Nat) (g : G) : Option (Int32 × G) :=
  (k4_shine o g).bind fun g14 =>
  (k4_mirrorIn o 0 g14).bind fun u15 =>
  k4_mostLosing_12 o FU u15 1 g14
set_option maxRecDepth 100000 in
set_option maxHeartbeats 4000000 in
theorem m4_mostLosing (E : EV) (l : Launch) (o : Nat) (hk : kd o = 4) (g : G) : ∀ u, k4_mostLosing o g = some u → MI E l yX4_mostLosing cX4_mostLosing 4 (some .int) 2 0 0 [.ref (E.ad o)] g u := by
  intro u h
  refine MG.of (by decide +kernel) (Nat.le_of_ble_eq_true rfl) ?_
  intro p e s m args below meth c C hr hnm ls hl hG
  have C : Cx p s m args meth c cX4_mostLosing 4 RX4 E := C
  have hx := C.1
  have hb := C.2.1
  have hl : lv_has ls 4 [(0, .ref (E.ad o))] := hl
  unfold k4_mostLosing at h
  have j12 : ∀ f : Nat, ∀ (v1 : Int32) (v2 : Int32) (g : G) (H : Heap) (locs : List Loc) (ls : Array Slot), Gd E s H locs g [] → lv_has ls 4 [(0, .ref (E.ad o)), (1, .int v1), (2, .int v2)] → k4_mostLosing_12 o f v1 v2 g = some u → W p l e (rmD 2 0 0) s m args below meth c H locs 0 0 (MQ below (QI E s.heap.size u.1 u.2) args s 0 0 (AA E s.heap.size)) (F0 m 12 ls []) := by
    intro f
    induction f with
    | zero =>
      intro v1 v2 g H locs ls hG hl h
      unfold k4_mostLosing_12 at h
      cases h
    | succ f ih =>
      intro v1 v2 g H locs ls hG hl h
      unfold k4_mostLosing_12 at h
      refine lv_iload_n hx hb dX4_mostLosing_12 rfl (lv_at hl 2 rfl) ?_
      refine lv_aload_n hx hb dX4_mostLosing_13 rfl (lv_at hl 0 rfl) ?_
      refine r_getI C hG FX4_54 hk rfl dX4_mostLosing_14 ?_
      refine lv_icmp_ge (tgt := 65) hx hb dX4_mostLosing_17 (by decide) (fun c1 => ?_) (fun c1 => ?_)
      · have h := (if_inv h).1 c1
        refine lv_iload_n hx hb dX4_mostLosing_65 rfl (lv_at hl 1 rfl) ?_
        exact r_iret C hG hr rfl dX4_mostLosing_66 h
      · have h := (if_inv h).2 c1
        refine lv_aload_n hx hb dX4_mostLosing_20 rfl (lv_at hl 0 rfl) ?_
        refine lv_iload_n hx hb dX4_mostLosing_21 rfl (lv_at hl 2 rfl) ?_
        refine r_callVIP C hl.1 hG [.int v2] [] (m4_mirrorIn E l o hk v2 g) LX4_87 hk KC4 rfl (rm_ok (by decide) (by decide)) (Nat.le_of_ble_eq_true rfl) ⟨Nat.le_refl _, Nat.le_refl _⟩ rfl dX4_mostLosing_22 h (fun u2 H locs hG h => ?_)
        refine lv_istore_n (lv' := [(3, .int u2), (0, .ref (E.ad o)), (1, .int v1), (2, .int v2)]) hx hb dX4_mostLosing_25 rfl hl (by decide) rfl (fun ls hl => ?_)
        refine lv_aload_n hx hb dX4_mostLosing_26 rfl (lv_at hl 1 rfl) ?_
        refine lv_iload_n hx hb dX4_mostLosing_27 rfl (lv_at hl 0 rfl) ?_
        refine r_callVIP C hl.1 hG [.int u2] [] (m4_has E l o hk u2 g) LX4_71 hk KC4 rfl (rm_ok (by decide) (by decide)) (Nat.le_of_ble_eq_true rfl) ⟨Nat.le_refl _, Nat.le_refl _⟩ rfl dX4_mostLosing_28 h (fun u3 H locs hG h => ?_)
        refine lv_if_eq (tgt := 59) hx hb dX4_mostLosing_31 (by decide) (fun c4 => ?_) (fun c4 => ?_)
        · have h := (if_inv h).1 c4
          refine r_iinc (w := 1) (lv' := fun x5 => [(2, .int x5), (3, .int u2), (0, .ref (E.ad o)), (1, .int v1)]) C dX4_mostLosing_59 hl (k := 3) rfl (by decide) (by decide) (fun _ => rfl) h (fun x5 ls hl h => ?_)
          refine lv_goto (tgt := 12) hx hb dX4_mostLosing_62 (by decide) ?_
          exact ih v1 x5 g _ _ _ hG (lv_sub hl [2, 3, 0] rfl) h
        · have h := (if_inv h).2 c4
          refine lv_aload_n hx hb dX4_mostLosing_34 rfl (lv_at hl 1 rfl) ?_
          refine lv_iload_n hx hb dX4_mostLosing_35 rfl (lv_at hl 2 rfl) ?_
          refine r_callVIP C hl.1 hG [.int v1] [] (m4_has E l o hk v1 g) LX4_71 hk KC4 rfl (rm_ok (by decide) (by decide)) (Nat.le_of_ble_eq_true rfl) ⟨Nat.le_refl _, Nat.le_refl _⟩ rfl dX4_mostLosing_36 h (fun u6 H locs hG h => ?_)
          refine lv_if_eq (tgt := 59) hx hb dX4_mostLosing_39 (by decide) (fun c7 => ?_) (fun c7 => ?_)
          · have h := (if_inv h).1 c7
            refine r_iinc (w := 1) (lv' := fun x8 => [(2, .int x8), (3, .int u2), (0, .ref (E.ad o)), (1, .int v1)]) C dX4_mostLosing_59 hl (k := 3) rfl (by decide) (by decide) (fun _ => rfl) h (fun x8 ls hl h => ?_)
            refine lv_goto (tgt := 12) hx hb dX4_mostLosing_62 (by decide) ?_
            exact ih v1 x8 g _ _ _ hG (lv_sub hl [2, 3, 0] rfl) h
          · have h := (if_inv h).2 c7
            refine lv_aload_n hx hb dX4_mostLosing_42 rfl (lv_at hl 1 rfl) ?_
            refine r_getR (d := 6) C hG FX4_27 hk rfl (by decide) dX4_mostLosing_43 ?_
            refine lv_iload_n hx hb dX4_mostLosing_46 rfl (lv_at hl 0 rfl) ?_
            refine r_ild C hG (N := 10) (kR4_5 hk) (by decide) dX4_mostLosing_47 h (fun x9 h => ?_)
            refine lv_aload_n hx hb dX4_mostLosing_48 rfl (lv_at hl 1 rfl) ?_
            refine r_getR (d := 6) C hG FX4_27 hk rfl (by decide) dX4_mostLosing_49 ?_
            refine lv_iload_n hx hb dX4_mostLosing_52 rfl (lv_at hl 2 rfl) ?_
            refine r_ild C hG (N := 10) (kR4_5 hk) (by decide) dX4_mostLosing_53 h (fun x10 h => ?_)
            refine lv_icmp_le (tgt := 59) hx hb dX4_mostLosing_54 (by decide) (fun c11 => ?_) (fun c11 => ?_)
            · have h := (if_inv h).1 c11
              refine r_iinc (w := 1) (lv' := fun x12 => [(2, .int x12), (3, .int u2), (0, .ref (E.ad o)), (1, .int v1)]) C dX4_mostLosing_59 hl (k := 3) rfl (by decide) (by decide) (fun _ => rfl) h (fun x12 ls hl h => ?_)
              refine lv_goto (tgt := 12) hx hb dX4_mostLosing_62 (by decide) ?_
              exact ih v1 x12 g _ _ _ hG (lv_sub hl [2, 3, 0] rfl) h
            · have h := (if_inv h).2 c11
              refine lv_iload_n hx hb dX4_mostLosing_57 rfl (lv_at hl 0 rfl) ?_
              refine lv_istore_n (lv' := [(1, .int u2), (3, .int u2), (0, .ref (E.ad o)), (2, .int v2)]) hx hb dX4_mostLosing_58 rfl hl (by decide) rfl (fun ls hl => ?_)
              refine r_iinc (w := 1) (lv' := fun x13 => [(2, .int x13), (1, .int u2), (3, .int u2), (0, .ref (E.ad o))]) C dX4_mostLosing_59 hl (k := 3) rfl (by decide) (by decide) (fun _ => rfl) h (fun x13 ls hl h => ?_)
              refine lv_goto (tgt := 12) hx hb dX4_mostLosing_62 (by decide) ?_
              exact ih u2 x13 g _ _ _ hG (lv_sub hl [3, 1, 0] rfl) h
  refine lv_aload_n hx hb dX4_mostLosing_0 rfl (lv_at hl 0 rfl) ?_
  refine r_callVV C hl.1 hG [] [] (m4_shine E l o hk g) LX4_75 hk KC4 rfl (rm_ok (by decide) (by decide)) (Nat.le_of_ble_eq_true rfl) ⟨Nat.le_refl _, Nat.le_refl _⟩ rfl dX4_mostLosing_1 h (fun g14 H locs hG h => ?_)
  refine lv_aload_n hx hb dX4_mostLosing_4 rfl (lv_at hl 0 rfl) ?_
  refine lv_iconst (v := 0) hx hb dX4_mostLosing_5 (by decide) ?_
  refine r_callVIP C hl.1 hG [.int 0] [] (m4_mirrorIn E l o hk 0 g14) LX4_87 hk KC4 rfl (rm_ok (by decide) (by decide)) (Nat.le_of_ble_eq_true rfl) ⟨Nat.le_refl _, Nat.le_refl _⟩ rfl dX4_mostLosing_6 h (fun u15 H locs hG h => ?_)
  refine lv_istore_n (lv' := [(1, .int u15), (0, .ref (E.ad o))]) hx hb dX4_mostLosing_9 rfl hl (by decide) rfl (fun ls hl => ?_)
  refine lv_iconst (v := 1) hx hb dX4_mostLosing_10 (by decide) ?_
  refine lv_istore_n (lv' := [(2, .int 1), (1, .int u15), (0, .ref (E.ad o))]) hx hb dX4_mostLosing_11 rfl hl (by decide) rfl (fun ls hl => ?_)
  exact j12 FU u15 1 g14 _ _ _ hG (lv_sub hl [2, 1, 0] rfl) h
def k4_cover (o : Nat) (a1 : Int32) (g : G) : Option (G) :=
  bd (up g o 10 a1) fun g1 =>
  bd (up g1 o 13 0) fun g2 =>
  some g2
set_option maxRecDepth 100000 in
set_option maxHeartbeats 4000000 in
theorem m4_cover (E : EV) (l : Launch) (o : Nat) (hk : kd o = 4) (a1 : Int32) (g : G) : ∀ u, k4_cover o a1 g = some u → MV E l yX4_cover cX4_cover 2 none 0 0 0 [.ref (E.ad o), .int a1] g u := by
  intro u h
  refine MG.of (by decide +kernel) (Nat.le_of_ble_eq_true rfl) ?_
  intro p e s m args below meth c C hr hnm ls hl hG
  have C : Cx p s m args meth c cX4_cover 2 RX4 E := C
  have hx := C.1
  have hb := C.2.1
  have hl : lv_has ls 2 [(0, .ref (E.ad o)), (1, .int a1)] := hl
  unfold k4_cover at h
  refine lv_aload_n hx hb dX4_cover_0 rfl (lv_at hl 0 rfl) ?_
  refine lv_iload_n hx hb dX4_cover_1 rfl (lv_at hl 1 rfl) ?_
  refine r_putI C hG FX4_40 hk rfl dX4_cover_2 h (fun H locs g1 hG h => ?_)
  refine lv_aload_n hx hb dX4_cover_5 rfl (lv_at hl 0 rfl) ?_
  refine lv_iconst (v := 0) hx hb dX4_cover_6 (by decide) ?_
  refine r_putZ C hG FX4_59 hk rfl (by decide) dX4_cover_7 h (fun H locs g2 hG h => ?_)
  exact r_vret C hG hr dX4_cover_10 h
def k4_turn (o : Nat) (a1 : Int32) (a2 : Int32) (g : G) : Option (G) :=
  (k4_has o a1 g).bind fun u1 =>
  if u1 = 0 then
    some g
  else
    sto g (o + 3) 10 a1 a2 fun g3 =>
    bd (up g3 o 13 0) fun g4 =>
    some g4
set_option maxRecDepth 100000 in
set_option maxHeartbeats 4000000 in
theorem m4_turn (E : EV) (l : Launch) (o : Nat) (hk : kd o = 4) (a1 : Int32) (a2 : Int32) (g : G) : ∀ u, k4_turn o a1 a2 g = some u → MV E l yX4_turn cX4_turn 3 none 1 0 0 [.ref (E.ad o), .int a1, .int a2] g u := by
  intro u h
  refine MG.of (by decide +kernel) (Nat.le_of_ble_eq_true rfl) ?_
  intro p e s m args below meth c C hr hnm ls hl hG
  have C : Cx p s m args meth c cX4_turn 3 RX4 E := C
  have hx := C.1
  have hb := C.2.1
  have hl : lv_has ls 3 [(0, .ref (E.ad o)), (1, .int a1), (2, .int a2)] := hl
  unfold k4_turn at h
  refine lv_aload_n hx hb dX4_turn_0 rfl (lv_at hl 0 rfl) ?_
  refine lv_iload_n hx hb dX4_turn_1 rfl (lv_at hl 1 rfl) ?_
  refine r_callVIP C hl.1 hG [.int a1] [] (m4_has E l o hk a1 g) LX4_71 hk KC4 rfl (rm_ok (by decide) (by decide)) (Nat.le_of_ble_eq_true rfl) ⟨Nat.le_refl _, Nat.le_refl _⟩ rfl dX4_turn_2 h (fun u1 H locs hG h => ?_)
  refine lv_if_eq (tgt := 20) hx hb dX4_turn_5 (by decide) (fun c2 => ?_) (fun c2 => ?_)
  · have h := (if_inv h).1 c2
    exact r_vret C hG hr dX4_turn_20 h
  · have h := (if_inv h).2 c2
    refine lv_aload_n hx hb dX4_turn_8 rfl (lv_at hl 0 rfl) ?_
    refine r_getR (d := 3) C hG FX4_18 hk rfl (by decide) dX4_turn_9 ?_
    refine lv_iload_n hx hb dX4_turn_12 rfl (lv_at hl 1 rfl) ?_
    refine lv_iload_n hx hb dX4_turn_13 rfl (lv_at hl 2 rfl) ?_
    refine r_ist C hG (N := 10) (kR4_2 hk) (by decide) dX4_turn_14 h (fun H locs g3 hG h => ?_)
    refine lv_aload_n hx hb dX4_turn_15 rfl (lv_at hl 0 rfl) ?_
    refine lv_iconst (v := 0) hx hb dX4_turn_16 (by decide) ?_
    refine r_putZ C hG FX4_59 hk rfl (by decide) dX4_turn_17 h (fun H locs g4 hG h => ?_)
    exact r_vret C hG hr dX4_turn_20 h
def k4_shake (o : Nat) (a1 : Int32) (a2 : Int32) (g : G) : Option (G) :=
  (k4_has o a1 g).bind fun u1 =>
  if u1 = 0 then
    some g
  else
    ld g (o + 3) 10 a1 fun x3 =>
    (k8_hold (x3.toInt64 + a2.toInt64) (-90) 90 g).bind fun u4 =>
    (k4_turn o a1 u4 g).bind fun g5 =>
    some g5
set_option maxRecDepth 100000 in
set_option maxHeartbeats 4000000 in
theorem m4_shake (E : EV) (l : Launch) (o : Nat) (hk : kd o = 4) (a1 : Int32) (a2 : Int32) (g : G) : ∀ u, k4_shake o a1 a2 g = some u → MV E l yX4_shake cX4_shake 3 none 2 0 0 [.ref (E.ad o), .int a1, .int a2] g u := by
  intro u h
  refine MG.of (by decide +kernel) (Nat.le_of_ble_eq_true rfl) ?_
  intro p e s m args below meth c C hr hnm ls hl hG
  have C : Cx p s m args meth c cX4_shake 3 RX4 E := C
  have hx := C.1
  have hb := C.2.1
  have hl : lv_has ls 3 [(0, .ref (E.ad o)), (1, .int a1), (2, .int a2)] := hl
  unfold k4_shake at h
  refine lv_aload_n hx hb dX4_shake_0 rfl (lv_at hl 0 rfl) ?_
  refine lv_iload_n hx hb dX4_shake_1 rfl (lv_at hl 1 rfl) ?_
  refine r_callVIP C hl.1 hG [.int a1] [] (m4_has E l o hk a1 g) LX4_71 hk KC4 rfl (rm_ok (by decide) (by decide)) (Nat.le_of_ble_eq_true rfl) ⟨Nat.le_refl _, Nat.le_refl _⟩ rfl dX4_shake_2 h (fun u1 H locs hG h => ?_)
  refine lv_if_eq (tgt := 30) hx hb dX4_shake_5 (by decide) (fun c2 => ?_) (fun c2 => ?_)
  · have h := (if_inv h).1 c2
    exact r_vret C hG hr dX4_shake_30 h
  · have h := (if_inv h).2 c2
    refine lv_aload_n hx hb dX4_shake_8 rfl (lv_at hl 0 rfl) ?_
    refine lv_iload_n hx hb dX4_shake_9 rfl (lv_at hl 1 rfl) ?_
    refine lv_aload_n hx hb dX4_shake_10 rfl (lv_at hl 0 rfl) ?_
    refine r_getR (d := 3) C hG FX4_18 hk rfl (by decide) dX4_shake_11 ?_
    refine lv_iload_n hx hb dX4_shake_14 rfl (lv_at hl 1 rfl) ?_
    refine r_ild C hG (N := 10) (kR4_2 hk) (by decide) dX4_shake_15 h (fun x3 h => ?_)
    refine lv_i2l hx hb dX4_shake_16 rfl ?_
    refine lv_iload_n hx hb dX4_shake_17 rfl (lv_at hl 2 rfl) ?_
    refine lv_i2l hx hb dX4_shake_18 rfl ?_
    refine lv_ladd hx hb dX4_shake_19 ?_
    refine lv_bipush (v := (-90)) hx hb dX4_shake_20 (by decide) ?_
    refine lv_bipush (v := 90) hx hb dX4_shake_22 (by decide) ?_
    refine r_callSIP C hl.1 hG [.long (x3.toInt64 + a2.toInt64), .int (-90), .int 90] [.int a1, .ref (E.ad o)] (m8_hold E l (x3.toInt64 + a2.toInt64) (-90) 90 g) LX4_91 rfl (rm_ok (by decide) (by decide)) (Nat.le_of_ble_eq_true rfl) ⟨Nat.le_refl _, Nat.le_refl _⟩ rfl dX4_shake_24 h (fun u4 H locs hG h => ?_)
    refine r_callVV C hl.1 hG [.int a1, .int u4] [] (m4_turn E l o hk a1 u4 g) LX4_95 hk KC4 rfl (rm_ok (by decide) (by decide)) (Nat.le_of_ble_eq_true rfl) ⟨Nat.le_refl _, Nat.le_refl _⟩ rfl dX4_shake_27 h (fun g5 H locs hG h => ?_)
    exact r_vret C hG hr dX4_shake_30 h
def k4_dim (o : Nat) (a1 : Int32) (a2 : Int32) (a3 : Int32) (g : G) : Option (G) :=
  (k4_has o a1 g).bind fun u1 =>
  if u1 = 0 then
    some g
  else
    ld g (o + 1) 10 a1 fun x3 =>
    (k8_hold (x3.toInt64 - a2.toInt64) 0 a3 g).bind fun u4 =>
    sto g (o + 1) 10 a1 u4 fun g5 =>
    bd (up g5 o 13 0) fun g6 =>
    some g6
set_option maxRecDepth 100000 in
set_option maxHeartbeats 4000000 in
theorem m4_dim (E : EV) (l : Launch) (o : Nat) (hk : kd o = 4) (a1 : Int32) (a2 : Int32) (a3 : Int32) (g : G) : ∀ u, k4_dim o a1 a2 a3 g = some u → MV E l yX4_dim cX4_dim 4 none 2 0 0 [.ref (E.ad o), .int a1, .int a2, .int a3] g u := by
  intro u h
  refine MG.of (by decide +kernel) (Nat.le_of_ble_eq_true rfl) ?_
  intro p e s m args below meth c C hr hnm ls hl hG
  have C : Cx p s m args meth c cX4_dim 4 RX4 E := C
  have hx := C.1
  have hb := C.2.1
  have hl : lv_has ls 4 [(0, .ref (E.ad o)), (1, .int a1), (2, .int a2), (3, .int a3)] := hl
  unfold k4_dim at h
  refine lv_aload_n hx hb dX4_dim_0 rfl (lv_at hl 0 rfl) ?_
  refine lv_iload_n hx hb dX4_dim_1 rfl (lv_at hl 1 rfl) ?_
  refine r_callVIP C hl.1 hG [.int a1] [] (m4_has E l o hk a1 g) LX4_71 hk KC4 rfl (rm_ok (by decide) (by decide)) (Nat.le_of_ble_eq_true rfl) ⟨Nat.le_refl _, Nat.le_refl _⟩ rfl dX4_dim_2 h (fun u1 H locs hG h => ?_)
  refine lv_if_eq (tgt := 34) hx hb dX4_dim_5 (by decide) (fun c2 => ?_) (fun c2 => ?_)
  · have h := (if_inv h).1 c2
    exact r_vret C hG hr dX4_dim_34 h
  · have h := (if_inv h).2 c2
    refine lv_aload_n hx hb dX4_dim_8 rfl (lv_at hl 0 rfl) ?_
    refine r_getR (d := 1) C hG FX4_9 hk rfl (by decide) dX4_dim_9 ?_
    refine lv_iload_n hx hb dX4_dim_12 rfl (lv_at hl 1 rfl) ?_
    refine lv_aload_n hx hb dX4_dim_13 rfl (lv_at hl 0 rfl) ?_
    refine r_getR (d := 1) C hG FX4_9 hk rfl (by decide) dX4_dim_14 ?_
    refine lv_iload_n hx hb dX4_dim_17 rfl (lv_at hl 1 rfl) ?_
    refine r_ild C hG (N := 10) (kR4_0 hk) (by decide) dX4_dim_18 h (fun x3 h => ?_)
    refine lv_i2l hx hb dX4_dim_19 rfl ?_
    refine lv_iload_n hx hb dX4_dim_20 rfl (lv_at hl 2 rfl) ?_
    refine lv_i2l hx hb dX4_dim_21 rfl ?_
    refine lv_lsub hx hb dX4_dim_22 ?_
    refine lv_iconst (v := 0) hx hb dX4_dim_23 (by decide) ?_
    refine lv_iload_n hx hb dX4_dim_24 rfl (lv_at hl 3 rfl) ?_
    refine r_callSIP C hl.1 hG [.long (x3.toInt64 - a2.toInt64), .int 0, .int a3] [.int a1, .ref (E.ad (o + 1))] (m8_hold E l (x3.toInt64 - a2.toInt64) 0 a3 g) LX4_91 rfl (rm_ok (by decide) (by decide)) (Nat.le_of_ble_eq_true rfl) ⟨Nat.le_refl _, Nat.le_refl _⟩ rfl dX4_dim_25 h (fun u4 H locs hG h => ?_)
    refine r_ist C hG (N := 10) (kR4_0 hk) (by decide) dX4_dim_28 h (fun H locs g5 hG h => ?_)
    refine lv_aload_n hx hb dX4_dim_29 rfl (lv_at hl 0 rfl) ?_
    refine lv_iconst (v := 0) hx hb dX4_dim_30 (by decide) ?_
    refine r_putZ C hG FX4_59 hk rfl (by decide) dX4_dim_31 h (fun H locs g6 hG h => ?_)
    exact r_vret C hG hr dX4_dim_34 h
def k4_dust (o : Nat) (a1 : Int32) (a2 : Int32) (g : G) : Option (G) :=
  (k4_has o a1 g).bind fun u1 =>
  if u1 = 0 then
    some g
  else
    ld g (o + 2) 10 a1 fun x3 =>
    (k4_dim o a1 a2 x3 g).bind fun g4 =>
    some g4
set_option maxRecDepth 100000 in
set_option maxHeartbeats 4000000 in
theorem m4_dust (E : EV) (l : Launch) (o : Nat) (hk : kd o = 4) (a1 : Int32) (a2 : Int32) (g : G) : ∀ u, k4_dust o a1 a2 g = some u → MV E l yX4_dust cX4_dust 3 none 3 0 0 [.ref (E.ad o), .int a1, .int a2] g u := by
  intro u h
  refine MG.of (by decide +kernel) (Nat.le_of_ble_eq_true rfl) ?_
  intro p e s m args below meth c C hr hnm ls hl hG
  have C : Cx p s m args meth c cX4_dust 3 RX4 E := C
  have hx := C.1
  have hb := C.2.1
  have hl : lv_has ls 3 [(0, .ref (E.ad o)), (1, .int a1), (2, .int a2)] := hl
  unfold k4_dust at h
  refine lv_aload_n hx hb dX4_dust_0 rfl (lv_at hl 0 rfl) ?_
  refine lv_iload_n hx hb dX4_dust_1 rfl (lv_at hl 1 rfl) ?_
  refine r_callVIP C hl.1 hG [.int a1] [] (m4_has E l o hk a1 g) LX4_71 hk KC4 rfl (rm_ok (by decide) (by decide)) (Nat.le_of_ble_eq_true rfl) ⟨Nat.le_refl _, Nat.le_refl _⟩ rfl dX4_dust_2 h (fun u1 H locs hG h => ?_)
  refine lv_if_eq (tgt := 20) hx hb dX4_dust_5 (by decide) (fun c2 => ?_) (fun c2 => ?_)
  · have h := (if_inv h).1 c2
    exact r_vret C hG hr dX4_dust_20 h
  · have h := (if_inv h).2 c2
    refine lv_aload_n hx hb dX4_dust_8 rfl (lv_at hl 0 rfl) ?_
    refine lv_iload_n hx hb dX4_dust_9 rfl (lv_at hl 1 rfl) ?_
    refine lv_iload_n hx hb dX4_dust_10 rfl (lv_at hl 2 rfl) ?_
    refine lv_aload_n hx hb dX4_dust_11 rfl (lv_at hl 0 rfl) ?_
    refine r_getR (d := 2) C hG FX4_15 hk rfl (by decide) dX4_dust_12 ?_
    refine lv_iload_n hx hb dX4_dust_15 rfl (lv_at hl 1 rfl) ?_
    refine r_ild C hG (N := 10) (kR4_1 hk) (by decide) dX4_dust_16 h (fun x3 h => ?_)
    refine r_callVV C hl.1 hG [.int a1, .int a2, .int x3] [] (m4_dim E l o hk a1 a2 x3 g) LX4_99 hk KC4 rfl (rm_ok (by decide) (by decide)) (Nat.le_of_ble_eq_true rfl) ⟨Nat.le_refl _, Nat.le_refl _⟩ rfl dX4_dust_17 h (fun g4 H locs hG h => ?_)
    exact r_vret C hG hr dX4_dust_20 h
def k4_clean (o : Nat) (a1 : Int32) (g : G) : Option (G) :=
  (k4_has o a1 g).bind fun u1 =>
  if u1 = 0 then
    some g
  else
    ld g (o + 1) 10 a1 fun x3 =>
    ld g (o + 2) 10 a1 fun x4 =>
    bd (if x3 < x4 then x4 else x3) fun x5 =>
    sto g (o + 1) 10 a1 x5 fun g6 =>
    ld g6 (o + 2) 10 a1 fun x7 =>
    bd (if 0 < (x7 - 1) then (x7 - 1) else 0) fun x8 =>
    sto g6 (o + 2) 10 a1 x8 fun g9 =>
    bd (up g9 o 13 0) fun g10 =>
    some g10
set_option maxRecDepth 100000 in
set_option maxHeartbeats 4000000 in
theorem m4_clean (E : EV) (l : Launch) (o : Nat) (hk : kd o = 4) (a1 : Int32) (g : G) : ∀ u, k4_clean o a1 g = some u → MV E l yX4_clean cX4_clean 2 none 1 0 0 [.ref (E.ad o), .int a1] g u := by
  intro u h
  refine MG.of (by decide +kernel) (Nat.le_of_ble_eq_true rfl) ?_
  intro p e s m args below meth c C hr hnm ls hl hG
  have C : Cx p s m args meth c cX4_clean 2 RX4 E := C
  have hx := C.1
  have hb := C.2.1
  have hl : lv_has ls 2 [(0, .ref (E.ad o)), (1, .int a1)] := hl
  unfold k4_clean at h
  refine lv_aload_n hx hb dX4_clean_0 rfl (lv_at hl 0 rfl) ?_
  refine lv_iload_n hx hb dX4_clean_1 rfl (lv_at hl 1 rfl) ?_
  refine r_callVIP C hl.1 hG [.int a1] [] (m4_has E l o hk a1 g) LX4_71 hk KC4 rfl (rm_ok (by decide) (by decide)) (Nat.le_of_ble_eq_true rfl) ⟨Nat.le_refl _, Nat.le_refl _⟩ rfl dX4_clean_2 h (fun u1 H locs hG h => ?_)
  refine lv_if_eq (tgt := 52) hx hb dX4_clean_5 (by decide) (fun c2 => ?_) (fun c2 => ?_)
  · have h := (if_inv h).1 c2
    exact r_vret C hG hr dX4_clean_52 h
  · have h := (if_inv h).2 c2
    refine lv_aload_n hx hb dX4_clean_8 rfl (lv_at hl 0 rfl) ?_
    refine r_getR (d := 1) C hG FX4_9 hk rfl (by decide) dX4_clean_9 ?_
    refine lv_iload_n hx hb dX4_clean_12 rfl (lv_at hl 1 rfl) ?_
    refine lv_aload_n hx hb dX4_clean_13 rfl (lv_at hl 0 rfl) ?_
    refine r_getR (d := 1) C hG FX4_9 hk rfl (by decide) dX4_clean_14 ?_
    refine lv_iload_n hx hb dX4_clean_17 rfl (lv_at hl 1 rfl) ?_
    refine r_ild C hG (N := 10) (kR4_0 hk) (by decide) dX4_clean_18 h (fun x3 h => ?_)
    refine lv_aload_n hx hb dX4_clean_19 rfl (lv_at hl 0 rfl) ?_
    refine r_getR (d := 2) C hG FX4_15 hk rfl (by decide) dX4_clean_20 ?_
    refine lv_iload_n hx hb dX4_clean_23 rfl (lv_at hl 1 rfl) ?_
    refine r_ild C hG (N := 10) (kR4_1 hk) (by decide) dX4_clean_24 h (fun x4 h => ?_)
    refine r_max C hl.1 LX4_103 ⟨(Nat.le_of_ble_eq_true rfl), (Nat.le_of_ble_eq_true rfl), Nat.zero_le _, Nat.zero_le _⟩ dX4_clean_25 ?_
    refine r_nm h (fun x5 h => ?_)
    refine r_ist C hG (N := 10) (kR4_0 hk) (by decide) dX4_clean_28 h (fun H locs g6 hG h => ?_)
    refine lv_aload_n hx hb dX4_clean_29 rfl (lv_at hl 0 rfl) ?_
    refine r_getR (d := 2) C hG FX4_15 hk rfl (by decide) dX4_clean_30 ?_
    refine lv_iload_n hx hb dX4_clean_33 rfl (lv_at hl 1 rfl) ?_
    refine lv_iconst (v := 0) hx hb dX4_clean_34 (by decide) ?_
    refine lv_aload_n hx hb dX4_clean_35 rfl (lv_at hl 0 rfl) ?_
    refine r_getR (d := 2) C hG FX4_15 hk rfl (by decide) dX4_clean_36 ?_
    refine lv_iload_n hx hb dX4_clean_39 rfl (lv_at hl 1 rfl) ?_
    refine r_ild C hG (N := 10) (kR4_1 hk) (by decide) dX4_clean_40 h (fun x7 h => ?_)
    refine lv_iconst (v := 1) hx hb dX4_clean_41 (by decide) ?_
    refine lv_isub hx hb dX4_clean_42 ?_
    refine r_max C hl.1 LX4_103 ⟨(Nat.le_of_ble_eq_true rfl), (Nat.le_of_ble_eq_true rfl), Nat.zero_le _, Nat.zero_le _⟩ dX4_clean_43 ?_
    refine r_nm h (fun x8 h => ?_)
    refine r_ist C hG (N := 10) (kR4_1 hk) (by decide) dX4_clean_46 h (fun H locs g9 hG h => ?_)
    refine lv_aload_n hx hb dX4_clean_47 rfl (lv_at hl 0 rfl) ?_
    refine lv_iconst (v := 0) hx hb dX4_clean_48 (by decide) ?_
    refine r_putZ C hG FX4_59 hk rfl (by decide) dX4_clean_49 h (fun H locs g10 hG h => ?_)
    exact r_vret C hG hr dX4_clean_52 h
def k4_replace (o : Nat) (a1 : Int32) (g : G) : Option (G) :=
  (k4_has o a1 g).bind fun u1 =>
  if u1 = 0 then
    some g
  else
    sto g (o + 1) 10 a1 100 fun g3 =>
    sto g3 (o + 2) 10 a1 100 fun g4 =>
    (k4_turn o a1 0 g4).bind fun g5 =>
    some g5
set_option maxRecDepth 100000 in
set_option maxHeartbeats 4000000 in
theorem m4_replace (E : EV) (l : Launch) (o : Nat) (hk : kd o = 4) (a1 : Int32) (g : G) : ∀ u, k4_replace o a1 g = some u → MV E l yX4_replace cX4_replace 2 none 2 0 0 [.ref (E.ad o), .int a1] g u := by
  intro u h
  refine MG.of (by decide +kernel) (Nat.le_of_ble_eq_true rfl) ?_
  intro p e s m args below meth c C hr hnm ls hl hG
  have C : Cx p s m args meth c cX4_replace 2 RX4 E := C
  have hx := C.1
  have hb := C.2.1
  have hl : lv_has ls 2 [(0, .ref (E.ad o)), (1, .int a1)] := hl
  unfold k4_replace at h
  refine lv_aload_n hx hb dX4_replace_0 rfl (lv_at hl 0 rfl) ?_
  refine lv_iload_n hx hb dX4_replace_1 rfl (lv_at hl 1 rfl) ?_
  refine r_callVIP C hl.1 hG [.int a1] [] (m4_has E l o hk a1 g) LX4_71 hk KC4 rfl (rm_ok (by decide) (by decide)) (Nat.le_of_ble_eq_true rfl) ⟨Nat.le_refl _, Nat.le_refl _⟩ rfl dX4_replace_2 h (fun u1 H locs hG h => ?_)
  refine lv_if_eq (tgt := 30) hx hb dX4_replace_5 (by decide) (fun c2 => ?_) (fun c2 => ?_)
  · have h := (if_inv h).1 c2
    exact r_vret C hG hr dX4_replace_30 h
  · have h := (if_inv h).2 c2
    refine lv_aload_n hx hb dX4_replace_8 rfl (lv_at hl 0 rfl) ?_
    refine r_getR (d := 1) C hG FX4_9 hk rfl (by decide) dX4_replace_9 ?_
    refine lv_iload_n hx hb dX4_replace_12 rfl (lv_at hl 1 rfl) ?_
    refine lv_bipush (v := 100) hx hb dX4_replace_13 (by decide) ?_
    refine r_ist C hG (N := 10) (kR4_0 hk) (by decide) dX4_replace_15 h (fun H locs g3 hG h => ?_)
    refine lv_aload_n hx hb dX4_replace_16 rfl (lv_at hl 0 rfl) ?_
    refine r_getR (d := 2) C hG FX4_15 hk rfl (by decide) dX4_replace_17 ?_
    refine lv_iload_n hx hb dX4_replace_20 rfl (lv_at hl 1 rfl) ?_
    refine lv_bipush (v := 100) hx hb dX4_replace_21 (by decide) ?_
    refine r_ist C hG (N := 10) (kR4_1 hk) (by decide) dX4_replace_23 h (fun H locs g4 hG h => ?_)
    refine lv_aload_n hx hb dX4_replace_24 rfl (lv_at hl 0 rfl) ?_
    refine lv_iload_n hx hb dX4_replace_25 rfl (lv_at hl 1 rfl) ?_
    refine lv_iconst (v := 0) hx hb dX4_replace_26 (by decide) ?_
    refine r_callVV C hl.1 hG [.int a1, .int 0] [] (m4_turn E l o hk a1 0 g4) LX4_95 hk KC4 rfl (rm_ok (by decide) (by decide)) (Nat.le_of_ble_eq_true rfl) ⟨Nat.le_refl _, Nat.le_refl _⟩ rfl dX4_replace_27 h (fun g5 H locs hG h => ?_)
    exact r_vret C hG hr dX4_replace_30 h
def k4_move_57 (o : Nat) : Nat → Int32 → Int32 → Int32 → G → Option (G)
  | 0, _, _, _, _ => none
  | f + 1, v1, v2, v4, g =>
        if v4 ≤ v2 then
          sto g (o + 4) 10 v2 v1 fun g2 =>
          bd (up g2 o 13 0) fun g3 =>
          some g3
        else
          ld g (o + 4) 10 (v4 - 1) fun x4 =>
          sto g (o + 4) 10 v4 x4 fun g5 =>
          bd (v4 + (-1)) fun x6 =>
          k4_move_57 o f v1 v2 x6 g5
def k4_move_26 (o : Nat) : Nat → Int32 → Int32 → Int32 → Int32 → G → Option (G)
  | 0, _, _, _, _, _ => none
  | f + 1, v1, v2, v3, v4, g =>
        if v2 ≤ v4 then
          k4_move_57 o FU v1 v2 v3 g
        else
          ld g (o + 4) 10 (v4 + 1) fun x8 =>
          sto g (o + 4) 10 v4 x8 fun g9 =>
          bd (v4 + 1) fun x10 =>
          k4_move_26 o f v1 v2 v3 x10 g9
def k4_move (o : Nat) (a1 : Int32) (a2 : Int32) (g : G) : Option (G) :=
  (k4_findPlace o a1 g).bind fun u11 =>
  if u11 < 0 then
    some g
  else
    if a2 < 0 then
      some g
    else
      if a2 < (g o 7) then
        k4_move_26 o FU a1 a2 u11 u11 g
      else
        some g
set_option maxRecDepth 100000 in
set_option maxHeartbeats 4000000 in
theorem m4_move (E : EV) (l : Launch) (o : Nat) (hk : kd o = 4) (a1 : Int32) (a2 : Int32) (g : G) : ∀ u, k4_move o a1 a2 g = some u → MV E l yX4_move cX4_move 5 none 1 0 0 [.ref (E.ad o), .int a1, .int a2] g u := by
  intro u h
  refine MG.of (by decide +kernel) (Nat.le_of_ble_eq_true rfl) ?_
  intro p e s m args below meth c C hr hnm ls hl hG
  have C : Cx p s m args meth c cX4_move 5 RX4 E := C
  have hx := C.1
  have hb := C.2.1
  have hl : lv_has ls 5 [(0, .ref (E.ad o)), (1, .int a1), (2, .int a2)] := hl
  unfold k4_move at h
  have j57 : ∀ f : Nat, ∀ (v1 : Int32) (v2 : Int32) (v4 : Int32) (g : G) (H : Heap) (locs : List Loc) (ls : Array Slot), Gd E s H locs g [] → lv_has ls 5 [(0, .ref (E.ad o)), (1, .int v1), (2, .int v2), (4, .int v4)] → k4_move_57 o f v1 v2 v4 g = some u → W p l e (rmD 1 0 0) s m args below meth c H locs 0 0 (MQ below (QV E s.heap.size u) args s 0 0 (AA E s.heap.size)) (F0 m 57 ls []) := by
    intro f
    induction f with
    | zero =>
      intro v1 v2 v4 g H locs ls hG hl h
      unfold k4_move_57 at h
      cases h
    | succ f ih =>
      intro v1 v2 v4 g H locs ls hG hl h
      unfold k4_move_57 at h
      refine lv_iload hx hb dX4_move_57 (lv_at hl 3 rfl) ?_
      refine lv_iload_n hx hb dX4_move_59 rfl (lv_at hl 2 rfl) ?_
      refine lv_icmp_le (tgt := 85) hx hb dX4_move_60 (by decide) (fun c1 => ?_) (fun c1 => ?_)
      · have h := (if_inv h).1 c1
        refine lv_aload_n hx hb dX4_move_85 rfl (lv_at hl 0 rfl) ?_
        refine r_getR (d := 4) C hG FX4_21 hk rfl (by decide) dX4_move_86 ?_
        refine lv_iload_n hx hb dX4_move_89 rfl (lv_at hl 2 rfl) ?_
        refine lv_iload_n hx hb dX4_move_90 rfl (lv_at hl 1 rfl) ?_
        refine r_ist C hG (N := 10) (kR4_3 hk) (by decide) dX4_move_91 h (fun H locs g2 hG h => ?_)
        refine lv_aload_n hx hb dX4_move_92 rfl (lv_at hl 0 rfl) ?_
        refine lv_iconst (v := 0) hx hb dX4_move_93 (by decide) ?_
        refine r_putZ C hG FX4_59 hk rfl (by decide) dX4_move_94 h (fun H locs g3 hG h => ?_)
        exact r_vret C hG hr dX4_move_97 h
      · have h := (if_inv h).2 c1
        refine lv_aload_n hx hb dX4_move_63 rfl (lv_at hl 0 rfl) ?_
        refine r_getR (d := 4) C hG FX4_21 hk rfl (by decide) dX4_move_64 ?_
        refine lv_iload hx hb dX4_move_67 (lv_at hl 3 rfl) ?_
        refine lv_aload_n hx hb dX4_move_69 rfl (lv_at hl 0 rfl) ?_
        refine r_getR (d := 4) C hG FX4_21 hk rfl (by decide) dX4_move_70 ?_
        refine lv_iload hx hb dX4_move_73 (lv_at hl 3 rfl) ?_
        refine lv_iconst (v := 1) hx hb dX4_move_75 (by decide) ?_
        refine lv_isub hx hb dX4_move_76 ?_
        refine r_ild C hG (N := 10) (kR4_3 hk) (by decide) dX4_move_77 h (fun x4 h => ?_)
        refine r_ist C hG (N := 10) (kR4_3 hk) (by decide) dX4_move_78 h (fun H locs g5 hG h => ?_)
        refine r_iinc (w := (-1)) (lv' := fun x6 => [(4, .int x6), (0, .ref (E.ad o)), (1, .int v1), (2, .int v2)]) C dX4_move_79 hl (k := 3) rfl (by decide) (by decide) (fun _ => rfl) h (fun x6 ls hl h => ?_)
        refine lv_goto (tgt := 57) hx hb dX4_move_82 (by decide) ?_
        exact ih v1 v2 x6 g5 _ _ _ hG (lv_sub hl [1, 2, 3, 0] rfl) h
  have j26 : ∀ f : Nat, ∀ (v1 : Int32) (v2 : Int32) (v3 : Int32) (v4 : Int32) (g : G) (H : Heap) (locs : List Loc) (ls : Array Slot), Gd E s H locs g [] → lv_has ls 5 [(0, .ref (E.ad o)), (1, .int v1), (2, .int v2), (3, .int v3), (4, .int v4)] → k4_move_26 o f v1 v2 v3 v4 g = some u → W p l e (rmD 1 0 0) s m args below meth c H locs 0 0 (MQ below (QV E s.heap.size u) args s 0 0 (AA E s.heap.size)) (F0 m 26 ls []) := by
    intro f
    induction f with
    | zero =>
      intro v1 v2 v3 v4 g H locs ls hG hl h
      unfold k4_move_26 at h
      cases h
    | succ f ih =>
      intro v1 v2 v3 v4 g H locs ls hG hl h
      unfold k4_move_26 at h
      refine lv_iload hx hb dX4_move_26 (lv_at hl 4 rfl) ?_
      refine lv_iload_n hx hb dX4_move_28 rfl (lv_at hl 2 rfl) ?_
      refine lv_icmp_ge (tgt := 54) hx hb dX4_move_29 (by decide) (fun c7 => ?_) (fun c7 => ?_)
      · have h := (if_inv h).1 c7
        refine lv_iload_n hx hb dX4_move_54 rfl (lv_at hl 3 rfl) ?_
        refine lv_istore (lv' := [(4, .int v3), (0, .ref (E.ad o)), (1, .int v1), (2, .int v2), (3, .int v3)]) hx hb dX4_move_55 hl (by decide) rfl (fun ls hl => ?_)
        exact j57 FU v1 v2 v3 g _ _ _ hG (lv_sub hl [1, 2, 3, 0] rfl) h
      · have h := (if_inv h).2 c7
        refine lv_aload_n hx hb dX4_move_32 rfl (lv_at hl 0 rfl) ?_
        refine r_getR (d := 4) C hG FX4_21 hk rfl (by decide) dX4_move_33 ?_
        refine lv_iload hx hb dX4_move_36 (lv_at hl 4 rfl) ?_
        refine lv_aload_n hx hb dX4_move_38 rfl (lv_at hl 0 rfl) ?_
        refine r_getR (d := 4) C hG FX4_21 hk rfl (by decide) dX4_move_39 ?_
        refine lv_iload hx hb dX4_move_42 (lv_at hl 4 rfl) ?_
        refine lv_iconst (v := 1) hx hb dX4_move_44 (by decide) ?_
        refine lv_iadd hx hb dX4_move_45 ?_
        refine r_ild C hG (N := 10) (kR4_3 hk) (by decide) dX4_move_46 h (fun x8 h => ?_)
        refine r_ist C hG (N := 10) (kR4_3 hk) (by decide) dX4_move_47 h (fun H locs g9 hG h => ?_)
        refine r_iinc (w := 1) (lv' := fun x10 => [(4, .int x10), (0, .ref (E.ad o)), (1, .int v1), (2, .int v2), (3, .int v3)]) C dX4_move_48 hl (k := 4) rfl (by decide) (by decide) (fun _ => rfl) h (fun x10 ls hl h => ?_)
        refine lv_goto (tgt := 26) hx hb dX4_move_51 (by decide) ?_
        exact ih v1 v2 v3 x10 g9 _ _ _ hG (lv_sub hl [1, 2, 3, 4, 0] rfl) h
  refine lv_aload_n hx hb dX4_move_0 rfl (lv_at hl 0 rfl) ?_
  refine lv_iload_n hx hb dX4_move_1 rfl (lv_at hl 1 rfl) ?_
  refine r_callVIP C hl.1 hG [.int a1] [] (m4_findPlace E l o hk a1 g) LX4_106 hk KC4 rfl (rm_ok (by decide) (by decide)) (Nat.le_of_ble_eq_true rfl) ⟨Nat.le_refl _, Nat.le_refl _⟩ rfl dX4_move_2 h (fun u11 H locs hG h => ?_)
  refine lv_istore_n (lv' := [(3, .int u11), (0, .ref (E.ad o)), (1, .int a1), (2, .int a2)]) hx hb dX4_move_5 rfl hl (by decide) rfl (fun ls hl => ?_)
  refine lv_iload_n hx hb dX4_move_6 rfl (lv_at hl 0 rfl) ?_
  refine lv_if_lt (tgt := 22) hx hb dX4_move_7 (by decide) (fun c12 => ?_) (fun c12 => ?_)
  · have h := (if_inv h).1 c12
    exact r_vret C hG hr dX4_move_22 h
  · have h := (if_inv h).2 c12
    refine lv_iload_n hx hb dX4_move_10 rfl (lv_at hl 3 rfl) ?_
    refine lv_if_lt (tgt := 22) hx hb dX4_move_11 (by decide) (fun c13 => ?_) (fun c13 => ?_)
    · have h := (if_inv h).1 c13
      exact r_vret C hG hr dX4_move_22 h
    · have h := (if_inv h).2 c13
      refine lv_iload_n hx hb dX4_move_14 rfl (lv_at hl 3 rfl) ?_
      refine lv_aload_n hx hb dX4_move_15 rfl (lv_at hl 1 rfl) ?_
      refine r_getI C hG FX4_54 hk rfl dX4_move_16 ?_
      refine lv_icmp_lt (tgt := 23) hx hb dX4_move_19 (by decide) (fun c14 => ?_) (fun c14 => ?_)
      · have h := (if_inv h).1 c14
        refine lv_iload_n hx hb dX4_move_23 rfl (lv_at hl 0 rfl) ?_
        refine lv_istore (lv' := [(4, .int u11), (3, .int u11), (0, .ref (E.ad o)), (1, .int a1), (2, .int a2)]) hx hb dX4_move_24 hl (by decide) rfl (fun ls hl => ?_)
        exact j26 FU a1 a2 u11 u11 g _ _ _ hG (lv_sub hl [2, 3, 4, 1, 0] rfl) h
      · have h := (if_inv h).2 c14
        exact r_vret C hG hr dX4_move_22 h
