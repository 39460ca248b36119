def k2_clear (o : Nat) (g : G) : Option (G) :=
  bd (up g o 4 0) fun g1 =>
  bd (up g1 o 5 0) fun g2 =>
  bd (up g2 o 6 60) fun g3 =>
  bd (up g3 o 7 1000) fun g4 =>
  bd (up g4 o 8 0) fun g5 =>
  some g5
set_option maxRecDepth 100000 in
set_option maxHeartbeats 4000000 in
theorem m2_clear (E : EV) (l : Launch) (o : Nat) (hk : kd o = 2) (g : G) : ∀ u, k2_clear o g = some u → MV E l yX2_clear cX2_clear 1 none 0 0 0 [.ref (E.ad o)] g u := by
  intro u h
  refine MG.of (by decide +kernel) (Nat.le_of_ble_eq_true rfl) ?_
  intro p e s m args below meth c C hr hnm ls hl hG
  have C : Cx p s m args meth c cX2_clear 1 RX2 E := C
  have hx := C.1
  have hb := C.2.1
  have hl : lv_has ls 1 [(0, .ref (E.ad o))] := hl
  unfold k2_clear at h
  refine lv_aload_n hx hb dX2_clear_0 rfl (lv_at hl 0 rfl) ?_
  refine lv_iconst (v := 0) hx hb dX2_clear_1 (by decide) ?_
  refine r_putI C hG FX2_31 hk rfl dX2_clear_2 h (fun H locs g1 hG h => ?_)
  refine lv_aload_n hx hb dX2_clear_5 rfl (lv_at hl 0 rfl) ?_
  refine lv_iconst (v := 0) hx hb dX2_clear_6 (by decide) ?_
  refine r_putI C hG FX2_34 hk rfl dX2_clear_7 h (fun H locs g2 hG h => ?_)
  refine lv_aload_n hx hb dX2_clear_10 rfl (lv_at hl 0 rfl) ?_
  refine lv_bipush (v := 60) hx hb dX2_clear_11 (by decide) ?_
  refine r_putI C hG FX2_24 hk rfl dX2_clear_13 h (fun H locs g3 hG h => ?_)
  refine lv_aload_n hx hb dX2_clear_16 rfl (lv_at hl 0 rfl) ?_
  refine lv_sipush (v := 1000) hx hb dX2_clear_17 (by decide) ?_
  refine r_putI C hG FX2_28 hk rfl dX2_clear_20 h (fun H locs g4 hG h => ?_)
  refine lv_aload_n hx hb dX2_clear_23 rfl (lv_at hl 0 rfl) ?_
  refine lv_iconst (v := 0) hx hb dX2_clear_24 (by decide) ?_
  refine r_putI C hG FX2_37 hk rfl dX2_clear_25 h (fun H locs g5 hG h => ?_)
  exact r_vret C hG hr dX2_clear_28 h
def k2_write (o : Nat) (a1 : Int32) (a2 : Int32) (g : G) : Option (G) :=
  if 400 ≤ (g o 8) then
    some g
  else
    sto g (o + 3) 400 (g o 8) a1 fun g2 =>
    sto g2 (o + 4) 400 (g2 o 8) a2 fun g3 =>
    bd (up g3 o 8 ((g3 o 8) + 1)) fun g4 =>
    some g4
set_option maxRecDepth 100000 in
set_option maxHeartbeats 4000000 in
theorem m2_write (E : EV) (l : Launch) (o : Nat) (hk : kd o = 2) (a1 : Int32) (a2 : Int32) (g : G) : ∀ u, k2_write o a1 a2 g = some u → MV E l yX2_write cX2_write 3 none 0 0 0 [.ref (E.ad o), .int a1, .int a2] g u := by
  intro u h
  refine MG.of (by decide +kernel) (Nat.le_of_ble_eq_true rfl) ?_
  intro p e s m args below meth c C hr hnm ls hl hG
  have C : Cx p s m args meth c cX2_write 3 RX2 E := C
  have hx := C.1
  have hb := C.2.1
  have hl : lv_has ls 3 [(0, .ref (E.ad o)), (1, .int a1), (2, .int a2)] := hl
  unfold k2_write at h
  refine lv_aload_n hx hb dX2_write_0 rfl (lv_at hl 0 rfl) ?_
  refine r_getI C hG FX2_37 hk rfl dX2_write_1 ?_
  refine lv_sipush (v := 400) hx hb dX2_write_4 (by decide) ?_
  refine lv_icmp_ge (tgt := 40) hx hb dX2_write_7 (by decide) (fun c1 => ?_) (fun c1 => ?_)
  · have h := (if_inv h).1 c1
    exact r_vret C hG hr dX2_write_40 h
  · have h := (if_inv h).2 c1
    refine lv_aload_n hx hb dX2_write_10 rfl (lv_at hl 0 rfl) ?_
    refine r_getR (d := 3) C hG FX2_18 hk rfl (by decide) dX2_write_11 ?_
    refine lv_aload_n hx hb dX2_write_14 rfl (lv_at hl 0 rfl) ?_
    refine r_getI C hG FX2_37 hk rfl dX2_write_15 ?_
    refine lv_iload_n hx hb dX2_write_18 rfl (lv_at hl 1 rfl) ?_
    refine r_ist C hG (N := 400) (kR2_2 hk) (by decide) dX2_write_19 h (fun H locs g2 hG h => ?_)
    refine lv_aload_n hx hb dX2_write_20 rfl (lv_at hl 0 rfl) ?_
    refine r_getR (d := 4) C hG FX2_21 hk rfl (by decide) dX2_write_21 ?_
    refine lv_aload_n hx hb dX2_write_24 rfl (lv_at hl 0 rfl) ?_
    refine r_getI C hG FX2_37 hk rfl dX2_write_25 ?_
    refine lv_iload_n hx hb dX2_write_28 rfl (lv_at hl 2 rfl) ?_
    refine r_ist C hG (N := 400) (kR2_3 hk) (by decide) dX2_write_29 h (fun H locs g3 hG h => ?_)
    refine lv_aload_n hx hb dX2_write_30 rfl (lv_at hl 0 rfl) ?_
    refine lv_dup hx hb dX2_write_31 rfl ?_
    refine r_getI C hG FX2_37 hk rfl dX2_write_32 ?_
    refine lv_iconst (v := 1) hx hb dX2_write_35 (by decide) ?_
    refine lv_iadd hx hb dX2_write_36 ?_
    refine r_putI C hG FX2_37 hk rfl dX2_write_37 h (fun H locs g4 hG h => ?_)
    exact r_vret C hG hr dX2_write_40 h
def k2_tellClarity (o : Nat) (a1 : Int32) (g : G) : Option (G) :=
  if (g o 4) ≤ 0 then
    some g
  else
    if 10 < (g o 4) then
      some g
    else
      sto g (o + 1) 10 ((g o 4) - 1) a1 fun g3 =>
      some g3
set_option maxRecDepth 100000 in
set_option maxHeartbeats 4000000 in
theorem m2_tellClarity (E : EV) (l : Launch) (o : Nat) (hk : kd o = 2) (a1 : Int32) (g : G) : ∀ u, k2_tellClarity o a1 g = some u → MV E l yX2_tellClarity cX2_tellClarity 2 none 0 0 0 [.ref (E.ad o), .int a1] g u := by
  intro u h
  refine MG.of (by decide +kernel) (Nat.le_of_ble_eq_true rfl) ?_
  intro p e s m args below meth c C hr hnm ls hl hG
  have C : Cx p s m args meth c cX2_tellClarity 2 RX2 E := C
  have hx := C.1
  have hb := C.2.1
  have hl : lv_has ls 2 [(0, .ref (E.ad o)), (1, .int a1)] := hl
  unfold k2_tellClarity at h
  refine lv_aload_n hx hb dX2_tellClarity_0 rfl (lv_at hl 0 rfl) ?_
  refine r_getI C hG FX2_31 hk rfl dX2_tellClarity_1 ?_
  refine lv_if_le (tgt := 28) hx hb dX2_tellClarity_4 (by decide) (fun c1 => ?_) (fun c1 => ?_)
  · have h := (if_inv h).1 c1
    exact r_vret C hG hr dX2_tellClarity_28 h
  · have h := (if_inv h).2 c1
    refine lv_aload_n hx hb dX2_tellClarity_7 rfl (lv_at hl 0 rfl) ?_
    refine r_getI C hG FX2_31 hk rfl dX2_tellClarity_8 ?_
    refine lv_bipush (v := 10) hx hb dX2_tellClarity_11 (by decide) ?_
    refine lv_icmp_gt (tgt := 28) hx hb dX2_tellClarity_13 (by decide) (fun c2 => ?_) (fun c2 => ?_)
    · have h := (if_inv h).1 c2
      exact r_vret C hG hr dX2_tellClarity_28 h
    · have h := (if_inv h).2 c2
      refine lv_aload_n hx hb dX2_tellClarity_16 rfl (lv_at hl 0 rfl) ?_
      refine r_getR (d := 1) C hG FX2_9 hk rfl (by decide) dX2_tellClarity_17 ?_
      refine lv_aload_n hx hb dX2_tellClarity_20 rfl (lv_at hl 0 rfl) ?_
      refine r_getI C hG FX2_31 hk rfl dX2_tellClarity_21 ?_
      refine lv_iconst (v := 1) hx hb dX2_tellClarity_24 (by decide) ?_
      refine lv_isub hx hb dX2_tellClarity_25 ?_
      refine lv_iload_n hx hb dX2_tellClarity_26 rfl (lv_at hl 1 rfl) ?_
      refine r_ist C hG (N := 10) (kR2_0 hk) (by decide) dX2_tellClarity_27 h (fun H locs g3 hG h => ?_)
      exact r_vret C hG hr dX2_tellClarity_28 h
def k2_tellOffset (o : Nat) (a1 : Int32) (g : G) : Option (G) :=
  if (g o 4) ≤ 0 then
    some g
  else
    if 10 < (g o 4) then
      some g
    else
      sto g (o + 2) 10 ((g o 4) - 1) a1 fun g3 =>
      some g3
set_option maxRecDepth 100000 in
set_option maxHeartbeats 4000000 in
theorem m2_tellOffset (E : EV) (l : Launch) (o : Nat) (hk : kd o = 2) (a1 : Int32) (g : G) : ∀ u, k2_tellOffset o a1 g = some u → MV E l yX2_tellOffset cX2_tellOffset 2 none 0 0 0 [.ref (E.ad o), .int a1] g u := by
  intro u h
  refine MG.of (by decide +kernel) (Nat.le_of_ble_eq_true rfl) ?_
  intro p e s m args below meth c C hr hnm ls hl hG
  have C : Cx p s m args meth c cX2_tellOffset 2 RX2 E := C
  have hx := C.1
  have hb := C.2.1
  have hl : lv_has ls 2 [(0, .ref (E.ad o)), (1, .int a1)] := hl
  unfold k2_tellOffset at h
  refine lv_aload_n hx hb dX2_tellOffset_0 rfl (lv_at hl 0 rfl) ?_
  refine r_getI C hG FX2_31 hk rfl dX2_tellOffset_1 ?_
  refine lv_if_le (tgt := 28) hx hb dX2_tellOffset_4 (by decide) (fun c1 => ?_) (fun c1 => ?_)
  · have h := (if_inv h).1 c1
    exact r_vret C hG hr dX2_tellOffset_28 h
  · have h := (if_inv h).2 c1
    refine lv_aload_n hx hb dX2_tellOffset_7 rfl (lv_at hl 0 rfl) ?_
    refine r_getI C hG FX2_31 hk rfl dX2_tellOffset_8 ?_
    refine lv_bipush (v := 10) hx hb dX2_tellOffset_11 (by decide) ?_
    refine lv_icmp_gt (tgt := 28) hx hb dX2_tellOffset_13 (by decide) (fun c2 => ?_) (fun c2 => ?_)
    · have h := (if_inv h).1 c2
      exact r_vret C hG hr dX2_tellOffset_28 h
    · have h := (if_inv h).2 c2
      refine lv_aload_n hx hb dX2_tellOffset_16 rfl (lv_at hl 0 rfl) ?_
      refine r_getR (d := 2) C hG FX2_15 hk rfl (by decide) dX2_tellOffset_17 ?_
      refine lv_aload_n hx hb dX2_tellOffset_20 rfl (lv_at hl 0 rfl) ?_
      refine r_getI C hG FX2_31 hk rfl dX2_tellOffset_21 ?_
      refine lv_iconst (v := 1) hx hb dX2_tellOffset_24 (by decide) ?_
      refine lv_isub hx hb dX2_tellOffset_25 ?_
      refine lv_iload_n hx hb dX2_tellOffset_26 rfl (lv_at hl 1 rfl) ?_
      refine r_ist C hG (N := 10) (kR2_1 hk) (by decide) dX2_tellOffset_27 h (fun H locs g3 hG h => ?_)
      exact r_vret C hG hr dX2_tellOffset_28 h
def k2_takeOver_72 (o : Nat) (o1 : Nat) : Nat → Int32 → G → Option (G)
  | 0, _, _ => none
  | f + 1, v3, g =>
        if (g o 8) ≤ v3 then
          some g
        else
          if 400 ≤ v3 then
            some g
          else
            ld g (o1 + 3) 400 v3 fun x3 =>
            sto g (o + 3) 400 v3 x3 fun g4 =>
            ld g4 (o1 + 4) 400 v3 fun x5 =>
            (k6_valueAt x5 g4).bind fun u6 =>
            sto g4 (o + 4) 400 v3 u6 fun g7 =>
            bd (v3 + 1) fun x8 =>
            k2_takeOver_72 o o1 f x8 g7
def k2_takeOver (o : Nat) (o1 : Nat) (g : G) : Option (G) :=
  bd (cpy g (o1 + 1) (o + 1) 10) fun g9 =>
  bd (cpy g9 (o1 + 2) (o + 2) 10) fun g10 =>
  bd (up g10 o 4 (g10 o1 4)) fun g11 =>
  bd (up g11 o 5 (g11 o1 5)) fun g12 =>
  bd (up g12 o 6 (g12 o1 6)) fun g13 =>
  bd (up g13 o 7 (g13 o1 7)) fun g14 =>
  bd (up g14 o 8 (g14 o1 8)) fun g15 =>
  k2_takeOver_72 o o1 FU 0 g15
set_option maxRecDepth 100000 in
set_option maxHeartbeats 4000000 in
theorem m2_takeOver (E : EV) (l : Launch) (o : Nat) (o1 : Nat) (hk : kd o = 2) (hk1 : kd o1 = 2) (g : G) : ∀ u, k2_takeOver o o1 g = some u → MV E l yX2_takeOver cX2_takeOver 4 none 1 0 0 [.ref (E.ad o), .ref (E.ad o1), .ref (E.ad 3)] g u := by
  intro u h
  refine MG.of (by decide +kernel) (Nat.le_of_ble_eq_true rfl) ?_
  intro p e s m args below meth c C hr hnm ls hl hG
  have C : Cx p s m args meth c cX2_takeOver 4 RX2 E := C
  have hx := C.1
  have hb := C.2.1
  have hl : lv_has ls 4 [(0, .ref (E.ad o)), (1, .ref (E.ad o1)), (2, .ref (E.ad 3))] := hl
  unfold k2_takeOver at h
  have j72 : ∀ f : Nat, ∀ (v3 : Int32) (g : G) (H : Heap) (locs : List Loc) (ls : Array Slot), Gd E s H locs g [] → lv_has ls 4 [(0, .ref (E.ad o)), (1, .ref (E.ad o1)), (2, .ref (E.ad 3)), (3, .int v3)] → k2_takeOver_72 o o1 f v3 g = some u → W p l e (rmD 1 0 0) s m args below meth c H locs 0 0 (MQ below (QV E s.heap.size u) args s 0 0 (AA E s.heap.size)) (F0 m 72 ls []) := by
    intro f
    induction f with
    | zero =>
      intro v3 g H locs ls hG hl h
      unfold k2_takeOver_72 at h
      cases h
    | succ f ih =>
      intro v3 g H locs ls hG hl h
      unfold k2_takeOver_72 at h
      refine lv_iload_n hx hb dX2_takeOver_72 rfl (lv_at hl 3 rfl) ?_
      refine lv_aload_n hx hb dX2_takeOver_73 rfl (lv_at hl 0 rfl) ?_
      refine r_getI C hG FX2_37 hk rfl dX2_takeOver_74 ?_
      refine lv_icmp_ge (tgt := 121) hx hb dX2_takeOver_77 (by decide) (fun c1 => ?_) (fun c1 => ?_)
      · have h := (if_inv h).1 c1
        exact r_vret C hG hr dX2_takeOver_121 h
      · have h := (if_inv h).2 c1
        refine lv_iload_n hx hb dX2_takeOver_80 rfl (lv_at hl 3 rfl) ?_
        refine lv_sipush (v := 400) hx hb dX2_takeOver_81 (by decide) ?_
        refine lv_icmp_ge (tgt := 121) hx hb dX2_takeOver_84 (by decide) (fun c2 => ?_) (fun c2 => ?_)
        · have h := (if_inv h).1 c2
          exact r_vret C hG hr dX2_takeOver_121 h
        · have h := (if_inv h).2 c2
          refine lv_aload_n hx hb dX2_takeOver_87 rfl (lv_at hl 0 rfl) ?_
          refine r_getR (d := 3) C hG FX2_18 hk rfl (by decide) dX2_takeOver_88 ?_
          refine lv_iload_n hx hb dX2_takeOver_91 rfl (lv_at hl 3 rfl) ?_
          refine lv_aload_n hx hb dX2_takeOver_92 rfl (lv_at hl 1 rfl) ?_
          refine r_getR (d := 3) C hG FX2_18 hk1 rfl (by decide) dX2_takeOver_93 ?_
          refine lv_iload_n hx hb dX2_takeOver_96 rfl (lv_at hl 3 rfl) ?_
          refine r_ild C hG (N := 400) (kR2_2 hk1) (by decide) dX2_takeOver_97 h (fun x3 h => ?_)
          refine r_ist C hG (N := 400) (kR2_2 hk) (by decide) dX2_takeOver_98 h (fun H locs g4 hG h => ?_)
          refine lv_aload_n hx hb dX2_takeOver_99 rfl (lv_at hl 0 rfl) ?_
          refine r_getR (d := 4) C hG FX2_21 hk rfl (by decide) dX2_takeOver_100 ?_
          refine lv_iload_n hx hb dX2_takeOver_103 rfl (lv_at hl 3 rfl) ?_
          refine lv_aload_n hx hb dX2_takeOver_104 rfl (lv_at hl 2 rfl) ?_
          refine lv_aload_n hx hb dX2_takeOver_105 rfl (lv_at hl 1 rfl) ?_
          refine r_getR (d := 4) C hG FX2_21 hk1 rfl (by decide) dX2_takeOver_106 ?_
          refine lv_iload_n hx hb dX2_takeOver_109 rfl (lv_at hl 3 rfl) ?_
          refine r_ild C hG (N := 400) (kR2_3 hk1) (by decide) dX2_takeOver_110 h (fun x5 h => ?_)
          refine r_callVIP C hl.1 hG [.int x5] [.int v3, .ref (E.ad (o + 4))] (m6_valueAt E l x5 g4) LX2_46 rfl KC6 rfl (rm_ok (by decide) (by decide)) (Nat.le_of_ble_eq_true rfl) ⟨Nat.le_refl _, Nat.le_refl _⟩ rfl dX2_takeOver_111 h (fun u6 H locs hG h => ?_)
          refine r_ist C hG (N := 400) (kR2_3 hk) (by decide) dX2_takeOver_114 h (fun H locs g7 hG h => ?_)
          refine r_iinc (w := 1) (lv' := fun x8 => [(3, .int x8), (0, .ref (E.ad o)), (1, .ref (E.ad o1)), (2, .ref (E.ad 3))]) C dX2_takeOver_115 hl (k := 3) rfl (by decide) (by decide) (fun _ => rfl) h (fun x8 ls hl h => ?_)
          refine lv_goto (tgt := 72) hx hb dX2_takeOver_118 (by decide) ?_
          exact ih x8 g7 _ _ _ hG (lv_sub hl [1, 2, 3, 0] rfl) h
  refine lv_aload_n hx hb dX2_takeOver_0 rfl (lv_at hl 1 rfl) ?_
  refine r_getR (d := 1) C hG FX2_9 hk1 rfl (by decide) dX2_takeOver_1 ?_
  refine lv_iconst (v := 0) hx hb dX2_takeOver_4 (by decide) ?_
  refine lv_aload_n hx hb dX2_takeOver_5 rfl (lv_at hl 0 rfl) ?_
  refine r_getR (d := 1) C hG FX2_9 hk rfl (by decide) dX2_takeOver_6 ?_
  refine lv_iconst (v := 0) hx hb dX2_takeOver_9 (by decide) ?_
  refine lv_bipush (v := 10) hx hb dX2_takeOver_10 (by decide) ?_
  refine r_cpy C hl.1 hG (N := 10) LX2_40 (kR2_0 hk1) (kR2_0 hk) (by decide) rfl ⟨(Nat.le_of_ble_eq_true rfl), (by decide +kernel)⟩ dX2_takeOver_12 h (fun H locs g9 hG h => ?_)
  refine lv_aload_n hx hb dX2_takeOver_15 rfl (lv_at hl 1 rfl) ?_
  refine r_getR (d := 2) C hG FX2_15 hk1 rfl (by decide) dX2_takeOver_16 ?_
  refine lv_iconst (v := 0) hx hb dX2_takeOver_19 (by decide) ?_
  refine lv_aload_n hx hb dX2_takeOver_20 rfl (lv_at hl 0 rfl) ?_
  refine r_getR (d := 2) C hG FX2_15 hk rfl (by decide) dX2_takeOver_21 ?_
  refine lv_iconst (v := 0) hx hb dX2_takeOver_24 (by decide) ?_
  refine lv_bipush (v := 10) hx hb dX2_takeOver_25 (by decide) ?_
  refine r_cpy C hl.1 hG (N := 10) LX2_40 (kR2_1 hk1) (kR2_1 hk) (by decide) rfl ⟨(Nat.le_of_ble_eq_true rfl), (by decide +kernel)⟩ dX2_takeOver_27 h (fun H locs g10 hG h => ?_)
  refine lv_aload_n hx hb dX2_takeOver_30 rfl (lv_at hl 0 rfl) ?_
  refine lv_aload_n hx hb dX2_takeOver_31 rfl (lv_at hl 1 rfl) ?_
  refine r_getI C hG FX2_31 hk1 rfl dX2_takeOver_32 ?_
  refine r_putI C hG FX2_31 hk rfl dX2_takeOver_35 h (fun H locs g11 hG h => ?_)
  refine lv_aload_n hx hb dX2_takeOver_38 rfl (lv_at hl 0 rfl) ?_
  refine lv_aload_n hx hb dX2_takeOver_39 rfl (lv_at hl 1 rfl) ?_
  refine r_getI C hG FX2_34 hk1 rfl dX2_takeOver_40 ?_
  refine r_putI C hG FX2_34 hk rfl dX2_takeOver_43 h (fun H locs g12 hG h => ?_)
  refine lv_aload_n hx hb dX2_takeOver_46 rfl (lv_at hl 0 rfl) ?_
  refine lv_aload_n hx hb dX2_takeOver_47 rfl (lv_at hl 1 rfl) ?_
  refine r_getI C hG FX2_24 hk1 rfl dX2_takeOver_48 ?_
  refine r_putI C hG FX2_24 hk rfl dX2_takeOver_51 h (fun H locs g13 hG h => ?_)
  refine lv_aload_n hx hb dX2_takeOver_54 rfl (lv_at hl 0 rfl) ?_
  refine lv_aload_n hx hb dX2_takeOver_55 rfl (lv_at hl 1 rfl) ?_
  refine r_getI C hG FX2_28 hk1 rfl dX2_takeOver_56 ?_
  refine r_putI C hG FX2_28 hk rfl dX2_takeOver_59 h (fun H locs g14 hG h => ?_)
  refine lv_aload_n hx hb dX2_takeOver_62 rfl (lv_at hl 0 rfl) ?_
  refine lv_aload_n hx hb dX2_takeOver_63 rfl (lv_at hl 1 rfl) ?_
  refine r_getI C hG FX2_37 hk1 rfl dX2_takeOver_64 ?_
  refine r_putI C hG FX2_37 hk rfl dX2_takeOver_67 h (fun H locs g15 hG h => ?_)
  refine lv_iconst (v := 0) hx hb dX2_takeOver_70 (by decide) ?_
  refine lv_istore_n (lv' := [(3, .int 0), (0, .ref (E.ad o)), (1, .ref (E.ad o1)), (2, .ref (E.ad 3))]) hx hb dX2_takeOver_71 rfl hl (by decide) rfl (fun ls hl => ?_)
  exact j72 FU 0 g15 _ _ _ hG (lv_sub hl [1, 2, 3, 0] rfl) h
