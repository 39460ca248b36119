def k9_become (o : Nat) (o1 : Nat) (g : G) : Option (G) :=
  (k10_copy (o1 + 1) (o + 1) 10 g).bind fun g1 =>
  (k10_copy (o1 + 2) (o + 2) 10 g1).bind fun g2 =>
  (k10_copy (o1 + 3) (o + 3) 10 g2).bind fun g3 =>
  (k10_copy (o1 + 4) (o + 4) 10 g3).bind fun g4 =>
  (k10_copy (o1 + 5) (o + 5) 12 g4).bind fun g5 =>
  (k10_copy (o1 + 6) (o + 6) 12 g5).bind fun g6 =>
  bd (up g6 o 6 (g6 o1 6)) fun g7 =>
  bd (up g7 o 7 (g7 o1 7)) fun g8 =>
  bd (up g8 o 8 (g8 o1 8)) fun g9 =>
  bd (up g9 o 9 (g9 o1 9)) fun g10 =>
  some g10
set_option maxRecDepth 100000 in
set_option maxHeartbeats 4000000 in
theorem m9_become (E : EV) (l : Launch) (o : Nat) (o1 : Nat) (hk : kd o = 9) (hk1 : kd o1 = 9) (g : G) : ∀ u, k9_become o o1 g = some u → MV E l yX9_become cX9_become 2 none 2 0 0 [.ref (E.ad o), .ref (E.ad o1)] g u := by
  intro u h
  refine MG.of (by decide +kernel) (Nat.le_of_ble_eq_true rfl) ?_
  intro p e s m args below meth c C hr hnm ls hl hG
  have C : Cx p s m args meth c cX9_become 2 RX9 E := C
  have hx := C.1
  have hb := C.2.1
  have hl : lv_has ls 2 [(0, .ref (E.ad o)), (1, .ref (E.ad o1))] := hl
  unfold k9_become at h
  refine lv_aload_n hx hb dX9_become_0 rfl (lv_at hl 1 rfl) ?_
  refine r_getR (d := 1) C hG FX9_9 hk1 rfl (by decide) dX9_become_1 ?_
  refine lv_aload_n hx hb dX9_become_4 rfl (lv_at hl 0 rfl) ?_
  refine r_getR (d := 1) C hG FX9_9 hk rfl (by decide) dX9_become_5 ?_
  refine r_callSV C hl.1 hG [.ref (E.ad (o1 + 1)), .ref (E.ad (o + 1))] [] (m10_copy E l (o1 + 1) (o + 1) 10 (kR9_0 hk1) (kR9_0 hk) (by decide) g) LX9_30 rfl (rm_ok (by decide) (by decide)) (Nat.le_of_ble_eq_true rfl) ⟨Nat.le_refl _, Nat.le_refl _⟩ rfl dX9_become_8 h (fun g1 H locs hG h => ?_)
  refine lv_aload_n hx hb dX9_become_11 rfl (lv_at hl 1 rfl) ?_
  refine r_getR (d := 2) C hG FX9_15 hk1 rfl (by decide) dX9_become_12 ?_
  refine lv_aload_n hx hb dX9_become_15 rfl (lv_at hl 0 rfl) ?_
  refine r_getR (d := 2) C hG FX9_15 hk rfl (by decide) dX9_become_16 ?_
  refine r_callSV C hl.1 hG [.ref (E.ad (o1 + 2)), .ref (E.ad (o + 2))] [] (m10_copy E l (o1 + 2) (o + 2) 10 (kR9_1 hk1) (kR9_1 hk) (by decide) g1) LX9_30 rfl (rm_ok (by decide) (by decide)) (Nat.le_of_ble_eq_true rfl) ⟨Nat.le_refl _, Nat.le_refl _⟩ rfl dX9_become_19 h (fun g2 H locs hG h => ?_)
  refine lv_aload_n hx hb dX9_become_22 rfl (lv_at hl 1 rfl) ?_
  refine r_getR (d := 3) C hG FX9_18 hk1 rfl (by decide) dX9_become_23 ?_
  refine lv_aload_n hx hb dX9_become_26 rfl (lv_at hl 0 rfl) ?_
  refine r_getR (d := 3) C hG FX9_18 hk rfl (by decide) dX9_become_27 ?_
  refine r_callSV C hl.1 hG [.ref (E.ad (o1 + 3)), .ref (E.ad (o + 3))] [] (m10_copy E l (o1 + 3) (o + 3) 10 (kR9_2 hk1) (kR9_2 hk) (by decide) g2) LX9_30 rfl (rm_ok (by decide) (by decide)) (Nat.le_of_ble_eq_true rfl) ⟨Nat.le_refl _, Nat.le_refl _⟩ rfl dX9_become_30 h (fun g3 H locs hG h => ?_)
  refine lv_aload_n hx hb dX9_become_33 rfl (lv_at hl 1 rfl) ?_
  refine r_getR (d := 4) C hG FX9_21 hk1 rfl (by decide) dX9_become_34 ?_
  refine lv_aload_n hx hb dX9_become_37 rfl (lv_at hl 0 rfl) ?_
  refine r_getR (d := 4) C hG FX9_21 hk rfl (by decide) dX9_become_38 ?_
  refine r_callSV C hl.1 hG [.ref (E.ad (o1 + 4)), .ref (E.ad (o + 4))] [] (m10_copy E l (o1 + 4) (o + 4) 10 (kR9_3 hk1) (kR9_3 hk) (by decide) g3) LX9_30 rfl (rm_ok (by decide) (by decide)) (Nat.le_of_ble_eq_true rfl) ⟨Nat.le_refl _, Nat.le_refl _⟩ rfl dX9_become_41 h (fun g4 H locs hG h => ?_)
  refine lv_aload_n hx hb dX9_become_44 rfl (lv_at hl 1 rfl) ?_
  refine r_getR (d := 5) C hG FX9_24 hk1 rfl (by decide) dX9_become_45 ?_
  refine lv_aload_n hx hb dX9_become_48 rfl (lv_at hl 0 rfl) ?_
  refine r_getR (d := 5) C hG FX9_24 hk rfl (by decide) dX9_become_49 ?_
  refine r_callSV C hl.1 hG [.ref (E.ad (o1 + 5)), .ref (E.ad (o + 5))] [] (m10_copy E l (o1 + 5) (o + 5) 12 (kR9_4 hk1) (kR9_4 hk) (by decide) g4) LX9_30 rfl (rm_ok (by decide) (by decide)) (Nat.le_of_ble_eq_true rfl) ⟨Nat.le_refl _, Nat.le_refl _⟩ rfl dX9_become_52 h (fun g5 H locs hG h => ?_)
  refine lv_aload_n hx hb dX9_become_55 rfl (lv_at hl 1 rfl) ?_
  refine r_getR (d := 6) C hG FX9_27 hk1 rfl (by decide) dX9_become_56 ?_
  refine lv_aload_n hx hb dX9_become_59 rfl (lv_at hl 0 rfl) ?_
  refine r_getR (d := 6) C hG FX9_27 hk rfl (by decide) dX9_become_60 ?_
  refine r_callSV C hl.1 hG [.ref (E.ad (o1 + 6)), .ref (E.ad (o + 6))] [] (m10_copy E l (o1 + 6) (o + 6) 12 (kR9_5 hk1) (kR9_5 hk) (by decide) g5) LX9_30 rfl (rm_ok (by decide) (by decide)) (Nat.le_of_ble_eq_true rfl) ⟨Nat.le_refl _, Nat.le_refl _⟩ rfl dX9_become_63 h (fun g6 H locs hG h => ?_)
  refine lv_aload_n hx hb dX9_become_66 rfl (lv_at hl 0 rfl) ?_
  refine lv_aload_n hx hb dX9_become_67 rfl (lv_at hl 1 rfl) ?_
  refine r_getI C hG FX9_36 hk1 rfl dX9_become_68 ?_
  refine r_putI C hG FX9_36 hk rfl dX9_become_71 h (fun H locs g7 hG h => ?_)
  refine lv_aload_n hx hb dX9_become_74 rfl (lv_at hl 0 rfl) ?_
  refine lv_aload_n hx hb dX9_become_75 rfl (lv_at hl 1 rfl) ?_
  refine r_getI C hG FX9_40 hk1 rfl dX9_become_76 ?_
  refine r_putI C hG FX9_40 hk rfl dX9_become_79 h (fun H locs g8 hG h => ?_)
  refine lv_aload_n hx hb dX9_become_82 rfl (lv_at hl 0 rfl) ?_
  refine lv_aload_n hx hb dX9_become_83 rfl (lv_at hl 1 rfl) ?_
  refine r_getI C hG FX9_43 hk1 rfl dX9_become_84 ?_
  refine r_putI C hG FX9_43 hk rfl dX9_become_87 h (fun H locs g9 hG h => ?_)
  refine lv_aload_n hx hb dX9_become_90 rfl (lv_at hl 0 rfl) ?_
  refine lv_aload_n hx hb dX9_become_91 rfl (lv_at hl 1 rfl) ?_
  refine r_getI C hG FX9_46 hk1 rfl dX9_become_92 ?_
  refine r_putI C hG FX9_46 hk rfl dX9_become_95 h (fun H locs g10 hG h => ?_)
  exact r_vret C hG hr dX9_become_98 h
def k9_begin_2 (o : Nat) (o1 : Nat) : Nat → Int32 → G → Option (G)
  | 0, _, _ => none
  | f + 1, v2, g =>
        if (g o1 0) ≤ v2 then
          bd (up g o 6 0) fun g2 =>
          bd (up g2 o 7 0) fun g3 =>
          bd (up g3 o 8 0) fun g4 =>
          bd (up g4 o 9 0) fun g5 =>
          some g5
        else
          ld g (o1 + 1) 11 v2 fun x6 =>
          sto g (o + 1) 10 v2 x6 fun g7 =>
          sto g7 (o + 2) 10 v2 100 fun g8 =>
          ld g8 (o1 + 2) 11 v2 fun x9 =>
          sto g8 (o + 3) 10 v2 x9 fun g10 =>
          sto g10 (o + 4) 10 v2 v2 fun g11 =>
          bd (v2 + 1) fun x12 =>
          k9_begin_2 o o1 f x12 g11
def k9_begin (o : Nat) (o1 : Nat) (g : G) : Option (G) :=
  k9_begin_2 o o1 FU 0 g
set_option maxRecDepth 100000 in
set_option maxHeartbeats 4000000 in
theorem m9_begin (E : EV) (l : Launch) (o : Nat) (o1 : Nat) (hk : kd o = 9) (hk1 : kd o1 = 10) (g : G) : ∀ u, k9_begin o o1 g = some u → MV E l yX9_begin cX9_begin 3 none 0 0 0 [.ref (E.ad o), .ref (E.ad o1)] g u := by
  intro u h
  refine MG.of (by decide +kernel) (Nat.le_of_ble_eq_true rfl) ?_
  intro p e s m args below meth c C hr hnm ls hl hG
  have C : Cx p s m args meth c cX9_begin 3 RX9 E := C
  have hx := C.1
  have hb := C.2.1
  have hl : lv_has ls 3 [(0, .ref (E.ad o)), (1, .ref (E.ad o1))] := hl
  unfold k9_begin at h
  have j2 : ∀ f : Nat, ∀ (v2 : Int32) (g : G) (H : Heap) (locs : List Loc) (ls : Array Slot), Gd E s H locs g [] → lv_has ls 3 [(0, .ref (E.ad o)), (1, .ref (E.ad o1)), (2, .int v2)] → k9_begin_2 o o1 f v2 g = some u → W p l e (rmD 0 0 0) s m args below meth c H locs 0 0 (MQ below (QV E s.heap.size u) args s 0 0 (AA E s.heap.size)) (F0 m 2 ls []) := by
    intro f
    induction f with
    | zero =>
      intro v2 g H locs ls hG hl h
      unfold k9_begin_2 at h
      cases h
    | succ f ih =>
      intro v2 g H locs ls hG hl h
      unfold k9_begin_2 at h
      refine lv_iload_n hx hb dX9_begin_2 rfl (lv_at hl 2 rfl) ?_
      refine lv_aload_n hx hb dX9_begin_3 rfl (lv_at hl 1 rfl) ?_
      refine r_getI C hG FX9_49 hk1 rfl dX9_begin_4 ?_
      refine lv_icmp_ge (tgt := 55) hx hb dX9_begin_7 (by decide) (fun c1 => ?_) (fun c1 => ?_)
      · have h := (if_inv h).1 c1
        refine lv_aload_n hx hb dX9_begin_55 rfl (lv_at hl 0 rfl) ?_
        refine lv_iconst (v := 0) hx hb dX9_begin_56 (by decide) ?_
        refine r_putI C hG FX9_36 hk rfl dX9_begin_57 h (fun H locs g2 hG h => ?_)
        refine lv_aload_n hx hb dX9_begin_60 rfl (lv_at hl 0 rfl) ?_
        refine lv_iconst (v := 0) hx hb dX9_begin_61 (by decide) ?_
        refine r_putI C hG FX9_40 hk rfl dX9_begin_62 h (fun H locs g3 hG h => ?_)
        refine lv_aload_n hx hb dX9_begin_65 rfl (lv_at hl 0 rfl) ?_
        refine lv_iconst (v := 0) hx hb dX9_begin_66 (by decide) ?_
        refine r_putI C hG FX9_43 hk rfl dX9_begin_67 h (fun H locs g4 hG h => ?_)
        refine lv_aload_n hx hb dX9_begin_70 rfl (lv_at hl 0 rfl) ?_
        refine lv_iconst (v := 0) hx hb dX9_begin_71 (by decide) ?_
        refine r_putI C hG FX9_46 hk rfl dX9_begin_72 h (fun H locs g5 hG h => ?_)
        exact r_vret C hG hr dX9_begin_75 h
      · have h := (if_inv h).2 c1
        refine lv_aload_n hx hb dX9_begin_10 rfl (lv_at hl 0 rfl) ?_
        refine r_getR (d := 1) C hG FX9_9 hk rfl (by decide) dX9_begin_11 ?_
        refine lv_iload_n hx hb dX9_begin_14 rfl (lv_at hl 2 rfl) ?_
        refine lv_aload_n hx hb dX9_begin_15 rfl (lv_at hl 1 rfl) ?_
        refine r_getR (d := 1) C hG FX9_52 hk1 rfl (by decide) dX9_begin_16 ?_
        refine lv_iload_n hx hb dX9_begin_19 rfl (lv_at hl 2 rfl) ?_
        refine r_ild C hG (N := 11) (kR10_3 hk1) (by decide) dX9_begin_20 h (fun x6 h => ?_)
        refine r_ist C hG (N := 10) (kR9_0 hk) (by decide) dX9_begin_21 h (fun H locs g7 hG h => ?_)
        refine lv_aload_n hx hb dX9_begin_22 rfl (lv_at hl 0 rfl) ?_
        refine r_getR (d := 2) C hG FX9_15 hk rfl (by decide) dX9_begin_23 ?_
        refine lv_iload_n hx hb dX9_begin_26 rfl (lv_at hl 2 rfl) ?_
        refine lv_bipush (v := 100) hx hb dX9_begin_27 (by decide) ?_
        refine r_ist C hG (N := 10) (kR9_1 hk) (by decide) dX9_begin_29 h (fun H locs g8 hG h => ?_)
        refine lv_aload_n hx hb dX9_begin_30 rfl (lv_at hl 0 rfl) ?_
        refine r_getR (d := 3) C hG FX9_18 hk rfl (by decide) dX9_begin_31 ?_
        refine lv_iload_n hx hb dX9_begin_34 rfl (lv_at hl 2 rfl) ?_
        refine lv_aload_n hx hb dX9_begin_35 rfl (lv_at hl 1 rfl) ?_
        refine r_getR (d := 2) C hG FX9_53 hk1 rfl (by decide) dX9_begin_36 ?_
        refine lv_iload_n hx hb dX9_begin_39 rfl (lv_at hl 2 rfl) ?_
        refine r_ild C hG (N := 11) (kR10_4 hk1) (by decide) dX9_begin_40 h (fun x9 h => ?_)
        refine r_ist C hG (N := 10) (kR9_2 hk) (by decide) dX9_begin_41 h (fun H locs g10 hG h => ?_)
        refine lv_aload_n hx hb dX9_begin_42 rfl (lv_at hl 0 rfl) ?_
        refine r_getR (d := 4) C hG FX9_21 hk rfl (by decide) dX9_begin_43 ?_
        refine lv_iload_n hx hb dX9_begin_46 rfl (lv_at hl 2 rfl) ?_
        refine lv_iload_n hx hb dX9_begin_47 rfl (lv_at hl 2 rfl) ?_
        refine r_ist C hG (N := 10) (kR9_3 hk) (by decide) dX9_begin_48 h (fun H locs g11 hG h => ?_)
        refine r_iinc (w := 1) (lv' := fun x12 => [(2, .int x12), (0, .ref (E.ad o)), (1, .ref (E.ad o1))]) C dX9_begin_49 hl (k := 2) rfl (by decide) (by decide) (fun _ => rfl) h (fun x12 ls hl h => ?_)
        refine lv_goto (tgt := 2) hx hb dX9_begin_52 (by decide) ?_
        exact ih x12 g11 _ _ _ hG (lv_sub hl [1, 2, 0] rfl) h
  refine lv_iconst (v := 0) hx hb dX9_begin_0 (by decide) ?_
  refine lv_istore_n (lv' := [(2, .int 0), (0, .ref (E.ad o)), (1, .ref (E.ad o1))]) hx hb dX9_begin_1 rfl hl (by decide) rfl (fun ls hl => ?_)
  exact j2 FU 0 g _ _ _ hG (lv_sub hl [1, 2, 0] rfl) h
def k9_isCovered (o : Nat) (a1 : Int32) (g : G) : Option (Int32) :=
  if (g o 7) ≤ 0 then
    some 0
  else
    ld g (o + 6) 12 0 fun x2 =>
    if x2 = a1 then
      some 1
    else
      some 0
set_option maxRecDepth 100000 in
set_option maxHeartbeats 4000000 in
theorem m9_isCovered (E : EV) (l : Launch) (o : Nat) (hk : kd o = 9) (a1 : Int32) (g : G) : ∀ u, k9_isCovered o a1 g = some u → MI E l yX9_isCovered cX9_isCovered 2 (some .boolean) 0 0 0 [.ref (E.ad o), .int a1] g (u, g) := by
  intro u h
  refine MG.of (by decide +kernel) (Nat.le_of_ble_eq_true rfl) ?_
  intro p e s m args below meth c C hr hnm ls hl hG
  have C : Cx p s m args meth c cX9_isCovered 2 RX9 E := C
  have hx := C.1
  have hb := C.2.1
  have hl : lv_has ls 2 [(0, .ref (E.ad o)), (1, .int a1)] := hl
  unfold k9_isCovered at h
  refine lv_aload_n hx hb dX9_isCovered_0 rfl (lv_at hl 0 rfl) ?_
  refine r_getI C hG FX9_40 hk rfl dX9_isCovered_1 ?_
  refine lv_if_le (tgt := 21) hx hb dX9_isCovered_4 (by decide) (fun c1 => ?_) (fun c1 => ?_)
  · have h := (if_inv h).1 c1
    refine lv_iconst (v := 0) hx hb dX9_isCovered_21 (by decide) ?_
    exact r_iretP C hG hr rfl dX9_isCovered_22 h
  · have h := (if_inv h).2 c1
    refine lv_aload_n hx hb dX9_isCovered_7 rfl (lv_at hl 0 rfl) ?_
    refine r_getR (d := 6) C hG FX9_27 hk rfl (by decide) dX9_isCovered_8 ?_
    refine lv_iconst (v := 0) hx hb dX9_isCovered_11 (by decide) ?_
    refine r_ild C hG (N := 12) (kR9_5 hk) (by decide) dX9_isCovered_12 h (fun x2 h => ?_)
    refine lv_iload_n hx hb dX9_isCovered_13 rfl (lv_at hl 1 rfl) ?_
    refine lv_icmp_ne (tgt := 21) hx hb dX9_isCovered_14 (by decide) (fun c3 => ?_) (fun c3 => ?_)
    · have h := (if_inv h).2 c3
      refine lv_iconst (v := 0) hx hb dX9_isCovered_21 (by decide) ?_
      exact r_iretP C hG hr rfl dX9_isCovered_22 h
    · have h := (if_inv h).1 c3
      refine lv_iconst (v := 1) hx hb dX9_isCovered_17 (by decide) ?_
      refine lv_goto (tgt := 22) hx hb dX9_isCovered_18 (by decide) ?_
      exact r_iretP C hG hr rfl dX9_isCovered_22 h
def k9_find_2 (o : Nat) (g : G) : Nat → Int32 → Int32 → Int32 → Option (Int32)
  | 0, _, _, _ => none
  | f + 1, v1, v2, v3 =>
        if (g o 6) ≤ v3 then
          some (-1)
        else
          ld g (o + 5) 12 v3 fun x2 =>
          if x2 = v1 then
            ld g (o + 6) 12 v3 fun x5 =>
            if x5 = v2 then
              some v3
            else
              bd (v3 + 1) fun x7 =>
              k9_find_2 o g f v1 v2 x7
          else
            bd (v3 + 1) fun x4 =>
            k9_find_2 o g f v1 v2 x4
def k9_find (o : Nat) (a1 : Int32) (a2 : Int32) (g : G) : Option (Int32) :=
  k9_find_2 o g FU a1 a2 0
set_option maxRecDepth 100000 in
set_option maxHeartbeats 4000000 in
theorem m9_find (E : EV) (l : Launch) (o : Nat) (hk : kd o = 9) (a1 : Int32) (a2 : Int32) (g : G) : ∀ u, k9_find o a1 a2 g = some u → MI E l yX9_find cX9_find 4 (some .int) 0 0 0 [.ref (E.ad o), .int a1, .int a2] g (u, g) := by
  intro u h
  refine MG.of (by decide +kernel) (Nat.le_of_ble_eq_true rfl) ?_
  intro p e s m args below meth c C hr hnm ls hl hG
  have C : Cx p s m args meth c cX9_find 4 RX9 E := C
  have hx := C.1
  have hb := C.2.1
  have hl : lv_has ls 4 [(0, .ref (E.ad o)), (1, .int a1), (2, .int a2)] := hl
  unfold k9_find at h
  have j2 : ∀ f : Nat, ∀ (v1 : Int32) (v2 : Int32) (v3 : Int32) (H : Heap) (locs : List Loc) (ls : Array Slot), Gd E s H locs g [] → lv_has ls 4 [(0, .ref (E.ad o)), (1, .int v1), (2, .int v2), (3, .int v3)] → k9_find_2 o g f v1 v2 v3 = some u → W p l e (rmD 0 0 0) s m args below meth c H locs 0 0 (MQ below (QI E s.heap.size u g) args s 0 0 (AA E s.heap.size)) (F0 m 2 ls []) := by
    intro f
    induction f with
    | zero =>
      intro v1 v2 v3 H locs ls hG hl h
      unfold k9_find_2 at h
      cases h
    | succ f ih =>
      intro v1 v2 v3 H locs ls hG hl h
      unfold k9_find_2 at h
      refine lv_iload_n hx hb dX9_find_2 rfl (lv_at hl 3 rfl) ?_
      refine lv_aload_n hx hb dX9_find_3 rfl (lv_at hl 0 rfl) ?_
      refine r_getI C hG FX9_36 hk rfl dX9_find_4 ?_
      refine lv_icmp_ge (tgt := 38) hx hb dX9_find_7 (by decide) (fun c1 => ?_) (fun c1 => ?_)
      · have h := (if_inv h).1 c1
        refine lv_iconst (v := (-1)) hx hb dX9_find_38 (by decide) ?_
        exact r_iretP C hG hr rfl dX9_find_39 h
      · have h := (if_inv h).2 c1
        refine lv_aload_n hx hb dX9_find_10 rfl (lv_at hl 0 rfl) ?_
        refine r_getR (d := 5) C hG FX9_24 hk rfl (by decide) dX9_find_11 ?_
        refine lv_iload_n hx hb dX9_find_14 rfl (lv_at hl 3 rfl) ?_
        refine r_ild C hG (N := 12) (kR9_4 hk) (by decide) dX9_find_15 h (fun x2 h => ?_)
        refine lv_iload_n hx hb dX9_find_16 rfl (lv_at hl 1 rfl) ?_
        refine lv_icmp_ne (tgt := 32) hx hb dX9_find_17 (by decide) (fun c3 => ?_) (fun c3 => ?_)
        · have h := (if_inv h).2 c3
          refine r_iinc (w := 1) (lv' := fun x4 => [(3, .int x4), (0, .ref (E.ad o)), (1, .int v1), (2, .int v2)]) C dX9_find_32 hl (k := 3) rfl (by decide) (by decide) (fun _ => rfl) h (fun x4 ls hl h => ?_)
          refine lv_goto (tgt := 2) hx hb dX9_find_35 (by decide) ?_
          exact ih v1 v2 x4 _ _ _ hG (lv_sub hl [1, 2, 3, 0] rfl) h
        · have h := (if_inv h).1 c3
          refine lv_aload_n hx hb dX9_find_20 rfl (lv_at hl 0 rfl) ?_
          refine r_getR (d := 6) C hG FX9_27 hk rfl (by decide) dX9_find_21 ?_
          refine lv_iload_n hx hb dX9_find_24 rfl (lv_at hl 3 rfl) ?_
          refine r_ild C hG (N := 12) (kR9_5 hk) (by decide) dX9_find_25 h (fun x5 h => ?_)
          refine lv_iload_n hx hb dX9_find_26 rfl (lv_at hl 2 rfl) ?_
          refine lv_icmp_ne (tgt := 32) hx hb dX9_find_27 (by decide) (fun c6 => ?_) (fun c6 => ?_)
          · have h := (if_inv h).2 c6
            refine r_iinc (w := 1) (lv' := fun x7 => [(3, .int x7), (0, .ref (E.ad o)), (1, .int v1), (2, .int v2)]) C dX9_find_32 hl (k := 3) rfl (by decide) (by decide) (fun _ => rfl) h (fun x7 ls hl h => ?_)
            refine lv_goto (tgt := 2) hx hb dX9_find_35 (by decide) ?_
            exact ih v1 v2 x7 _ _ _ hG (lv_sub hl [1, 2, 3, 0] rfl) h
          · have h := (if_inv h).1 c6
            refine lv_iload_n hx hb dX9_find_30 rfl (lv_at hl 3 rfl) ?_
            exact r_iretP C hG hr rfl dX9_find_31 h
  refine lv_iconst (v := 0) hx hb dX9_find_0 (by decide) ?_
  refine lv_istore_n (lv' := [(3, .int 0), (0, .ref (E.ad o)), (1, .int a1), (2, .int a2)]) hx hb dX9_find_1 rfl hl (by decide) rfl (fun ls hl => ?_)
  exact j2 FU a1 a2 0 _ _ _ hG (lv_sub hl [1, 2, 3, 0] rfl) h
def k9_order (o : Nat) (a1 : Int32) (a2 : Int32) (g : G) : Option (Int32 × G) :=
  if (g o 6) = 12 then
    some (0, g)
  else
    (k9_find o a1 a2 g).bind fun u2 =>
    if u2 = (-1) then
      sto g (o + 5) 12 (g o 6) a1 fun g4 =>
      sto g4 (o + 6) 12 (g4 o 6) a2 fun g5 =>
      bd (up g5 o 6 ((g5 o 6) + 1)) fun g6 =>
      some (1, g6)
    else
      some (0, g)
set_option maxRecDepth 100000 in
set_option maxHeartbeats 4000000 in
theorem m9_order (E : EV) (l : Launch) (o : Nat) (hk : kd o = 9) (a1 : Int32) (a2 : Int32) (g : G) : ∀ u, k9_order o a1 a2 g = some u → MI E l yX9_order cX9_order 3 (some .boolean) 1 0 0 [.ref (E.ad o), .int a1, .int a2] g u := by
  intro u h
  refine MG.of (by decide +kernel) (Nat.le_of_ble_eq_true rfl) ?_
  intro p e s m args below meth c C hr hnm ls hl hG
  have C : Cx p s m args meth c cX9_order 3 RX9 E := C
  have hx := C.1
  have hb := C.2.1
  have hl : lv_has ls 3 [(0, .ref (E.ad o)), (1, .int a1), (2, .int a2)] := hl
  unfold k9_order at h
  refine lv_aload_n hx hb dX9_order_0 rfl (lv_at hl 0 rfl) ?_
  refine r_getI C hG FX9_36 hk rfl dX9_order_1 ?_
  refine lv_bipush (v := 12) hx hb dX9_order_4 (by decide) ?_
  refine lv_icmp_eq (tgt := 19) hx hb dX9_order_6 (by decide) (fun c1 => ?_) (fun c1 => ?_)
  · have h := (if_inv h).1 c1
    refine lv_iconst (v := 0) hx hb dX9_order_19 (by decide) ?_
    exact r_iret C hG hr rfl dX9_order_20 h
  · have h := (if_inv h).2 c1
    refine lv_aload_n hx hb dX9_order_9 rfl (lv_at hl 0 rfl) ?_
    refine lv_iload_n hx hb dX9_order_10 rfl (lv_at hl 1 rfl) ?_
    refine lv_iload_n hx hb dX9_order_11 rfl (lv_at hl 2 rfl) ?_
    refine r_callVIP C hl.1 hG [.int a1, .int a2] [] (m9_find E l o hk a1 a2 g) LX9_54 hk KC9 rfl (rm_ok (by decide) (by decide)) (Nat.le_of_ble_eq_true rfl) ⟨Nat.le_refl _, Nat.le_refl _⟩ rfl dX9_order_12 h (fun u2 H locs hG h => ?_)
    refine lv_iconst (v := (-1)) hx hb dX9_order_15 (by decide) ?_
    refine lv_icmp_eq (tgt := 21) hx hb dX9_order_16 (by decide) (fun c3 => ?_) (fun c3 => ?_)
    · have h := (if_inv h).1 c3
      refine lv_aload_n hx hb dX9_order_21 rfl (lv_at hl 0 rfl) ?_
      refine r_getR (d := 5) C hG FX9_24 hk rfl (by decide) dX9_order_22 ?_
      refine lv_aload_n hx hb dX9_order_25 rfl (lv_at hl 0 rfl) ?_
      refine r_getI C hG FX9_36 hk rfl dX9_order_26 ?_
      refine lv_iload_n hx hb dX9_order_29 rfl (lv_at hl 1 rfl) ?_
      refine r_ist C hG (N := 12) (kR9_4 hk) (by decide) dX9_order_30 h (fun H locs g4 hG h => ?_)
      refine lv_aload_n hx hb dX9_order_31 rfl (lv_at hl 0 rfl) ?_
      refine r_getR (d := 6) C hG FX9_27 hk rfl (by decide) dX9_order_32 ?_
      refine lv_aload_n hx hb dX9_order_35 rfl (lv_at hl 0 rfl) ?_
      refine r_getI C hG FX9_36 hk rfl dX9_order_36 ?_
      refine lv_iload_n hx hb dX9_order_39 rfl (lv_at hl 2 rfl) ?_
      refine r_ist C hG (N := 12) (kR9_5 hk) (by decide) dX9_order_40 h (fun H locs g5 hG h => ?_)
      refine lv_aload_n hx hb dX9_order_41 rfl (lv_at hl 0 rfl) ?_
      refine lv_dup hx hb dX9_order_42 rfl ?_
      refine r_getI C hG FX9_36 hk rfl dX9_order_43 ?_
      refine lv_iconst (v := 1) hx hb dX9_order_46 (by decide) ?_
      refine lv_iadd hx hb dX9_order_47 ?_
      refine r_putI C hG FX9_36 hk rfl dX9_order_48 h (fun H locs g6 hG h => ?_)
      refine lv_iconst (v := 1) hx hb dX9_order_51 (by decide) ?_
      exact r_iret C hG hr rfl dX9_order_52 h
    · have h := (if_inv h).2 c3
      refine lv_iconst (v := 0) hx hb dX9_order_19 (by decide) ?_
      exact r_iret C hG hr rfl dX9_order_20 h
def k9_take_19 (o : Nat) : Nat → Int32 → Int32 → Int32 → G → Option (Int32 × G)
  | 0, _, _, _, _ => none
  | f + 1, v1, v2, v3, g =>
        if (g o 6) ≤ v3 then
          if v1 = 0 then
            bd (up g o 7 0) fun g3 =>
            some (v2, g3)
          else
            some (v2, g)
        else
          ld g (o + 5) 12 (v3 + 1) fun x4 =>
          sto g (o + 5) 12 v3 x4 fun g5 =>
          ld g5 (o + 6) 12 (v3 + 1) fun x6 =>
          sto g5 (o + 6) 12 v3 x6 fun g7 =>
          bd (v3 + 1) fun x8 =>
          k9_take_19 o f v1 v2 x8 g7
def k9_take (o : Nat) (a1 : Int32) (g : G) : Option (Int32 × G) :=
  ld g (o + 6) 12 a1 fun x9 =>
  bd (up g o 6 ((g o 6) - 1)) fun g10 =>
  k9_take_19 o FU a1 x9 a1 g10
set_option maxRecDepth 100000 in
set_option maxHeartbeats 4000000 in
theorem m9_take (E : EV) (l : Launch) (o : Nat) (hk : kd o = 9) (a1 : Int32) (g : G) : ∀ u, k9_take o a1 g = some u → MI E l yX9_take cX9_take 4 (some .int) 0 0 0 [.ref (E.ad o), .int a1] g u := by
  intro u h
  refine MG.of (by decide +kernel) (Nat.le_of_ble_eq_true rfl) ?_
  intro p e s m args below meth c C hr hnm ls hl hG
  have C : Cx p s m args meth c cX9_take 4 RX9 E := C
  have hx := C.1
  have hb := C.2.1
  have hl : lv_has ls 4 [(0, .ref (E.ad o)), (1, .int a1)] := hl
  unfold k9_take at h
  have j19 : ∀ f : Nat, ∀ (v1 : Int32) (v2 : Int32) (v3 : Int32) (g : G) (H : Heap) (locs : List Loc) (ls : Array Slot), Gd E s H locs g [] → lv_has ls 4 [(0, .ref (E.ad o)), (1, .int v1), (2, .int v2), (3, .int v3)] → k9_take_19 o f v1 v2 v3 g = some u → W p l e (rmD 0 0 0) s m args below meth c H locs 0 0 (MQ below (QI E s.heap.size u.1 u.2) args s 0 0 (AA E s.heap.size)) (F0 m 19 ls []) := by
    intro f
    induction f with
    | zero =>
      intro v1 v2 v3 g H locs ls hG hl h
      unfold k9_take_19 at h
      cases h
    | succ f ih =>
      intro v1 v2 v3 g H locs ls hG hl h
      unfold k9_take_19 at h
      refine lv_iload_n hx hb dX9_take_19 rfl (lv_at hl 3 rfl) ?_
      refine lv_aload_n hx hb dX9_take_20 rfl (lv_at hl 0 rfl) ?_
      refine r_getI C hG FX9_36 hk rfl dX9_take_21 ?_
      refine lv_icmp_ge (tgt := 61) hx hb dX9_take_24 (by decide) (fun c1 => ?_) (fun c1 => ?_)
      · have h := (if_inv h).1 c1
        refine lv_iload_n hx hb dX9_take_61 rfl (lv_at hl 1 rfl) ?_
        refine lv_if_ne (tgt := 70) hx hb dX9_take_62 (by decide) (fun c2 => ?_) (fun c2 => ?_)
        · have h := (if_inv h).2 c2
          refine lv_iload_n hx hb dX9_take_70 rfl (lv_at hl 2 rfl) ?_
          exact r_iret C hG hr rfl dX9_take_71 h
        · have h := (if_inv h).1 c2
          refine lv_aload_n hx hb dX9_take_65 rfl (lv_at hl 0 rfl) ?_
          refine lv_iconst (v := 0) hx hb dX9_take_66 (by decide) ?_
          refine r_putI C hG FX9_40 hk rfl dX9_take_67 h (fun H locs g3 hG h => ?_)
          refine lv_iload_n hx hb dX9_take_70 rfl (lv_at hl 2 rfl) ?_
          exact r_iret C hG hr rfl dX9_take_71 h
      · have h := (if_inv h).2 c1
        refine lv_aload_n hx hb dX9_take_27 rfl (lv_at hl 0 rfl) ?_
        refine r_getR (d := 5) C hG FX9_24 hk rfl (by decide) dX9_take_28 ?_
        refine lv_iload_n hx hb dX9_take_31 rfl (lv_at hl 3 rfl) ?_
        refine lv_aload_n hx hb dX9_take_32 rfl (lv_at hl 0 rfl) ?_
        refine r_getR (d := 5) C hG FX9_24 hk rfl (by decide) dX9_take_33 ?_
        refine lv_iload_n hx hb dX9_take_36 rfl (lv_at hl 3 rfl) ?_
        refine lv_iconst (v := 1) hx hb dX9_take_37 (by decide) ?_
        refine lv_iadd hx hb dX9_take_38 ?_
        refine r_ild C hG (N := 12) (kR9_4 hk) (by decide) dX9_take_39 h (fun x4 h => ?_)
        refine r_ist C hG (N := 12) (kR9_4 hk) (by decide) dX9_take_40 h (fun H locs g5 hG h => ?_)
        refine lv_aload_n hx hb dX9_take_41 rfl (lv_at hl 0 rfl) ?_
        refine r_getR (d := 6) C hG FX9_27 hk rfl (by decide) dX9_take_42 ?_
        refine lv_iload_n hx hb dX9_take_45 rfl (lv_at hl 3 rfl) ?_
        refine lv_aload_n hx hb dX9_take_46 rfl (lv_at hl 0 rfl) ?_
        refine r_getR (d := 6) C hG FX9_27 hk rfl (by decide) dX9_take_47 ?_
        refine lv_iload_n hx hb dX9_take_50 rfl (lv_at hl 3 rfl) ?_
        refine lv_iconst (v := 1) hx hb dX9_take_51 (by decide) ?_
        refine lv_iadd hx hb dX9_take_52 ?_
        refine r_ild C hG (N := 12) (kR9_5 hk) (by decide) dX9_take_53 h (fun x6 h => ?_)
        refine r_ist C hG (N := 12) (kR9_5 hk) (by decide) dX9_take_54 h (fun H locs g7 hG h => ?_)
        refine r_iinc (w := 1) (lv' := fun x8 => [(3, .int x8), (0, .ref (E.ad o)), (1, .int v1), (2, .int v2)]) C dX9_take_55 hl (k := 3) rfl (by decide) (by decide) (fun _ => rfl) h (fun x8 ls hl h => ?_)
        refine lv_goto (tgt := 19) hx hb dX9_take_58 (by decide) ?_
        exact ih v1 v2 x8 g7 _ _ _ hG (lv_sub hl [1, 2, 3, 0] rfl) h
  refine lv_aload_n hx hb dX9_take_0 rfl (lv_at hl 0 rfl) ?_
  refine r_getR (d := 6) C hG FX9_27 hk rfl (by decide) dX9_take_1 ?_
  refine lv_iload_n hx hb dX9_take_4 rfl (lv_at hl 1 rfl) ?_
  refine r_ild C hG (N := 12) (kR9_5 hk) (by decide) dX9_take_5 h (fun x9 h => ?_)
  refine lv_istore_n (lv' := [(2, .int x9), (0, .ref (E.ad o)), (1, .int a1)]) hx hb dX9_take_6 rfl hl (by decide) rfl (fun ls hl => ?_)
  refine lv_aload_n hx hb dX9_take_7 rfl (lv_at hl 1 rfl) ?_
  refine lv_dup hx hb dX9_take_8 rfl ?_
  refine r_getI C hG FX9_36 hk rfl dX9_take_9 ?_
  refine lv_iconst (v := 1) hx hb dX9_take_12 (by decide) ?_
  refine lv_isub hx hb dX9_take_13 ?_
  refine r_putI C hG FX9_36 hk rfl dX9_take_14 h (fun H locs g10 hG h => ?_)
  refine lv_iload_n hx hb dX9_take_17 rfl (lv_at hl 2 rfl) ?_
  refine lv_istore_n (lv' := [(3, .int a1), (2, .int x9), (0, .ref (E.ad o)), (1, .int a1)]) hx hb dX9_take_18 rfl hl (by decide) rfl (fun ls hl => ?_)
  exact j19 FU a1 x9 a1 g10 _ _ _ hG (lv_sub hl [2, 3, 1, 0] rfl) h
def k9_clean (o : Nat) (a1 : Int32) (g : G) : Option (G) :=
  ld g (o + 1) 10 a1 fun x1 =>
  ld g (o + 2) 10 a1 fun x2 =>
  bd (if x1 < x2 then x2 else x1) fun x3 =>
  sto g (o + 1) 10 a1 x3 fun g4 =>
  some g4
set_option maxRecDepth 100000 in
set_option maxHeartbeats 4000000 in
theorem m9_clean (E : EV) (l : Launch) (o : Nat) (hk : kd o = 9) (a1 : Int32) (g : G) : ∀ u, k9_clean o a1 g = some u → MV E l yX9_clean cX9_clean 2 none 1 0 0 [.ref (E.ad o), .int a1] g u := by
  intro u h
  refine MG.of (by decide +kernel) (Nat.le_of_ble_eq_true rfl) ?_
  intro p e s m args below meth c C hr hnm ls hl hG
  have C : Cx p s m args meth c cX9_clean 2 RX9 E := C
  have hx := C.1
  have hb := C.2.1
  have hl : lv_has ls 2 [(0, .ref (E.ad o)), (1, .int a1)] := hl
  unfold k9_clean at h
  refine lv_aload_n hx hb dX9_clean_0 rfl (lv_at hl 0 rfl) ?_
  refine r_getR (d := 1) C hG FX9_9 hk rfl (by decide) dX9_clean_1 ?_
  refine lv_iload_n hx hb dX9_clean_4 rfl (lv_at hl 1 rfl) ?_
  refine lv_aload_n hx hb dX9_clean_5 rfl (lv_at hl 0 rfl) ?_
  refine r_getR (d := 1) C hG FX9_9 hk rfl (by decide) dX9_clean_6 ?_
  refine lv_iload_n hx hb dX9_clean_9 rfl (lv_at hl 1 rfl) ?_
  refine r_ild C hG (N := 10) (kR9_0 hk) (by decide) dX9_clean_10 h (fun x1 h => ?_)
  refine lv_aload_n hx hb dX9_clean_11 rfl (lv_at hl 0 rfl) ?_
  refine r_getR (d := 2) C hG FX9_15 hk rfl (by decide) dX9_clean_12 ?_
  refine lv_iload_n hx hb dX9_clean_15 rfl (lv_at hl 1 rfl) ?_
  refine r_ild C hG (N := 10) (kR9_1 hk) (by decide) dX9_clean_16 h (fun x2 h => ?_)
  refine r_max C hl.1 LX9_58 ⟨(Nat.le_of_ble_eq_true rfl), (Nat.le_of_ble_eq_true rfl), Nat.zero_le _, Nat.zero_le _⟩ dX9_clean_17 ?_
  refine r_nm h (fun x3 h => ?_)
  refine r_ist C hG (N := 10) (kR9_0 hk) (by decide) dX9_clean_20 h (fun H locs g4 hG h => ?_)
  exact r_vret C hG hr dX9_clean_21 h
def k9_takes (o : Nat) (g : G) : Option (Int32) :=
  ld g (o + 6) 12 0 fun x1 =>
  ld g (o + 5) 12 0 fun x2 =>
  if x2 = 0 then
    ld g (o + 1) 10 x1 fun x9 =>
    dv (100 - x9) 10 fun x10 =>
    some (x10 + 1)
  else
    ld g (o + 5) 12 0 fun x4 =>
    if x4 = 1 then
      ld g (o + 3) 10 x1 fun x6 =>
      bd (if 0 ≤ x6 then x6 else 0 - x6) fun x7 =>
      dv x7 5 fun x8 =>
      some (x8 + 1)
    else
      some 20
set_option maxRecDepth 100000 in
set_option maxHeartbeats 4000000 in
theorem m9_takes (E : EV) (l : Launch) (o : Nat) (hk : kd o = 9) (g : G) : ∀ u, k9_takes o g = some u → MI E l yX9_takes cX9_takes 2 (some .int) 1 0 0 [.ref (E.ad o)] g (u, g) := by
  intro u h
  refine MG.of (by decide +kernel) (Nat.le_of_ble_eq_true rfl) ?_
  intro p e s m args below meth c C hr hnm ls hl hG
  have C : Cx p s m args meth c cX9_takes 2 RX9 E := C
  have hx := C.1
  have hb := C.2.1
  have hl : lv_has ls 2 [(0, .ref (E.ad o))] := hl
  unfold k9_takes at h
  refine lv_aload_n hx hb dX9_takes_0 rfl (lv_at hl 0 rfl) ?_
  refine r_getR (d := 6) C hG FX9_27 hk rfl (by decide) dX9_takes_1 ?_
  refine lv_iconst (v := 0) hx hb dX9_takes_4 (by decide) ?_
  refine r_ild C hG (N := 12) (kR9_5 hk) (by decide) dX9_takes_5 h (fun x1 h => ?_)
  refine lv_istore_n (lv' := [(1, .int x1), (0, .ref (E.ad o))]) hx hb dX9_takes_6 rfl hl (by decide) rfl (fun ls hl => ?_)
  refine lv_aload_n hx hb dX9_takes_7 rfl (lv_at hl 1 rfl) ?_
  refine r_getR (d := 5) C hG FX9_24 hk rfl (by decide) dX9_takes_8 ?_
  refine lv_iconst (v := 0) hx hb dX9_takes_11 (by decide) ?_
  refine r_ild C hG (N := 12) (kR9_4 hk) (by decide) dX9_takes_12 h (fun x2 h => ?_)
  refine lv_if_ne (tgt := 31) hx hb dX9_takes_13 (by decide) (fun c3 => ?_) (fun c3 => ?_)
  · have h := (if_inv h).2 c3
    refine lv_aload_n hx hb dX9_takes_31 rfl (lv_at hl 1 rfl) ?_
    refine r_getR (d := 5) C hG FX9_24 hk rfl (by decide) dX9_takes_32 ?_
    refine lv_iconst (v := 0) hx hb dX9_takes_35 (by decide) ?_
    refine r_ild C hG (N := 12) (kR9_4 hk) (by decide) dX9_takes_36 h (fun x4 h => ?_)
    refine lv_iconst (v := 1) hx hb dX9_takes_37 (by decide) ?_
    refine lv_icmp_ne (tgt := 57) hx hb dX9_takes_38 (by decide) (fun c5 => ?_) (fun c5 => ?_)
    · have h := (if_inv h).2 c5
      refine lv_bipush (v := 20) hx hb dX9_takes_57 (by decide) ?_
      exact r_iretP C hG hr rfl dX9_takes_59 h
    · have h := (if_inv h).1 c5
      refine lv_aload_n hx hb dX9_takes_41 rfl (lv_at hl 1 rfl) ?_
      refine r_getR (d := 3) C hG FX9_18 hk rfl (by decide) dX9_takes_42 ?_
      refine lv_iload_n hx hb dX9_takes_45 rfl (lv_at hl 0 rfl) ?_
      refine r_ild C hG (N := 10) (kR9_2 hk) (by decide) dX9_takes_46 h (fun x6 h => ?_)
      refine r_abs C hl.1 LX9_63 ⟨(Nat.le_of_ble_eq_true rfl), (Nat.le_of_ble_eq_true rfl), Nat.zero_le _, Nat.zero_le _⟩ dX9_takes_47 ?_
      refine r_nm h (fun x7 h => ?_)
      refine lv_iconst (v := 5) hx hb dX9_takes_50 (by decide) ?_
      refine r_div C dX9_takes_51 h (fun x8 h => ?_)
      refine lv_iconst (v := 1) hx hb dX9_takes_52 (by decide) ?_
      refine lv_iadd hx hb dX9_takes_53 ?_
      refine lv_goto (tgt := 59) hx hb dX9_takes_54 (by decide) ?_
      exact r_iretP C hG hr rfl dX9_takes_59 h
  · have h := (if_inv h).1 c3
    refine lv_bipush (v := 100) hx hb dX9_takes_16 (by decide) ?_
    refine lv_aload_n hx hb dX9_takes_18 rfl (lv_at hl 1 rfl) ?_
    refine r_getR (d := 1) C hG FX9_9 hk rfl (by decide) dX9_takes_19 ?_
    refine lv_iload_n hx hb dX9_takes_22 rfl (lv_at hl 0 rfl) ?_
    refine r_ild C hG (N := 10) (kR9_0 hk) (by decide) dX9_takes_23 h (fun x9 h => ?_)
    refine lv_isub hx hb dX9_takes_24 ?_
    refine lv_bipush (v := 10) hx hb dX9_takes_25 (by decide) ?_
    refine r_div C dX9_takes_27 h (fun x10 h => ?_)
    refine lv_iconst (v := 1) hx hb dX9_takes_28 (by decide) ?_
    refine lv_iadd hx hb dX9_takes_29 ?_
    exact r_iretP C hG hr rfl dX9_takes_30 h
def k9_works_24 (o : Nat) (g : G) : Option (Int32 × G) :=
      bd (up g o 7 ((g o 7) - 1)) fun g1 =>
      if (g1 o 7) ≤ 0 then
        ld g1 (o + 5) 12 0 fun x3 =>
        (k9_take o 0 g1).bind fun u4 =>
        bd u4.1 fun x5 =>
        bd (up u4.2 o 9 ((u4.2 o 9) + 1)) fun g6 =>
        if x3 = 0 then
          (k9_clean o x5 g6).bind fun g12 =>
          ld g12 (o + 2) 10 x5 fun x13 =>
          bd (if 0 < (x13 - 1) then (x13 - 1) else 0) fun x14 =>
          sto g12 (o + 2) 10 x5 x14 fun g15 =>
          some (1, g15)
        else
          sto g6 (o + 3) 10 x5 0 fun g8 =>
          if x3 = 2 then
            sto g8 (o + 1) 10 x5 100 fun g10 =>
            sto g10 (o + 2) 10 x5 100 fun g11 =>
            some (1, g11)
          else
            some (1, g8)
      else
        some (0, g1)
def k9_works (o : Nat) (g : G) : Option (Int32 × G) :=
  if (g o 6) = 0 then
    some (0, g)
  else
    if (g o 7) = 0 then
      (k9_takes o g).bind fun u18 =>
      bd (up g o 7 u18) fun g19 =>
      k9_works_24 o g19
    else
      k9_works_24 o g
set_option maxRecDepth 100000 in
set_option maxHeartbeats 4000000 in
theorem m9_works (E : EV) (l : Launch) (o : Nat) (hk : kd o = 9) (g : G) : ∀ u, k9_works o g = some u → MI E l yX9_works cX9_works 3 (some .boolean) 2 0 0 [.ref (E.ad o)] g u := by
  intro u h
  refine MG.of (by decide +kernel) (Nat.le_of_ble_eq_true rfl) ?_
  intro p e s m args below meth c C hr hnm ls hl hG
  have C : Cx p s m args meth c cX9_works 3 RX9 E := C
  have hx := C.1
  have hb := C.2.1
  have hl : lv_has ls 3 [(0, .ref (E.ad o))] := hl
  unfold k9_works at h
  have j24 : ∀ (g : G) (H : Heap) (locs : List Loc) (ls : Array Slot), Gd E s H locs g [] → lv_has ls 3 [(0, .ref (E.ad o))] → k9_works_24 o g = some u → W p l e (rmD 2 0 0) s m args below meth c H locs 0 0 (MQ below (QI E s.heap.size u.1 u.2) args s 0 0 (AA E s.heap.size)) (F0 m 24 ls []) := by
    intro g H locs ls hG hl h
    unfold k9_works_24 at h
    refine lv_aload_n hx hb dX9_works_24 rfl (lv_at hl 0 rfl) ?_
    refine lv_dup hx hb dX9_works_25 rfl ?_
    refine r_getI C hG FX9_40 hk rfl dX9_works_26 ?_
    refine lv_iconst (v := 1) hx hb dX9_works_29 (by decide) ?_
    refine lv_isub hx hb dX9_works_30 ?_
    refine r_putI C hG FX9_40 hk rfl dX9_works_31 h (fun H locs g1 hG h => ?_)
    refine lv_aload_n hx hb dX9_works_34 rfl (lv_at hl 0 rfl) ?_
    refine r_getI C hG FX9_40 hk rfl dX9_works_35 ?_
    refine lv_if_le (tgt := 43) hx hb dX9_works_38 (by decide) (fun c2 => ?_) (fun c2 => ?_)
    · have h := (if_inv h).1 c2
      refine lv_aload_n hx hb dX9_works_43 rfl (lv_at hl 0 rfl) ?_
      refine r_getR (d := 5) C hG FX9_24 hk rfl (by decide) dX9_works_44 ?_
      refine lv_iconst (v := 0) hx hb dX9_works_47 (by decide) ?_
      refine r_ild C hG (N := 12) (kR9_4 hk) (by decide) dX9_works_48 h (fun x3 h => ?_)
      refine lv_istore_n (lv' := [(1, .int x3), (0, .ref (E.ad o))]) hx hb dX9_works_49 rfl hl (by decide) rfl (fun ls hl => ?_)
      refine lv_aload_n hx hb dX9_works_50 rfl (lv_at hl 1 rfl) ?_
      refine lv_iconst (v := 0) hx hb dX9_works_51 (by decide) ?_
      refine r_callVI C hl.1 hG [.int 0] [] (m9_take E l o hk 0 g1) LX9_71 hk KC9 rfl (rm_ok (by decide) (by decide)) (Nat.le_of_ble_eq_true rfl) ⟨Nat.le_refl _, Nat.le_refl _⟩ rfl dX9_works_52 h (fun u4 H locs hG h => ?_)
      refine r_nm h (fun x5 h => ?_)
      refine lv_istore_n (lv' := [(2, .int x5), (1, .int x3), (0, .ref (E.ad o))]) hx hb dX9_works_55 rfl hl (by decide) rfl (fun ls hl => ?_)
      refine lv_aload_n hx hb dX9_works_56 rfl (lv_at hl 2 rfl) ?_
      refine lv_dup hx hb dX9_works_57 rfl ?_
      refine r_getI C hG FX9_46 hk rfl dX9_works_58 ?_
      refine lv_iconst (v := 1) hx hb dX9_works_61 (by decide) ?_
      refine lv_iadd hx hb dX9_works_62 ?_
      refine r_putI C hG FX9_46 hk rfl dX9_works_63 h (fun H locs g6 hG h => ?_)
      refine lv_iload_n hx hb dX9_works_66 rfl (lv_at hl 1 rfl) ?_
      refine lv_if_ne (tgt := 95) hx hb dX9_works_67 (by decide) (fun c7 => ?_) (fun c7 => ?_)
      · have h := (if_inv h).2 c7
        refine lv_aload_n hx hb dX9_works_95 rfl (lv_at hl 2 rfl) ?_
        refine r_getR (d := 3) C hG FX9_18 hk rfl (by decide) dX9_works_96 ?_
        refine lv_iload_n hx hb dX9_works_99 rfl (lv_at hl 0 rfl) ?_
        refine lv_iconst (v := 0) hx hb dX9_works_100 (by decide) ?_
        refine r_ist C hG (N := 10) (kR9_2 hk) (by decide) dX9_works_101 h (fun H locs g8 hG h => ?_)
        refine lv_iload_n hx hb dX9_works_102 rfl (lv_at hl 1 rfl) ?_
        refine lv_iconst (v := 2) hx hb dX9_works_103 (by decide) ?_
        refine lv_icmp_ne (tgt := 123) hx hb dX9_works_104 (by decide) (fun c9 => ?_) (fun c9 => ?_)
        · have h := (if_inv h).2 c9
          refine lv_iconst (v := 1) hx hb dX9_works_123 (by decide) ?_
          exact r_iret C hG hr rfl dX9_works_124 h
        · have h := (if_inv h).1 c9
          refine lv_aload_n hx hb dX9_works_107 rfl (lv_at hl 2 rfl) ?_
          refine r_getR (d := 1) C hG FX9_9 hk rfl (by decide) dX9_works_108 ?_
          refine lv_iload_n hx hb dX9_works_111 rfl (lv_at hl 0 rfl) ?_
          refine lv_bipush (v := 100) hx hb dX9_works_112 (by decide) ?_
          refine r_ist C hG (N := 10) (kR9_0 hk) (by decide) dX9_works_114 h (fun H locs g10 hG h => ?_)
          refine lv_aload_n hx hb dX9_works_115 rfl (lv_at hl 2 rfl) ?_
          refine r_getR (d := 2) C hG FX9_15 hk rfl (by decide) dX9_works_116 ?_
          refine lv_iload_n hx hb dX9_works_119 rfl (lv_at hl 0 rfl) ?_
          refine lv_bipush (v := 100) hx hb dX9_works_120 (by decide) ?_
          refine r_ist C hG (N := 10) (kR9_1 hk) (by decide) dX9_works_122 h (fun H locs g11 hG h => ?_)
          refine lv_iconst (v := 1) hx hb dX9_works_123 (by decide) ?_
          exact r_iret C hG hr rfl dX9_works_124 h
      · have h := (if_inv h).1 c7
        refine lv_aload_n hx hb dX9_works_70 rfl (lv_at hl 2 rfl) ?_
        refine lv_iload_n hx hb dX9_works_71 rfl (lv_at hl 0 rfl) ?_
        refine r_callVV C hl.1 hG [.int x5] [] (m9_clean E l o hk x5 g6) LX9_74 hk KC9 rfl (rm_ok (by decide) (by decide)) (Nat.le_of_ble_eq_true rfl) ⟨Nat.le_refl _, Nat.le_refl _⟩ rfl dX9_works_72 h (fun g12 H locs hG h => ?_)
        refine lv_aload_n hx hb dX9_works_75 rfl (lv_at hl 2 rfl) ?_
        refine r_getR (d := 2) C hG FX9_15 hk rfl (by decide) dX9_works_76 ?_
        refine lv_iload_n hx hb dX9_works_79 rfl (lv_at hl 0 rfl) ?_
        refine lv_iconst (v := 0) hx hb dX9_works_80 (by decide) ?_
        refine lv_aload_n hx hb dX9_works_81 rfl (lv_at hl 2 rfl) ?_
        refine r_getR (d := 2) C hG FX9_15 hk rfl (by decide) dX9_works_82 ?_
        refine lv_iload_n hx hb dX9_works_85 rfl (lv_at hl 0 rfl) ?_
        refine r_ild C hG (N := 10) (kR9_1 hk) (by decide) dX9_works_86 h (fun x13 h => ?_)
        refine lv_iconst (v := 1) hx hb dX9_works_87 (by decide) ?_
        refine lv_isub hx hb dX9_works_88 ?_
        refine r_max C hl.1 LX9_58 ⟨(Nat.le_of_ble_eq_true rfl), (Nat.le_of_ble_eq_true rfl), Nat.zero_le _, Nat.zero_le _⟩ dX9_works_89 ?_
        refine r_nm h (fun x14 h => ?_)
        refine r_ist C hG (N := 10) (kR9_1 hk) (by decide) dX9_works_92 h (fun H locs g15 hG h => ?_)
        refine lv_iconst (v := 1) hx hb dX9_works_93 (by decide) ?_
        exact r_iret C hG hr rfl dX9_works_94 h
    · have h := (if_inv h).2 c2
      refine lv_iconst (v := 0) hx hb dX9_works_41 (by decide) ?_
      exact r_iret C hG hr rfl dX9_works_42 h
  refine lv_aload_n hx hb dX9_works_0 rfl (lv_at hl 0 rfl) ?_
  refine r_getI C hG FX9_36 hk rfl dX9_works_1 ?_
  refine lv_if_ne (tgt := 9) hx hb dX9_works_4 (by decide) (fun c16 => ?_) (fun c16 => ?_)
  · have h := (if_inv h).2 c16
    refine lv_aload_n hx hb dX9_works_9 rfl (lv_at hl 0 rfl) ?_
    refine r_getI C hG FX9_40 hk rfl dX9_works_10 ?_
    refine lv_if_ne (tgt := 24) hx hb dX9_works_13 (by decide) (fun c17 => ?_) (fun c17 => ?_)
    · have h := (if_inv h).2 c17
      exact j24 g _ _ _ hG (lv_sub hl [0] rfl) h
    · have h := (if_inv h).1 c17
      refine lv_aload_n hx hb dX9_works_16 rfl (lv_at hl 0 rfl) ?_
      refine lv_aload_n hx hb dX9_works_17 rfl (lv_at hl 0 rfl) ?_
      refine r_callVIP C hl.1 hG [] [.ref (E.ad o)] (m9_takes E l o hk g) LX9_67 hk KC9 rfl (rm_ok (by decide) (by decide)) (Nat.le_of_ble_eq_true rfl) ⟨Nat.le_refl _, Nat.le_refl _⟩ rfl dX9_works_18 h (fun u18 H locs hG h => ?_)
      refine r_putI C hG FX9_40 hk rfl dX9_works_21 h (fun H locs g19 hG h => ?_)
      exact j24 g19 _ _ _ hG (lv_sub hl [0] rfl) h
  · have h := (if_inv h).1 c16
    refine lv_iconst (v := 0) hx hb dX9_works_7 (by decide) ?_
    exact r_iret C hG hr rfl dX9_works_8 h
