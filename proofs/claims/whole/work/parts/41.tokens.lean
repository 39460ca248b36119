def k6_kindAt  (a1 : Int32) (g : G) : Option (Int32) :=
  if a1 < 0 then
    some 0
  else
    if (g 3 5) ≤ a1 then
      some 0
    else
      ld g 4 401 a1 fun x3 =>
      some x3
set_option maxRecDepth 100000 in
set_option maxHeartbeats 4000000 in
theorem m6_kindAt (E : EV) (l : Launch) (a1 : Int32) (g : G) : ∀ u, k6_kindAt a1 g = some u → MI E l yX6_kindAt cX6_kindAt 2 (some .int) 0 0 0 [.ref (E.ad 3), .int a1] g (u, g) := by
  intro u h
  refine MG.of (by decide +kernel) (Nat.le_of_ble_eq_true rfl) ?_
  intro p e s m args below meth c C hr hnm ls hl hG
  have C : Cx p s m args meth c cX6_kindAt 2 RX6 E := C
  have hx := C.1
  have hb := C.2.1
  have hl : lv_has ls 2 [(0, .ref (E.ad 3)), (1, .int a1)] := hl
  unfold k6_kindAt at h
  refine lv_iload_n hx hb dX6_kindAt_0 rfl (lv_at hl 1 rfl) ?_
  refine lv_if_lt (tgt := 21) hx hb dX6_kindAt_1 (by decide) (fun c1 => ?_) (fun c1 => ?_)
  · have h := (if_inv h).1 c1
    refine lv_iconst (v := 0) hx hb dX6_kindAt_21 (by decide) ?_
    exact r_iretP C hG hr rfl dX6_kindAt_22 h
  · have h := (if_inv h).2 c1
    refine lv_iload_n hx hb dX6_kindAt_4 rfl (lv_at hl 1 rfl) ?_
    refine lv_aload_n hx hb dX6_kindAt_5 rfl (lv_at hl 0 rfl) ?_
    refine r_getI C hG FX6_28 rfl rfl dX6_kindAt_6 ?_
    refine lv_icmp_ge (tgt := 21) hx hb dX6_kindAt_9 (by decide) (fun c2 => ?_) (fun c2 => ?_)
    · have h := (if_inv h).1 c2
      refine lv_iconst (v := 0) hx hb dX6_kindAt_21 (by decide) ?_
      exact r_iretP C hG hr rfl dX6_kindAt_22 h
    · have h := (if_inv h).2 c2
      refine lv_aload_n hx hb dX6_kindAt_12 rfl (lv_at hl 0 rfl) ?_
      refine r_getA (j := 4) C hG FX6_9 rfl rfl dX6_kindAt_13 ?_
      refine lv_iload_n hx hb dX6_kindAt_16 rfl (lv_at hl 1 rfl) ?_
      refine r_ild C hG (N := 401) rfl (by decide) dX6_kindAt_17 h (fun x3 h => ?_)
      refine lv_goto (tgt := 22) hx hb dX6_kindAt_18 (by decide) ?_
      exact r_iretP C hG hr rfl dX6_kindAt_22 h
def k6_valueAt  (a1 : Int32) (g : G) : Option (Int32) :=
  if a1 < 0 then
    some 0
  else
    if (g 3 5) ≤ a1 then
      some 0
    else
      ld g 7 401 a1 fun x3 =>
      some x3
set_option maxRecDepth 100000 in
set_option maxHeartbeats 4000000 in
theorem m6_valueAt (E : EV) (l : Launch) (a1 : Int32) (g : G) : ∀ u, k6_valueAt a1 g = some u → MI E l yX6_valueAt cX6_valueAt 2 (some .int) 0 0 0 [.ref (E.ad 3), .int a1] g (u, g) := by
  intro u h
  refine MG.of (by decide +kernel) (Nat.le_of_ble_eq_true rfl) ?_
  intro p e s m args below meth c C hr hnm ls hl hG
  have C : Cx p s m args meth c cX6_valueAt 2 RX6 E := C
  have hx := C.1
  have hb := C.2.1
  have hl : lv_has ls 2 [(0, .ref (E.ad 3)), (1, .int a1)] := hl
  unfold k6_valueAt at h
  refine lv_iload_n hx hb dX6_valueAt_0 rfl (lv_at hl 1 rfl) ?_
  refine lv_if_lt (tgt := 21) hx hb dX6_valueAt_1 (by decide) (fun c1 => ?_) (fun c1 => ?_)
  · have h := (if_inv h).1 c1
    refine lv_iconst (v := 0) hx hb dX6_valueAt_21 (by decide) ?_
    exact r_iretP C hG hr rfl dX6_valueAt_22 h
  · have h := (if_inv h).2 c1
    refine lv_iload_n hx hb dX6_valueAt_4 rfl (lv_at hl 1 rfl) ?_
    refine lv_aload_n hx hb dX6_valueAt_5 rfl (lv_at hl 0 rfl) ?_
    refine r_getI C hG FX6_28 rfl rfl dX6_valueAt_6 ?_
    refine lv_icmp_ge (tgt := 21) hx hb dX6_valueAt_9 (by decide) (fun c2 => ?_) (fun c2 => ?_)
    · have h := (if_inv h).1 c2
      refine lv_iconst (v := 0) hx hb dX6_valueAt_21 (by decide) ?_
      exact r_iretP C hG hr rfl dX6_valueAt_22 h
    · have h := (if_inv h).2 c2
      refine lv_aload_n hx hb dX6_valueAt_12 rfl (lv_at hl 0 rfl) ?_
      refine r_getA (j := 7) C hG FX6_21 rfl rfl dX6_valueAt_13 ?_
      refine lv_iload_n hx hb dX6_valueAt_16 rfl (lv_at hl 1 rfl) ?_
      refine r_ild C hG (N := 401) rfl (by decide) dX6_valueAt_17 h (fun x3 h => ?_)
      refine lv_goto (tgt := 22) hx hb dX6_valueAt_18 (by decide) ?_
      exact r_iretP C hG hr rfl dX6_valueAt_22 h
def k6_setValue  (a1 : Int32) (a2 : Int32) (g : G) : Option (G) :=
  if a1 < 0 then
    some g
  else
    if (g 3 5) ≤ a1 then
      some g
    else
      sto g 7 401 a1 a2 fun g3 =>
      some g3
set_option maxRecDepth 100000 in
set_option maxHeartbeats 4000000 in
theorem m6_setValue (E : EV) (l : Launch) (a1 : Int32) (a2 : Int32) (g : G) : ∀ u, k6_setValue a1 a2 g = some u → MV E l yX6_setValue cX6_setValue 3 none 0 0 0 [.ref (E.ad 3), .int a1, .int a2] g u := by
  intro u h
  refine MG.of (by decide +kernel) (Nat.le_of_ble_eq_true rfl) ?_
  intro p e s m args below meth c C hr hnm ls hl hG
  have C : Cx p s m args meth c cX6_setValue 3 RX6 E := C
  have hx := C.1
  have hb := C.2.1
  have hl : lv_has ls 3 [(0, .ref (E.ad 3)), (1, .int a1), (2, .int a2)] := hl
  unfold k6_setValue at h
  refine lv_iload_n hx hb dX6_setValue_0 rfl (lv_at hl 1 rfl) ?_
  refine lv_if_lt (tgt := 19) hx hb dX6_setValue_1 (by decide) (fun c1 => ?_) (fun c1 => ?_)
  · have h := (if_inv h).1 c1
    exact r_vret C hG hr dX6_setValue_19 h
  · have h := (if_inv h).2 c1
    refine lv_iload_n hx hb dX6_setValue_4 rfl (lv_at hl 1 rfl) ?_
    refine lv_aload_n hx hb dX6_setValue_5 rfl (lv_at hl 0 rfl) ?_
    refine r_getI C hG FX6_28 rfl rfl dX6_setValue_6 ?_
    refine lv_icmp_ge (tgt := 19) hx hb dX6_setValue_9 (by decide) (fun c2 => ?_) (fun c2 => ?_)
    · have h := (if_inv h).1 c2
      exact r_vret C hG hr dX6_setValue_19 h
    · have h := (if_inv h).2 c2
      refine lv_aload_n hx hb dX6_setValue_12 rfl (lv_at hl 0 rfl) ?_
      refine r_getA (j := 7) C hG FX6_21 rfl rfl dX6_setValue_13 ?_
      refine lv_iload_n hx hb dX6_setValue_16 rfl (lv_at hl 1 rfl) ?_
      refine lv_iload_n hx hb dX6_setValue_17 rfl (lv_at hl 2 rfl) ?_
      refine r_ist C hG (N := 401) rfl (by decide) dX6_setValue_18 h (fun H locs g3 hG h => ?_)
      exact r_vret C hG hr dX6_setValue_19 h
def k6_positionOf_21  (g : G) : Option (Int32) :=
      some (g 1 1)
def k6_positionOf  (a1 : Int32) (g : G) : Option (Int32) :=
  if a1 < 0 then
    k6_positionOf_21 g
  else
    if (g 3 5) ≤ a1 then
      k6_positionOf_21 g
    else
      ld g 5 401 a1 fun x3 =>
      some x3
set_option maxRecDepth 100000 in
set_option maxHeartbeats 4000000 in
theorem m6_positionOf (E : EV) (l : Launch) (a1 : Int32) (g : G) : ∀ u, k6_positionOf a1 g = some u → MI E l yX6_positionOf cX6_positionOf 2 (some .int) 0 0 0 [.ref (E.ad 3), .int a1] g (u, g) := by
  intro u h
  refine MG.of (by decide +kernel) (Nat.le_of_ble_eq_true rfl) ?_
  intro p e s m args below meth c C hr hnm ls hl hG
  have C : Cx p s m args meth c cX6_positionOf 2 RX6 E := C
  have hx := C.1
  have hb := C.2.1
  have hl : lv_has ls 2 [(0, .ref (E.ad 3)), (1, .int a1)] := hl
  unfold k6_positionOf at h
  have j21 : ∀ (H : Heap) (locs : List Loc) (ls : Array Slot), Gd E s H locs g [] → lv_has ls 2 [(0, .ref (E.ad 3))] → k6_positionOf_21 g  = some u → W p l e (rmD 0 0 0) s m args below meth c H locs 0 0 (MQ below (QI E s.heap.size u g) args s 0 0 (AA E s.heap.size)) (F0 m 21 ls []) := by
    intro  H locs ls hG hl h
    unfold k6_positionOf_21 at h
    refine lv_aload_n hx hb dX6_positionOf_21 rfl (lv_at hl 0 rfl) ?_
    refine r_getA (j := 1) C hG FX6_24 rfl rfl dX6_positionOf_22 ?_
    refine r_getI C hG FX6_32 rfl rfl dX6_positionOf_25 ?_
    exact r_iretP C hG hr rfl dX6_positionOf_28 h
  refine lv_iload_n hx hb dX6_positionOf_0 rfl (lv_at hl 1 rfl) ?_
  refine lv_if_lt (tgt := 21) hx hb dX6_positionOf_1 (by decide) (fun c1 => ?_) (fun c1 => ?_)
  · have h := (if_inv h).1 c1
    exact j21  _ _ _ hG (lv_sub hl [0] rfl) h
  · have h := (if_inv h).2 c1
    refine lv_iload_n hx hb dX6_positionOf_4 rfl (lv_at hl 1 rfl) ?_
    refine lv_aload_n hx hb dX6_positionOf_5 rfl (lv_at hl 0 rfl) ?_
    refine r_getI C hG FX6_28 rfl rfl dX6_positionOf_6 ?_
    refine lv_icmp_ge (tgt := 21) hx hb dX6_positionOf_9 (by decide) (fun c2 => ?_) (fun c2 => ?_)
    · have h := (if_inv h).1 c2
      exact j21  _ _ _ hG (lv_sub hl [0] rfl) h
    · have h := (if_inv h).2 c2
      refine lv_aload_n hx hb dX6_positionOf_12 rfl (lv_at hl 0 rfl) ?_
      refine r_getA (j := 5) C hG FX6_15 rfl rfl dX6_positionOf_13 ?_
      refine lv_iload_n hx hb dX6_positionOf_16 rfl (lv_at hl 1 rfl) ?_
      refine r_ild C hG (N := 401) rfl (by decide) dX6_positionOf_17 h (fun x3 h => ?_)
      refine lv_goto (tgt := 28) hx hb dX6_positionOf_18 (by decide) ?_
      exact r_iretP C hG hr rfl dX6_positionOf_28 h
def k6_areSameNames  (a1 : Int32) (a2 : Int32) (g : G) : Option (Int32) :=
  if a1 < 0 then
    some 0
  else
    if (g 3 5) ≤ a1 then
      some 0
    else
      if a2 < 0 then
        some 0
      else
        if a2 < (g 3 5) then
          ld g 6 401 a1 fun x5 =>
          ld g 6 401 a2 fun x6 =>
          if x5 = x6 then
            ld g 5 401 a1 fun x8 =>
            ld g 5 401 a2 fun x9 =>
            ld g 6 401 a1 fun x10 =>
            (k5_holdsSame x8 x9 x10 g).bind fun u11 =>
            if u11 = 0 then
              some 0
            else
              some 1
          else
            some 0
        else
          some 0
set_option maxRecDepth 100000 in
set_option maxHeartbeats 4000000 in
theorem m6_areSameNames (E : EV) (l : Launch) (a1 : Int32) (a2 : Int32) (g : G) : ∀ u, k6_areSameNames a1 a2 g = some u → MI E l yX6_areSameNames cX6_areSameNames 3 (some .boolean) 1 0 0 [.ref (E.ad 3), .int a1, .int a2] g (u, g) := by
  intro u h
  refine MG.of (by decide +kernel) (Nat.le_of_ble_eq_true rfl) ?_
  intro p e s m args below meth c C hr hnm ls hl hG
  have C : Cx p s m args meth c cX6_areSameNames 3 RX6 E := C
  have hx := C.1
  have hb := C.2.1
  have hl : lv_has ls 3 [(0, .ref (E.ad 3)), (1, .int a1), (2, .int a2)] := hl
  unfold k6_areSameNames at h
  refine lv_iload_n hx hb dX6_areSameNames_0 rfl (lv_at hl 1 rfl) ?_
  refine lv_if_lt (tgt := 24) hx hb dX6_areSameNames_1 (by decide) (fun c1 => ?_) (fun c1 => ?_)
  · have h := (if_inv h).1 c1
    refine lv_iconst (v := 0) hx hb dX6_areSameNames_24 (by decide) ?_
    exact r_iretP C hG hr rfl dX6_areSameNames_25 h
  · have h := (if_inv h).2 c1
    refine lv_iload_n hx hb dX6_areSameNames_4 rfl (lv_at hl 1 rfl) ?_
    refine lv_aload_n hx hb dX6_areSameNames_5 rfl (lv_at hl 0 rfl) ?_
    refine r_getI C hG FX6_28 rfl rfl dX6_areSameNames_6 ?_
    refine lv_icmp_ge (tgt := 24) hx hb dX6_areSameNames_9 (by decide) (fun c2 => ?_) (fun c2 => ?_)
    · have h := (if_inv h).1 c2
      refine lv_iconst (v := 0) hx hb dX6_areSameNames_24 (by decide) ?_
      exact r_iretP C hG hr rfl dX6_areSameNames_25 h
    · have h := (if_inv h).2 c2
      refine lv_iload_n hx hb dX6_areSameNames_12 rfl (lv_at hl 2 rfl) ?_
      refine lv_if_lt (tgt := 24) hx hb dX6_areSameNames_13 (by decide) (fun c3 => ?_) (fun c3 => ?_)
      · have h := (if_inv h).1 c3
        refine lv_iconst (v := 0) hx hb dX6_areSameNames_24 (by decide) ?_
        exact r_iretP C hG hr rfl dX6_areSameNames_25 h
      · have h := (if_inv h).2 c3
        refine lv_iload_n hx hb dX6_areSameNames_16 rfl (lv_at hl 2 rfl) ?_
        refine lv_aload_n hx hb dX6_areSameNames_17 rfl (lv_at hl 0 rfl) ?_
        refine r_getI C hG FX6_28 rfl rfl dX6_areSameNames_18 ?_
        refine lv_icmp_lt (tgt := 26) hx hb dX6_areSameNames_21 (by decide) (fun c4 => ?_) (fun c4 => ?_)
        · have h := (if_inv h).1 c4
          refine lv_aload_n hx hb dX6_areSameNames_26 rfl (lv_at hl 0 rfl) ?_
          refine r_getA (j := 6) C hG FX6_18 rfl rfl dX6_areSameNames_27 ?_
          refine lv_iload_n hx hb dX6_areSameNames_30 rfl (lv_at hl 1 rfl) ?_
          refine r_ild C hG (N := 401) rfl (by decide) dX6_areSameNames_31 h (fun x5 h => ?_)
          refine lv_aload_n hx hb dX6_areSameNames_32 rfl (lv_at hl 0 rfl) ?_
          refine r_getA (j := 6) C hG FX6_18 rfl rfl dX6_areSameNames_33 ?_
          refine lv_iload_n hx hb dX6_areSameNames_36 rfl (lv_at hl 2 rfl) ?_
          refine r_ild C hG (N := 401) rfl (by decide) dX6_areSameNames_37 h (fun x6 h => ?_)
          refine lv_icmp_ne (tgt := 73) hx hb dX6_areSameNames_38 (by decide) (fun c7 => ?_) (fun c7 => ?_)
          · have h := (if_inv h).2 c7
            refine lv_iconst (v := 0) hx hb dX6_areSameNames_73 (by decide) ?_
            exact r_iretP C hG hr rfl dX6_areSameNames_74 h
          · have h := (if_inv h).1 c7
            refine lv_aload_n hx hb dX6_areSameNames_41 rfl (lv_at hl 0 rfl) ?_
            refine r_getA (j := 1) C hG FX6_24 rfl rfl dX6_areSameNames_42 ?_
            refine lv_aload_n hx hb dX6_areSameNames_45 rfl (lv_at hl 0 rfl) ?_
            refine r_getA (j := 5) C hG FX6_15 rfl rfl dX6_areSameNames_46 ?_
            refine lv_iload_n hx hb dX6_areSameNames_49 rfl (lv_at hl 1 rfl) ?_
            refine r_ild C hG (N := 401) rfl (by decide) dX6_areSameNames_50 h (fun x8 h => ?_)
            refine lv_aload_n hx hb dX6_areSameNames_51 rfl (lv_at hl 0 rfl) ?_
            refine r_getA (j := 5) C hG FX6_15 rfl rfl dX6_areSameNames_52 ?_
            refine lv_iload_n hx hb dX6_areSameNames_55 rfl (lv_at hl 2 rfl) ?_
            refine r_ild C hG (N := 401) rfl (by decide) dX6_areSameNames_56 h (fun x9 h => ?_)
            refine lv_aload_n hx hb dX6_areSameNames_57 rfl (lv_at hl 0 rfl) ?_
            refine r_getA (j := 6) C hG FX6_18 rfl rfl dX6_areSameNames_58 ?_
            refine lv_iload_n hx hb dX6_areSameNames_61 rfl (lv_at hl 1 rfl) ?_
            refine r_ild C hG (N := 401) rfl (by decide) dX6_areSameNames_62 h (fun x10 h => ?_)
            refine r_callVIP C hl.1 hG [.int x8, .int x9, .int x10] [] (m5_holdsSame E l x8 x9 x10 g) LX6_37 rfl KC5 rfl (rm_ok (by decide) (by decide)) (Nat.le_of_ble_eq_true rfl) ⟨Nat.le_refl _, Nat.le_refl _⟩ rfl dX6_areSameNames_63 h (fun u11 H locs hG h => ?_)
            refine lv_if_eq (tgt := 73) hx hb dX6_areSameNames_66 (by decide) (fun c12 => ?_) (fun c12 => ?_)
            · have h := (if_inv h).1 c12
              refine lv_iconst (v := 0) hx hb dX6_areSameNames_73 (by decide) ?_
              exact r_iretP C hG hr rfl dX6_areSameNames_74 h
            · have h := (if_inv h).2 c12
              refine lv_iconst (v := 1) hx hb dX6_areSameNames_69 (by decide) ?_
              refine lv_goto (tgt := 74) hx hb dX6_areSameNames_70 (by decide) ?_
              exact r_iretP C hG hr rfl dX6_areSameNames_74 h
        · have h := (if_inv h).2 c4
          refine lv_iconst (v := 0) hx hb dX6_areSameNames_24 (by decide) ?_
          exact r_iretP C hG hr rfl dX6_areSameNames_25 h
def k6_add  (a1 : Int32) (a2 : Int32) (a3 : Int32) (g : G) : Option (G) :=
  if (g 3 5) ≤ 400 then
    sto g 4 401 (g 3 5) a1 fun g2 =>
    sto g2 5 401 (g2 3 5) a2 fun g3 =>
    sto g3 6 401 (g3 3 5) (a3 - a2) fun g4 =>
    sto g4 7 401 (g4 3 5) 0 fun g5 =>
    bd (up g5 3 5 ((g5 3 5) + 1)) fun g6 =>
    some g6
  else
    some g
set_option maxRecDepth 100000 in
set_option maxHeartbeats 4000000 in
theorem m6_add (E : EV) (l : Launch) (a1 : Int32) (a2 : Int32) (a3 : Int32) (g : G) : ∀ u, k6_add a1 a2 a3 g = some u → MV E l yX6_add cX6_add 4 none 0 0 0 [.ref (E.ad 3), .int a1, .int a2, .int a3] g u := by
  intro u h
  refine MG.of (by decide +kernel) (Nat.le_of_ble_eq_true rfl) ?_
  intro p e s m args below meth c C hr hnm ls hl hG
  have C : Cx p s m args meth c cX6_add 4 RX6 E := C
  have hx := C.1
  have hb := C.2.1
  have hl : lv_has ls 4 [(0, .ref (E.ad 3)), (1, .int a1), (2, .int a2), (3, .int a3)] := hl
  unfold k6_add at h
  refine lv_aload_n hx hb dX6_add_0 rfl (lv_at hl 0 rfl) ?_
  refine r_getI C hG FX6_28 rfl rfl dX6_add_1 ?_
  refine lv_sipush (v := 400) hx hb dX6_add_4 (by decide) ?_
  refine lv_icmp_le (tgt := 11) hx hb dX6_add_7 (by decide) (fun c1 => ?_) (fun c1 => ?_)
  · have h := (if_inv h).1 c1
    refine lv_aload_n hx hb dX6_add_11 rfl (lv_at hl 0 rfl) ?_
    refine r_getA (j := 4) C hG FX6_9 rfl rfl dX6_add_12 ?_
    refine lv_aload_n hx hb dX6_add_15 rfl (lv_at hl 0 rfl) ?_
    refine r_getI C hG FX6_28 rfl rfl dX6_add_16 ?_
    refine lv_iload_n hx hb dX6_add_19 rfl (lv_at hl 1 rfl) ?_
    refine r_ist C hG (N := 401) rfl (by decide) dX6_add_20 h (fun H locs g2 hG h => ?_)
    refine lv_aload_n hx hb dX6_add_21 rfl (lv_at hl 0 rfl) ?_
    refine r_getA (j := 5) C hG FX6_15 rfl rfl dX6_add_22 ?_
    refine lv_aload_n hx hb dX6_add_25 rfl (lv_at hl 0 rfl) ?_
    refine r_getI C hG FX6_28 rfl rfl dX6_add_26 ?_
    refine lv_iload_n hx hb dX6_add_29 rfl (lv_at hl 2 rfl) ?_
    refine r_ist C hG (N := 401) rfl (by decide) dX6_add_30 h (fun H locs g3 hG h => ?_)
    refine lv_aload_n hx hb dX6_add_31 rfl (lv_at hl 0 rfl) ?_
    refine r_getA (j := 6) C hG FX6_18 rfl rfl dX6_add_32 ?_
    refine lv_aload_n hx hb dX6_add_35 rfl (lv_at hl 0 rfl) ?_
    refine r_getI C hG FX6_28 rfl rfl dX6_add_36 ?_
    refine lv_iload_n hx hb dX6_add_39 rfl (lv_at hl 3 rfl) ?_
    refine lv_iload_n hx hb dX6_add_40 rfl (lv_at hl 2 rfl) ?_
    refine lv_isub hx hb dX6_add_41 ?_
    refine r_ist C hG (N := 401) rfl (by decide) dX6_add_42 h (fun H locs g4 hG h => ?_)
    refine lv_aload_n hx hb dX6_add_43 rfl (lv_at hl 0 rfl) ?_
    refine r_getA (j := 7) C hG FX6_21 rfl rfl dX6_add_44 ?_
    refine lv_aload_n hx hb dX6_add_47 rfl (lv_at hl 0 rfl) ?_
    refine r_getI C hG FX6_28 rfl rfl dX6_add_48 ?_
    refine lv_iconst (v := 0) hx hb dX6_add_51 (by decide) ?_
    refine r_ist C hG (N := 401) rfl (by decide) dX6_add_52 h (fun H locs g5 hG h => ?_)
    refine lv_aload_n hx hb dX6_add_53 rfl (lv_at hl 0 rfl) ?_
    refine lv_dup hx hb dX6_add_54 rfl ?_
    refine r_getI C hG FX6_28 rfl rfl dX6_add_55 ?_
    refine lv_iconst (v := 1) hx hb dX6_add_58 (by decide) ?_
    refine lv_iadd hx hb dX6_add_59 ?_
    refine r_putI C hG FX6_28 rfl rfl dX6_add_60 h (fun H locs g6 hG h => ?_)
    exact r_vret C hG hr dX6_add_63 h
  · have h := (if_inv h).2 c1
    exact r_vret C hG hr dX6_add_10 h
def k6_readNumber_24  : Nat → Int32 → Int32 → Int32 → Int32 → G → Option (Int32 × G)
  | 0, _, _, _, _, _ => none
  | f + 1, v1, v2, v3, v4, g =>
        if v2 ≤ v4 then
          (k6_add 3 v1 v2 g).bind fun g2 =>
          (k6_setValue ((g2 3 5) - 1) v3 g2).bind fun g3 =>
          some (v2, g3)
        else
          (k5_byteAt v4 g).bind fun u4 =>
          bd ((v3 * 10) + (u4 - 48)) fun x5 =>
          bd (v4 + 1) fun x6 =>
          k6_readNumber_24 f v1 v2 x5 x6 g
def k6_readNumber  (a1 : Int32) (g : G) : Option (Int32 × G) :=
  (k5_skipDigits a1 g).bind fun u7 =>
  if (u7 - a1) ≤ 6 then
    k6_readNumber_24 FU a1 u7 0 a1 g
  else
    some ((-1), g)
set_option maxRecDepth 100000 in
set_option maxHeartbeats 4000000 in
theorem m6_readNumber (E : EV) (l : Launch) (a1 : Int32) (g : G) : ∀ u, k6_readNumber a1 g = some u → MI E l yX6_readNumber cX6_readNumber 5 (some .int) 2 0 0 [.ref (E.ad 3), .int a1] g u := by
  intro u h
  refine MG.of (by decide +kernel) (Nat.le_of_ble_eq_true rfl) ?_
  intro p e s m args below meth c C hr hnm ls hl hG
  have C : Cx p s m args meth c cX6_readNumber 5 RX6 E := C
  have hx := C.1
  have hb := C.2.1
  have hl : lv_has ls 5 [(0, .ref (E.ad 3)), (1, .int a1)] := hl
  unfold k6_readNumber at h
  have j24 : ∀ f : Nat, ∀ (v1 : Int32) (v2 : Int32) (v3 : Int32) (v4 : Int32) (g : G) (H : Heap) (locs : List Loc) (ls : Array Slot), Gd E s H locs g [] → lv_has ls 5 [(0, .ref (E.ad 3)), (1, .int v1), (2, .int v2), (3, .int v3), (4, .int v4)] → k6_readNumber_24 f v1 v2 v3 v4 g = some u → W p l e (rmD 2 0 0) s m args below meth c H locs 0 0 (MQ below (QI E s.heap.size u.1 u.2) args s 0 0 (AA E s.heap.size)) (F0 m 24 ls []) := by
    intro f
    induction f with
    | zero =>
      intro v1 v2 v3 v4 g H locs ls hG hl h
      unfold k6_readNumber_24 at h
      cases h
    | succ f ih =>
      intro v1 v2 v3 v4 g H locs ls hG hl h
      unfold k6_readNumber_24 at h
      refine lv_iload hx hb dX6_readNumber_24 (lv_at hl 4 rfl) ?_
      refine lv_iload_n hx hb dX6_readNumber_26 rfl (lv_at hl 2 rfl) ?_
      refine lv_icmp_ge (tgt := 54) hx hb dX6_readNumber_27 (by decide) (fun c1 => ?_) (fun c1 => ?_)
      · have h := (if_inv h).1 c1
        refine lv_aload_n hx hb dX6_readNumber_54 rfl (lv_at hl 0 rfl) ?_
        refine lv_iconst (v := 3) hx hb dX6_readNumber_55 (by decide) ?_
        refine lv_iload_n hx hb dX6_readNumber_56 rfl (lv_at hl 1 rfl) ?_
        refine lv_iload_n hx hb dX6_readNumber_57 rfl (lv_at hl 2 rfl) ?_
        refine r_callVV C hl.1 hG [.int 3, .int v1, .int v2] [] (m6_add E l 3 v1 v2 g) LX6_48 rfl KC6 rfl (rm_ok (by decide) (by decide)) (Nat.le_of_ble_eq_true rfl) ⟨Nat.le_refl _, Nat.le_refl _⟩ rfl dX6_readNumber_58 h (fun g2 H locs hG h => ?_)
        refine lv_aload_n hx hb dX6_readNumber_61 rfl (lv_at hl 0 rfl) ?_
        refine lv_aload_n hx hb dX6_readNumber_62 rfl (lv_at hl 0 rfl) ?_
        refine r_getI C hG FX6_28 rfl rfl dX6_readNumber_63 ?_
        refine lv_iconst (v := 1) hx hb dX6_readNumber_66 (by decide) ?_
        refine lv_isub hx hb dX6_readNumber_67 ?_
        refine lv_iload_n hx hb dX6_readNumber_68 rfl (lv_at hl 3 rfl) ?_
        refine r_callVV C hl.1 hG [.int ((g2 3 5) - 1), .int v3] [] (m6_setValue E l ((g2 3 5) - 1) v3 g2) LX6_86 rfl KC6 rfl (rm_ok (by decide) (by decide)) (Nat.le_of_ble_eq_true rfl) ⟨Nat.le_refl _, Nat.le_refl _⟩ rfl dX6_readNumber_69 h (fun g3 H locs hG h => ?_)
        refine lv_iload_n hx hb dX6_readNumber_72 rfl (lv_at hl 2 rfl) ?_
        exact r_iret C hG hr rfl dX6_readNumber_73 h
      · have h := (if_inv h).2 c1
        refine lv_iload_n hx hb dX6_readNumber_30 rfl (lv_at hl 3 rfl) ?_
        refine lv_bipush (v := 10) hx hb dX6_readNumber_31 (by decide) ?_
        refine lv_imul hx hb dX6_readNumber_33 ?_
        refine lv_aload_n hx hb dX6_readNumber_34 rfl (lv_at hl 0 rfl) ?_
        refine r_getA (j := 1) C hG FX6_24 rfl rfl dX6_readNumber_35 ?_
        refine lv_iload hx hb dX6_readNumber_38 (lv_at hl 4 rfl) ?_
        refine r_callVIP C hl.1 hG [.int v4] [.int (v3 * 10)] (m5_byteAt E l v4 g) LX6_52 rfl KC5 rfl (rm_ok (by decide) (by decide)) (Nat.le_of_ble_eq_true rfl) ⟨Nat.le_refl _, Nat.le_refl _⟩ rfl dX6_readNumber_40 h (fun u4 H locs hG h => ?_)
        refine lv_bipush (v := 48) hx hb dX6_readNumber_43 (by decide) ?_
        refine lv_isub hx hb dX6_readNumber_45 ?_
        refine lv_iadd hx hb dX6_readNumber_46 ?_
        refine r_nm h (fun x5 h => ?_)
        refine lv_istore_n (lv' := [(3, .int x5), (0, .ref (E.ad 3)), (1, .int v1), (2, .int v2), (4, .int v4)]) hx hb dX6_readNumber_47 rfl hl (by decide) rfl (fun ls hl => ?_)
        refine r_iinc (w := 1) (lv' := fun x6 => [(4, .int x6), (3, .int x5), (0, .ref (E.ad 3)), (1, .int v1), (2, .int v2)]) C dX6_readNumber_48 hl (k := 4) rfl (by decide) (by decide) (fun _ => rfl) h (fun x6 ls hl h => ?_)
        refine lv_goto (tgt := 24) hx hb dX6_readNumber_51 (by decide) ?_
        exact ih v1 v2 x5 x6 g _ _ _ hG (lv_sub hl [2, 3, 4, 1, 0] rfl) h
  refine lv_aload_n hx hb dX6_readNumber_0 rfl (lv_at hl 0 rfl) ?_
  refine r_getA (j := 1) C hG FX6_24 rfl rfl dX6_readNumber_1 ?_
  refine lv_iload_n hx hb dX6_readNumber_4 rfl (lv_at hl 1 rfl) ?_
  refine r_callVIP C hl.1 hG [.int a1] [] (m5_skipDigits E l a1 g) LX6_83 rfl KC5 rfl (rm_ok (by decide) (by decide)) (Nat.le_of_ble_eq_true rfl) ⟨Nat.le_refl _, Nat.le_refl _⟩ rfl dX6_readNumber_5 h (fun u7 H locs hG h => ?_)
  refine lv_istore_n (lv' := [(2, .int u7), (0, .ref (E.ad 3)), (1, .int a1)]) hx hb dX6_readNumber_8 rfl hl (by decide) rfl (fun ls hl => ?_)
  refine lv_iload_n hx hb dX6_readNumber_9 rfl (lv_at hl 0 rfl) ?_
  refine lv_iload_n hx hb dX6_readNumber_10 rfl (lv_at hl 2 rfl) ?_
  refine lv_isub hx hb dX6_readNumber_11 ?_
  refine lv_bipush (v := 6) hx hb dX6_readNumber_12 (by decide) ?_
  refine lv_icmp_le (tgt := 19) hx hb dX6_readNumber_14 (by decide) (fun c8 => ?_) (fun c8 => ?_)
  · have h := (if_inv h).1 c8
    refine lv_iconst (v := 0) hx hb dX6_readNumber_19 (by decide) ?_
    refine lv_istore_n (lv' := [(3, .int 0), (2, .int u7), (0, .ref (E.ad 3)), (1, .int a1)]) hx hb dX6_readNumber_20 rfl hl (by decide) rfl (fun ls hl => ?_)
    refine lv_iload_n hx hb dX6_readNumber_21 rfl (lv_at hl 3 rfl) ?_
    refine lv_istore (lv' := [(4, .int a1), (3, .int 0), (2, .int u7), (0, .ref (E.ad 3)), (1, .int a1)]) hx hb dX6_readNumber_22 hl (by decide) rfl (fun ls hl => ?_)
    exact j24 FU a1 u7 0 a1 g _ _ _ hG (lv_sub hl [3, 4, 2, 1, 0] rfl) h
  · have h := (if_inv h).2 c8
    refine lv_iconst (v := (-1)) hx hb dX6_readNumber_17 (by decide) ?_
    exact r_iret C hG hr rfl dX6_readNumber_18 h
