def k6_kindAt  (a1 : Int32) (g : G) : Option (Int32) :=
  if a1 < 0 then
    some 0
  else
    if (g 3 5) ≤ a1 then
      some 0
    else
      ld g 4 401 a1 fun x3 =>
      some x3
set_option maxRecDepth 100000 in
set_option maxHeartbeats 4000000 in
theorem m6_kindAt (E : EV) (l : Launch) (a1 : Int32) (g : G) : ∀ u, k6_kindAt a1 g = some u → MI E l yX6_kindAt cX6_kindAt 2 (some .int) 0 0 0 [.ref (E.ad 3), .int a1] g (u, g) := by
  intro u h
  refine MG.of (by decide +kernel) (Nat.le_of_ble_eq_true rfl) ?_
  intro p e s m args below meth c C hr hnm ls hl hG
  have C : Cx p s m args meth c cX6_kindAt 2 RX6 E := C
  have hx := C.1
  have hb := C.2.1
  have hl : lv_has ls 2 [(0, .ref (E.ad 3)), (1, .int a1)] := hl
  unfold k6_kindAt at h
  refine lv_iload_n hx hb dX6_kindAt_0 rfl (lv_at hl 1 rfl) ?_
  refine lv_if_lt (tgt := 21) hx hb dX6_kindAt_1 (by decide) (fun c1 => ?_) (fun c1 => ?_)
  · have h := (if_inv h).1 c1
    refine lv_iconst (v := 0) hx hb dX6_kindAt_21 (by decide) ?_
    exact r_iretP C hG hr rfl dX6_kindAt_22 h
  · have h := (if_inv h).2 c1
    refine lv_iload_n hx hb dX6_kindAt_4 rfl (lv_at hl 1 rfl) ?_
    refine lv_aload_n hx hb dX6_kindAt_5 rfl (lv_at hl 0 rfl) ?_
    refine r_getI C hG FX6_28 rfl rfl dX6_kindAt_6 ?_
    refine lv_icmp_ge (tgt := 21) hx hb dX6_kindAt_9 (by decide) (fun c2 => ?_) (fun c2 => ?_)
    · have h := (if_inv h).1 c2
      refine lv_iconst (v := 0) hx hb dX6_kindAt_21 (by decide) ?_
      exact r_iretP C hG hr rfl dX6_kindAt_22 h
    · have h := (if_inv h).2 c2
      refine lv_aload_n hx hb dX6_kindAt_12 rfl (lv_at hl 0 rfl) ?_
      refine r_getA (j := 4) C hG FX6_9 rfl rfl dX6_kindAt_13 ?_
      refine lv_iload_n hx hb dX6_kindAt_16 rfl (lv_at hl 1 rfl) ?_
      refine r_ild C hG (N := 401) rfl (by decide) dX6_kindAt_17 h (fun x3 h => ?_)
      refine lv_goto (tgt := 22) hx hb dX6_kindAt_18 (by decide) ?_
      exact r_iretP C hG hr rfl dX6_kindAt_22 h
def k6_valueAt  (a1 : Int32) (g : G) : Option (Int32) :=
  if a1 < 0 then
    some 0
  else
    if (g 3 5) ≤ a1 then
      some 0
    else
      ld g 7 401 a1 fun x3 =>
      some x3
set_option maxRecDepth 100000 in
set_option maxHeartbeats 4000000 in
theorem m6_valueAt (E : EV) (l : Launch) (a1 : Int32) (g : G) : ∀ u, k6_valueAt a1 g = some u → MI E l yX6_valueAt cX6_valueAt 2 (some .int) 0 0 0 [.ref (E.ad 3), .int a1] g (u, g) := by
  intro u h
  refine MG.of (by decide +kernel) (Nat.le_of_ble_eq_true rfl) ?_
  intro p e s m args below meth c C hr hnm ls hl hG
  have C : Cx p s m args meth c cX6_valueAt 2 RX6 E := C
  have hx := C.1
  have hb := C.2.1
  have hl : lv_has ls 2 [(0, .ref (E.ad 3)), (1, .int a1)] := hl
  unfold k6_valueAt at h
  refine lv_iload_n hx hb dX6_valueAt_0 rfl (lv_at hl 1 rfl) ?_
  refine lv_if_lt (tgt := 21) hx hb dX6_valueAt_1 (by decide) (fun c1 => ?_) (fun c1 => ?_)
  · have h := (if_inv h).1 c1
    refine lv_iconst (v := 0) hx hb dX6_valueAt_21 (by decide) ?_
    exact r_iretP C hG hr rfl dX6_valueAt_22 h
  · have h := (if_inv h).2 c1
    refine lv_iload_n hx hb dX6_valueAt_4 rfl (lv_at hl 1 rfl) ?_
    refine lv_aload_n hx hb dX6_valueAt_5 rfl (lv_at hl 0 rfl) ?_
    refine r_getI C hG FX6_28 rfl rfl dX6_valueAt_6 ?_
    refine lv_icmp_ge (tgt := 21) hx hb dX6_valueAt_9 (by decide) (fun c2 => ?_) (fun c2 => ?_)
    · have h := (if_inv h).1 c2
      refine lv_iconst (v := 0) hx hb dX6_valueAt_21 (by decide) ?_
      exact r_iretP C hG hr rfl dX6_valueAt_22 h
    · have h := (if_inv h).2 c2
      refine lv_aload_n hx hb dX6_valueAt_12 rfl (lv_at hl 0 rfl) ?_
      refine r_getA (j := 7) C hG FX6_21 rfl rfl dX6_valueAt_13 ?_
      refine lv_iload_n hx hb dX6_valueAt_16 rfl (lv_at hl 1 rfl) ?_
      refine r_ild C hG (N := 401) rfl (by decide) dX6_valueAt_17 h (fun x3 h => ?_)
      refine lv_goto (tgt := 22) hx hb dX6_valueAt_18 (by decide) ?_
      exact r_iretP C hG hr rfl dX6_valueAt_22 h
def k6_setValue  (a1 : Int32) (a2 : Int32) (g : G) : Option (G) :=
  if a1 < 0 then
    some g
  else
    if (g 3 5) ≤ a1 then
      some g
    else
      sto g 7 401 a1 a2 fun g3 =>
      some g3
set_option maxRecDepth 100000 in
set_option maxHeartbeats 4000000 in
theorem m6_setValue (E : EV) (l : Launch) (a1 : Int32) (a2 : Int32) (g : G) : ∀ u, k6_setValue a1 a2 g = some u → MV E l yX6_setValue cX6_setValue 3 none 0 0 0 [.ref (E.ad 3), .int a1, .int a2] g u := by
  intro u h
  refine MG.of (by decide +kernel) (Nat.le_of_ble_eq_true rfl) ?_
  intro p e s m args below meth c C hr hnm ls hl hG
  have C : Cx p s m args meth c cX6_setValue 3 RX6 E := C
  have hx := C.1
  have hb := C.2.1
  have hl : lv_has ls 3 [(0, .ref (E.ad 3)), (1, .int a1), (2, .int a2)] := hl
  unfold k6_setValue at h
  refine lv_iload_n hx hb dX6_setValue_0 rfl (lv_at hl 1 rfl) ?_
  refine lv_if_lt (tgt := 19) hx hb dX6_setValue_1 (by decide) (fun c1 => ?_) (fun c1 => ?_)
  · have h := (if_inv h).1 c1
    exact r_vret C hG hr dX6_setValue_19 h
  · have h := (if_inv h).2 c1
    refine lv_iload_n hx hb dX6_setValue_4 rfl (lv_at hl 1 rfl) ?_
    refine lv_aload_n hx hb dX6_setValue_5 rfl (lv_at hl 0 rfl) ?_
    refine r_getI C hG FX6_28 rfl rfl dX6_setValue_6 ?_
    refine lv_icmp_ge (tgt := 19) hx hb dX6_setValue_9 (by decide) (fun c2 => ?_) (fun c2 => ?_)
    · have h := (if_inv h).1 c2
      exact r_vret C hG hr dX6_setValue_19 h
    · have h := (if_inv h).2 c2
      refine lv_aload_n hx hb dX6_setValue_12 rfl (lv_at hl 0 rfl) ?_
      refine r_getA (j := 7) C hG FX6_21 rfl rfl dX6_setValue_13 ?_
      refine lv_iload_n hx hb dX6_setValue_16 rfl (lv_at hl 1 rfl) ?_
      refine lv_iload_n hx hb dX6_setValue_17 rfl (lv_at hl 2 rfl) ?_
      refine r_ist C hG (N := 401) rfl (by decide) dX6_setValue_18 h (fun H locs g3 hG h => ?_)
      exact r_vret C hG hr dX6_setValue_19 h
def k6_positionOf_21  (g : G) : Option (Int32) :=
      some (g 1 1)
def k6_positionOf  (a1 : Int32) (g : G) : Option (Int32) :=
  if a1 < 0 then
    k6_positionOf_21 g
  else
    if (g 3 5) ≤ a1 then
      k6_positionOf_21 g
    else
      ld g 5 401 a1 fun x3 =>
      some x3
set_option maxRecDepth 100000 in
set_option maxHeartbeats 4000000 in
theorem m6_positionOf (E : EV) (l : Launch) (a1 : Int32) (g : G) : ∀ u, k6_positionOf a1 g = some u → MI E l yX6_positionOf cX6_positionOf 2 (some .int) 0 0 0 [.ref (E.ad 3), .int a1] g (u, g) := by
  intro u h
  refine MG.of (by decide +kernel) (Nat.le_of_ble_eq_true rfl) ?_
  intro p e s m args below meth c C hr hnm ls hl hG
  have C : Cx p s m args meth c cX6_positionOf 2 RX6 E := C
  have hx := C.1
  have hb := C.2.1
  have hl : lv_has ls 2 [(0, .ref (E.ad 3)), (1, .int a1)] := hl
  unfold k6_positionOf at h
  have j21 : ∀ (H : Heap) (locs : List Loc) (ls : Array Slot), Gd E s H locs g [] → lv_has ls 2 [(0, .ref (E.ad 3))] → k6_positionOf_21 g  = some u → W p l e (rmD 0 0 0) s m args below meth c H locs 0 0 (MQ below (QI E s.heap.size u g) args s 0 0 (AA E s.heap.size)) (F0 m 21 ls []) := by
    intro  H locs ls hG hl h
    unfold k6_positionOf_21 at h
    refine lv_aload_n hx hb dX6_positionOf_21 rfl (lv_at hl 0 rfl) ?_
    refine r_getA (j := 1) C hG FX6_24 rfl rfl dX6_positionOf_22 ?_
    refine r_getI C hG FX6_32 rfl rfl dX6_positionOf_25 ?_
    exact r_iretP C hG hr rfl dX6_positionOf_28 h
  refine lv_iload_n hx hb dX6_positionOf_0 rfl (lv_at hl 1 rfl) ?_
  refine lv_if_lt (tgt := 21) hx hb dX6_positionOf_1 (by decide) (fun c1 => ?_) (fun c1 => ?_)
  · have h := (if_inv h).1 c1
    exact j21  _ _ _ hG (lv_sub hl [0] rfl) h
  · have h := (if_inv h).2 c1
    refine lv_iload_n hx hb dX6_positionOf_4 rfl (lv_at hl 1 rfl) ?_
    refine lv_aload_n hx hb dX6_positionOf_5 rfl (lv_at hl 0 rfl) ?_
    refine r_getI C hG FX6_28 rfl rfl dX6_positionOf_6 ?_
    refine lv_icmp_ge (tgt := 21) hx hb dX6_positionOf_9 (by decide) (fun c2 => ?_) (fun c2 => ?_)
    · have h := (if_inv h).1 c2
      exact j21  _ _ _ hG (lv_sub hl [0] rfl) h
    · have h := (if_inv h).2 c2
      refine lv_aload_n hx hb dX6_positionOf_12 rfl (lv_at hl 0 rfl) ?_
      refine r_getA (j := 5) C hG FX6_15 rfl rfl dX6_positionOf_13 ?_
      refine lv_iload_n hx hb dX6_positionOf_16 rfl (lv_at hl 1 rfl) ?_
      refine r_ild C hG (N := 401) rfl (by decide) dX6_positionOf_17 h (fun x3 h => ?_)
      refine lv_goto (tgt := 28) hx hb dX6_positionOf_18 (by decide) ?_
      exact r_iretP C hG hr rfl dX6_positionOf_28 h
def k6_areSameNames  (a1 : Int32) (a2 : Int32) (g : G) : Option (Int32) :=
  if a1 < 0 then
    some 0
  else
    if (g 3 5) ≤ a1 then
      some 0
    else
      if a2 < 0 then
        some 0
      else
        if a2 < (g 3 5) then
          ld g 6 401 a1 fun x5 =>
          ld g 6 401 a2 fun x6 =>
          if x5 = x6 then
            ld g 5 401 a1 fun x8 =>
            ld g 5 401 a2 fun x9 =>
            ld g 6 401 a1 fun x10 =>
            (k5_holdsSame x8 x9 x10 g).bind fun u11 =>
            if u11 = 0 then
              some 0
            else
              some 1
          else
            some 0
        else
          some 0
set_option maxRecDepth 100000 in
set_option maxHeartbeats 4000000 in
theorem m6_areSameNames (E : EV) (l : Launch) (a1 : Int32) (a2 : Int32) (g : G) : ∀ u, k6_areSameNames a1 a2 g = some u → MI E l yX6_areSameNames cX6_areSameNames 3 (some .boolean) 1 0 0 [.ref (E.ad 3), .int a1, .int a2] g (u, g) := by
  intro u h
  refine MG.of (by decide +kernel) (Nat.le_of_ble_eq_true rfl) ?_
  intro p e s m args below meth c C hr hnm ls hl hG
  have C : Cx p s m args meth c cX6_areSameNames 3 RX6 E := C
  have hx := C.1
  have hb := C.2.1
  have hl : lv_has ls 3 [(0, .ref (E.ad 3)), (1, .int a1), (2, .int a2)] := hl
  unfold k6_areSameNames at h
  refine lv_iload_n hx hb dX6_areSameNames_0 rfl (lv_at hl 1 rfl) ?_
  refine lv_if_lt (tgt := 24) hx hb dX6_areSameNames_1 (by decide) (fun c1 => ?_) (fun c1 => ?_)
  · have h := (if_inv h).1 c1
    refine lv_iconst (v := 0) hx hb dX6_areSameNames_24 (by decide) ?_
    exact r_iretP C hG hr rfl dX6_areSameNames_25 h
  · have h := (if_inv h).2 c1
    refine lv_iload_n hx hb dX6_areSameNames_4 rfl (lv_at hl 1 rfl) ?_
    refine lv_aload_n hx hb dX6_areSameNames_5 rfl (lv_at hl 0 rfl) ?_
    refine r_getI C hG FX6_28 rfl rfl dX6_areSameNames_6 ?_
    refine lv_icmp_ge (tgt := 24) hx hb dX6_areSameNames_9 (by decide) (fun c2 => ?_) (fun c2 => ?_)
    · have h := (if_inv h).1 c2
      refine lv_iconst (v := 0) hx hb dX6_areSameNames_24 (by decide) ?_
      exact r_iretP C hG hr rfl dX6_areSameNames_25 h
    · have h := (if_inv h).2 c2
      refine lv_iload_n hx hb dX6_areSameNames_12 rfl (lv_at hl 2 rfl) ?_
      refine lv_if_lt (tgt := 24) hx hb dX6_areSameNames_13 (by decide) (fun c3 => ?_) (fun c3 => ?_)
      · have h := (if_inv h).1 c3
        refine lv_iconst (v := 0) hx hb dX6_areSameNames_24 (by decide) ?_
        exact r_iretP C hG hr rfl dX6_areSameNames_25 h
      · have h := (if_inv h).2 c3
        refine lv_iload_n hx hb dX6_areSameNames_16 rfl (lv_at hl 2 rfl) ?_
        refine lv_aload_n hx hb dX6_areSameNames_17 rfl (lv_at hl 0 rfl) ?_
        refine r_getI C hG FX6_28 rfl rfl dX6_areSameNames_18 ?_
        refine lv_icmp_lt (tgt := 26) hx hb dX6_areSameNames_21 (by decide) (fun c4 => ?_) (fun c4 => ?_)
        · have h := (if_inv h).1 c4
          refine lv_aload_n hx hb dX6_areSameNames_26 rfl (lv_at hl 0 rfl) ?_
          refine r_getA (j := 6) C hG FX6_18 rfl rfl dX6_areSameNames_27 ?_
          refine lv_iload_n hx hb dX6_areSameNames_30 rfl (lv_at hl 1 rfl) ?_
          refine r_ild C hG (N := 401) rfl (by decide) dX6_areSameNames_31 h (fun x5 h => ?_)
          refine lv_aload_n hx hb dX6_areSameNames_32 rfl (lv_at hl 0 rfl) ?_
          refine r_getA (j := 6) C hG FX6_18 rfl rfl dX6_areSameNames_33 ?_
          refine lv_iload_n hx hb dX6_areSameNames_36 rfl (lv_at hl 2 rfl) ?_
          refine r_ild C hG (N := 401) rfl (by decide) dX6_areSameNames_37 h (fun x6 h => ?_)
          refine lv_icmp_ne (tgt := 73) hx hb dX6_areSameNames_38 (by decide) (fun c7 => ?_) (fun c7 => ?_)
          · have h := (if_inv h).2 c7
            refine lv_iconst (v := 0) hx hb dX6_areSameNames_73 (by decide) ?_
            exact r_iretP C hG hr rfl dX6_areSameNames_74 h
          · have h := (if_inv h).1 c7
            refine lv_aload_n hx hb dX6_areSameNames_41 rfl (lv_at hl 0 rfl) ?_
            refine r_getA (j := 1) C hG FX6_24 rfl rfl dX6_areSameNames_42 ?_
            refine lv_aload_n hx hb dX6_areSameNames_45 rfl (lv_at hl 0 rfl) ?_
            refine r_getA (j := 5) C hG FX6_15 rfl rfl dX6_areSameNames_46 ?_
            refine lv_iload_n hx hb dX6_areSameNames_49 rfl (lv_at hl 1 rfl) ?_
            refine r_ild C hG (N := 401) rfl (by decide) dX6_areSameNames_50 h (fun x8 h => ?_)
            refine lv_aload_n hx hb dX6_areSameNames_51 rfl (lv_at hl 0 rfl) ?_
            refine r_getA (j := 5) C hG FX6_15 rfl rfl dX6_areSameNames_52 ?_
            refine lv_iload_n hx hb dX6_areSameNames_55 rfl (lv_at hl 2 rfl) ?_
            refine r_ild C hG (N := 401) rfl (by decide) dX6_areSameNames_56 h (fun x9 h => ?_)
            refine lv_aload_n hx hb dX6_areSameNames_57 rfl (lv_at hl 0 rfl) ?_
            refine r_getA (j := 6) C hG FX6_18 rfl rfl dX6_areSameNames_58 ?_
            refine lv_iload_n hx hb dX6_areSameNames_61 rfl (lv_at hl 1 rfl) ?_
            refine r_ild C hG (N := 401) rfl (by decide) dX6_areSameNames_62 h (fun x10 h => ?_)
            refine r_callVIP C hl.1 hG [.int x8, .int x9, .int x10] [] (m5_holdsSame E l x8 x9 x10 g) LX6_37 rfl KC5 rfl (rm_ok (by decide) (by decide)) (Nat.le_of_ble_eq_true rfl) ⟨Nat.le_refl _, Nat.le_refl _⟩ rfl dX6_areSameNames_63 h (fun u11 H locs hG h => ?_)
            refine lv_if_eq (tgt := 73) hx hb dX6_areSameNames_66 (by decide) (fun c12 => ?_) (fun c12 => ?_)
            · have h := (if_inv h).1 c12
              refine lv_iconst (v := 0) hx hb dX6_areSameNames_73 (by decide) ?_
              exact r_iretP C hG hr rfl dX6_areSameNames_74 h
            · have h := (if_inv h).2 c12
              refine lv_iconst (v := 1) hx hb dX6_areSameNames_69 (by decide) ?_
              refine lv_goto (tgt := 74) hx hb dX6_areSameNames_70 (by decide) ?_
              exact r_iretP C hG hr rfl dX6_areSameNames_74 h
        · have h := (if_inv h).2 c4
          refine lv_iconst (v := 0) hx hb dX6_areSameNames_24 (by decide) ?_
          exact r_iretP C hG hr rfl dX6_areSameNames_25 h
def k6_keyword  (a0 : Int32) (g : G) : Option (Nat) :=
  if a0 = 128 then
    some 0
  else
  if a0 = 129 then
    some 1
  else
  if a0 = 130 then
    some 2
  else
  if a0 = 131 then
    some 3
  else
  if a0 = 132 then
    some 4
  else
  if a0 = 133 then
    some 5
  else
  if a0 = 134 then
    some 6
  else
  if a0 = 135 then
    some 7
  else
  if a0 = 136 then
    some 8
  else
  if a0 = 137 then
    some 9
  else
  if a0 = 138 then
    some 10
  else
  if a0 = 139 then
    some 11
  else
  if a0 = 140 then
    some 12
  else
  if a0 = 141 then
    some 13
  else
  if a0 = 142 then
    some 14
  else
  if a0 = 143 then
    some 15
  else
  if a0 = 144 then
    some 16
  else
  if a0 = 145 then
    some 17
  else
  if a0 = 146 then
    some 18
  else
  if a0 = 147 then
    some 19
  else
  if a0 = 148 then
    some 20
  else
  if a0 = 149 then
    some 21
  else
  if a0 = 150 then
    some 22
  else
  if a0 = 151 then
    some 23
  else
  if a0 = 152 then
    some 24
  else
  if a0 = 153 then
    some 25
  else
  some 26
set_option maxRecDepth 100000 in
set_option maxHeartbeats 4000000 in
theorem m6_keyword (E : EV) (l : Launch) (a0 : Int32) (g : G) : ∀ u, k6_keyword a0 g = some u → MA E l yX6_keyword cX6_keyword 1 (some (.object "java/lang/String")) 0 0 0 [.int a0] g (u, g) := by
  intro u h
  refine MG.of (by decide +kernel) (Nat.le_of_ble_eq_true rfl) ?_
  intro p e s m args below meth c C hr hnm ls hl hG
  have C : Cx p s m args meth c cX6_keyword 1 RX6 E := C
  have hx := C.1
  have hb := C.2.1
  have hl : lv_has ls 1 [(0, .int a0)] := hl
  unfold k6_keyword at h
  refine lv_iload_n hx hb dX6_keyword_0 rfl (lv_at hl 0 rfl) ?_
  by_cases c1 : a0 = 128
  · have h := (if_inv h).1 c1
    refine lv_tableIn (off := 119) (tgt := 120) hx hb dX6_keyword_1 (by rw [c1]; decide +kernel) (by rw [c1]; decide +kernel) (by rw [c1]; decide +kernel) (by decide) ?_
    refine r_ldcS C 0 (by decide) ⟨rfl, rfl⟩ dX6_keyword_120 ?_
    exact r_aretP C hG hr dX6_keyword_122 h
  have h := (if_inv h).2 c1
  by_cases c2 : a0 = 129
  · have h := (if_inv h).1 c2
    refine lv_tableIn (off := 122) (tgt := 123) hx hb dX6_keyword_1 (by rw [c2]; decide +kernel) (by rw [c2]; decide +kernel) (by rw [c2]; decide +kernel) (by decide) ?_
    refine r_ldcS C 1 (by decide) ⟨rfl, rfl⟩ dX6_keyword_123 ?_
    exact r_aretP C hG hr dX6_keyword_125 h
  have h := (if_inv h).2 c2
  by_cases c3 : a0 = 130
  · have h := (if_inv h).1 c3
    refine lv_tableIn (off := 125) (tgt := 126) hx hb dX6_keyword_1 (by rw [c3]; decide +kernel) (by rw [c3]; decide +kernel) (by rw [c3]; decide +kernel) (by decide) ?_
    refine r_ldcS C 2 (by decide) ⟨rfl, rfl⟩ dX6_keyword_126 ?_
    exact r_aretP C hG hr dX6_keyword_128 h
  have h := (if_inv h).2 c3
  by_cases c4 : a0 = 131
  · have h := (if_inv h).1 c4
    refine lv_tableIn (off := 128) (tgt := 129) hx hb dX6_keyword_1 (by rw [c4]; decide +kernel) (by rw [c4]; decide +kernel) (by rw [c4]; decide +kernel) (by decide) ?_
    refine r_ldcS C 3 (by decide) ⟨rfl, rfl⟩ dX6_keyword_129 ?_
    exact r_aretP C hG hr dX6_keyword_131 h
  have h := (if_inv h).2 c4
  by_cases c5 : a0 = 132
  · have h := (if_inv h).1 c5
    refine lv_tableIn (off := 131) (tgt := 132) hx hb dX6_keyword_1 (by rw [c5]; decide +kernel) (by rw [c5]; decide +kernel) (by rw [c5]; decide +kernel) (by decide) ?_
    refine r_ldcS C 4 (by decide) ⟨rfl, rfl⟩ dX6_keyword_132 ?_
    exact r_aretP C hG hr dX6_keyword_134 h
  have h := (if_inv h).2 c5
  by_cases c6 : a0 = 133
  · have h := (if_inv h).1 c6
    refine lv_tableIn (off := 134) (tgt := 135) hx hb dX6_keyword_1 (by rw [c6]; decide +kernel) (by rw [c6]; decide +kernel) (by rw [c6]; decide +kernel) (by decide) ?_
    refine r_ldcS C 5 (by decide) ⟨rfl, rfl⟩ dX6_keyword_135 ?_
    exact r_aretP C hG hr dX6_keyword_137 h
  have h := (if_inv h).2 c6
  by_cases c7 : a0 = 134
  · have h := (if_inv h).1 c7
    refine lv_tableIn (off := 137) (tgt := 138) hx hb dX6_keyword_1 (by rw [c7]; decide +kernel) (by rw [c7]; decide +kernel) (by rw [c7]; decide +kernel) (by decide) ?_
    refine r_ldcS C 6 (by decide) ⟨rfl, rfl⟩ dX6_keyword_138 ?_
    exact r_aretP C hG hr dX6_keyword_140 h
  have h := (if_inv h).2 c7
  by_cases c8 : a0 = 135
  · have h := (if_inv h).1 c8
    refine lv_tableIn (off := 140) (tgt := 141) hx hb dX6_keyword_1 (by rw [c8]; decide +kernel) (by rw [c8]; decide +kernel) (by rw [c8]; decide +kernel) (by decide) ?_
    refine r_ldcS C 7 (by decide) ⟨rfl, rfl⟩ dX6_keyword_141 ?_
    exact r_aretP C hG hr dX6_keyword_143 h
  have h := (if_inv h).2 c8
  by_cases c9 : a0 = 136
  · have h := (if_inv h).1 c9
    refine lv_tableIn (off := 143) (tgt := 144) hx hb dX6_keyword_1 (by rw [c9]; decide +kernel) (by rw [c9]; decide +kernel) (by rw [c9]; decide +kernel) (by decide) ?_
    refine r_ldcS C 8 (by decide) ⟨rfl, rfl⟩ dX6_keyword_144 ?_
    exact r_aretP C hG hr dX6_keyword_146 h
  have h := (if_inv h).2 c9
  by_cases c10 : a0 = 137
  · have h := (if_inv h).1 c10
    refine lv_tableIn (off := 146) (tgt := 147) hx hb dX6_keyword_1 (by rw [c10]; decide +kernel) (by rw [c10]; decide +kernel) (by rw [c10]; decide +kernel) (by decide) ?_
    refine r_ldcS C 9 (by decide) ⟨rfl, rfl⟩ dX6_keyword_147 ?_
    exact r_aretP C hG hr dX6_keyword_149 h
  have h := (if_inv h).2 c10
  by_cases c11 : a0 = 138
  · have h := (if_inv h).1 c11
    refine lv_tableIn (off := 149) (tgt := 150) hx hb dX6_keyword_1 (by rw [c11]; decide +kernel) (by rw [c11]; decide +kernel) (by rw [c11]; decide +kernel) (by decide) ?_
    refine r_ldcS C 10 (by decide) ⟨rfl, rfl⟩ dX6_keyword_150 ?_
    exact r_aretP C hG hr dX6_keyword_152 h
  have h := (if_inv h).2 c11
  by_cases c12 : a0 = 139
  · have h := (if_inv h).1 c12
    refine lv_tableIn (off := 152) (tgt := 153) hx hb dX6_keyword_1 (by rw [c12]; decide +kernel) (by rw [c12]; decide +kernel) (by rw [c12]; decide +kernel) (by decide) ?_
    refine r_ldcS C 11 (by decide) ⟨rfl, rfl⟩ dX6_keyword_153 ?_
    exact r_aretP C hG hr dX6_keyword_155 h
  have h := (if_inv h).2 c12
  by_cases c13 : a0 = 140
  · have h := (if_inv h).1 c13
    refine lv_tableIn (off := 155) (tgt := 156) hx hb dX6_keyword_1 (by rw [c13]; decide +kernel) (by rw [c13]; decide +kernel) (by rw [c13]; decide +kernel) (by decide) ?_
    refine r_ldcS C 12 (by decide) ⟨rfl, rfl⟩ dX6_keyword_156 ?_
    exact r_aretP C hG hr dX6_keyword_158 h
  have h := (if_inv h).2 c13
  by_cases c14 : a0 = 141
  · have h := (if_inv h).1 c14
    refine lv_tableIn (off := 158) (tgt := 159) hx hb dX6_keyword_1 (by rw [c14]; decide +kernel) (by rw [c14]; decide +kernel) (by rw [c14]; decide +kernel) (by decide) ?_
    refine r_ldcS C 13 (by decide) ⟨rfl, rfl⟩ dX6_keyword_159 ?_
    exact r_aretP C hG hr dX6_keyword_161 h
  have h := (if_inv h).2 c14
  by_cases c15 : a0 = 142
  · have h := (if_inv h).1 c15
    refine lv_tableIn (off := 161) (tgt := 162) hx hb dX6_keyword_1 (by rw [c15]; decide +kernel) (by rw [c15]; decide +kernel) (by rw [c15]; decide +kernel) (by decide) ?_
    refine r_ldcS C 14 (by decide) ⟨rfl, rfl⟩ dX6_keyword_162 ?_
    exact r_aretP C hG hr dX6_keyword_164 h
  have h := (if_inv h).2 c15
  by_cases c16 : a0 = 143
  · have h := (if_inv h).1 c16
    refine lv_tableIn (off := 164) (tgt := 165) hx hb dX6_keyword_1 (by rw [c16]; decide +kernel) (by rw [c16]; decide +kernel) (by rw [c16]; decide +kernel) (by decide) ?_
    refine r_ldcS C 15 (by decide) ⟨rfl, rfl⟩ dX6_keyword_165 ?_
    exact r_aretP C hG hr dX6_keyword_167 h
  have h := (if_inv h).2 c16
  by_cases c17 : a0 = 144
  · have h := (if_inv h).1 c17
    refine lv_tableIn (off := 167) (tgt := 168) hx hb dX6_keyword_1 (by rw [c17]; decide +kernel) (by rw [c17]; decide +kernel) (by rw [c17]; decide +kernel) (by decide) ?_
    refine r_ldcS C 16 (by decide) ⟨rfl, rfl⟩ dX6_keyword_168 ?_
    exact r_aretP C hG hr dX6_keyword_170 h
  have h := (if_inv h).2 c17
  by_cases c18 : a0 = 145
  · have h := (if_inv h).1 c18
    refine lv_tableIn (off := 170) (tgt := 171) hx hb dX6_keyword_1 (by rw [c18]; decide +kernel) (by rw [c18]; decide +kernel) (by rw [c18]; decide +kernel) (by decide) ?_
    refine r_ldcS C 17 (by decide) ⟨rfl, rfl⟩ dX6_keyword_171 ?_
    exact r_aretP C hG hr dX6_keyword_173 h
  have h := (if_inv h).2 c18
  by_cases c19 : a0 = 146
  · have h := (if_inv h).1 c19
    refine lv_tableIn (off := 173) (tgt := 174) hx hb dX6_keyword_1 (by rw [c19]; decide +kernel) (by rw [c19]; decide +kernel) (by rw [c19]; decide +kernel) (by decide) ?_
    refine r_ldcS C 18 (by decide) ⟨rfl, rfl⟩ dX6_keyword_174 ?_
    exact r_aretP C hG hr dX6_keyword_176 h
  have h := (if_inv h).2 c19
  by_cases c20 : a0 = 147
  · have h := (if_inv h).1 c20
    refine lv_tableIn (off := 176) (tgt := 177) hx hb dX6_keyword_1 (by rw [c20]; decide +kernel) (by rw [c20]; decide +kernel) (by rw [c20]; decide +kernel) (by decide) ?_
    refine r_ldcS C 19 (by decide) ⟨rfl, rfl⟩ dX6_keyword_177 ?_
    exact r_aretP C hG hr dX6_keyword_179 h
  have h := (if_inv h).2 c20
  by_cases c21 : a0 = 148
  · have h := (if_inv h).1 c21
    refine lv_tableIn (off := 179) (tgt := 180) hx hb dX6_keyword_1 (by rw [c21]; decide +kernel) (by rw [c21]; decide +kernel) (by rw [c21]; decide +kernel) (by decide) ?_
    refine r_ldcS C 20 (by decide) ⟨rfl, rfl⟩ dX6_keyword_180 ?_
    exact r_aretP C hG hr dX6_keyword_182 h
  have h := (if_inv h).2 c21
  by_cases c22 : a0 = 149
  · have h := (if_inv h).1 c22
    refine lv_tableIn (off := 182) (tgt := 183) hx hb dX6_keyword_1 (by rw [c22]; decide +kernel) (by rw [c22]; decide +kernel) (by rw [c22]; decide +kernel) (by decide) ?_
    refine r_ldcS C 21 (by decide) ⟨rfl, rfl⟩ dX6_keyword_183 ?_
    exact r_aretP C hG hr dX6_keyword_185 h
  have h := (if_inv h).2 c22
  by_cases c23 : a0 = 150
  · have h := (if_inv h).1 c23
    refine lv_tableIn (off := 185) (tgt := 186) hx hb dX6_keyword_1 (by rw [c23]; decide +kernel) (by rw [c23]; decide +kernel) (by rw [c23]; decide +kernel) (by decide) ?_
    refine r_ldcS C 22 (by decide) ⟨rfl, rfl⟩ dX6_keyword_186 ?_
    exact r_aretP C hG hr dX6_keyword_188 h
  have h := (if_inv h).2 c23
  by_cases c24 : a0 = 151
  · have h := (if_inv h).1 c24
    refine lv_tableIn (off := 188) (tgt := 189) hx hb dX6_keyword_1 (by rw [c24]; decide +kernel) (by rw [c24]; decide +kernel) (by rw [c24]; decide +kernel) (by decide) ?_
    refine r_ldcS C 23 (by decide) ⟨rfl, rfl⟩ dX6_keyword_189 ?_
    exact r_aretP C hG hr dX6_keyword_191 h
  have h := (if_inv h).2 c24
  by_cases c25 : a0 = 152
  · have h := (if_inv h).1 c25
    refine lv_tableIn (off := 191) (tgt := 192) hx hb dX6_keyword_1 (by rw [c25]; decide +kernel) (by rw [c25]; decide +kernel) (by rw [c25]; decide +kernel) (by decide) ?_
    refine r_ldcS C 24 (by decide) ⟨rfl, rfl⟩ dX6_keyword_192 ?_
    exact r_aretP C hG hr dX6_keyword_194 h
  have h := (if_inv h).2 c25
  by_cases c26 : a0 = 153
  · have h := (if_inv h).1 c26
    refine lv_tableIn (off := 194) (tgt := 195) hx hb dX6_keyword_1 (by rw [c26]; decide +kernel) (by rw [c26]; decide +kernel) (by rw [c26]; decide +kernel) (by decide) ?_
    refine r_ldcS C 25 (by decide) ⟨rfl, rfl⟩ dX6_keyword_195 ?_
    exact r_aretP C hG hr dX6_keyword_197 h
  have h := (if_inv h).2 c26
  refine lv_tableOut (tgt := 198) hx hb dX6_keyword_1 (tab_out 26 (by decide) (lt_s (lt_s (lt_s (lt_s (lt_s (lt_s (lt_s (lt_s (lt_s (lt_s (lt_s (lt_s (lt_s (lt_s (lt_s (lt_s (lt_s (lt_s (lt_s (lt_s (lt_s (lt_s (lt_s (lt_s (lt_s (lt_s lt_0 (nei c1 (by decide))) (nei c2 (by decide))) (nei c3 (by decide))) (nei c4 (by decide))) (nei c5 (by decide))) (nei c6 (by decide))) (nei c7 (by decide))) (nei c8 (by decide))) (nei c9 (by decide))) (nei c10 (by decide))) (nei c11 (by decide))) (nei c12 (by decide))) (nei c13 (by decide))) (nei c14 (by decide))) (nei c15 (by decide))) (nei c16 (by decide))) (nei c17 (by decide))) (nei c18 (by decide))) (nei c19 (by decide))) (nei c20 (by decide))) (nei c21 (by decide))) (nei c22 (by decide))) (nei c23 (by decide))) (nei c24 (by decide))) (nei c25 (by decide))) (nei c26 (by decide)))) (by decide) ?_
  refine r_ldcS C 26 (by decide) ⟨rfl, rfl⟩ dX6_keyword_198 ?_
  exact r_aretP C hG hr dX6_keyword_200 h
def k6_add  (a1 : Int32) (a2 : Int32) (a3 : Int32) (g : G) : Option (G) :=
  if (g 3 5) ≤ 400 then
    sto g 4 401 (g 3 5) a1 fun g2 =>
    sto g2 5 401 (g2 3 5) a2 fun g3 =>
    sto g3 6 401 (g3 3 5) (a3 - a2) fun g4 =>
    sto g4 7 401 (g4 3 5) 0 fun g5 =>
    bd (up g5 3 5 ((g5 3 5) + 1)) fun g6 =>
    some g6
  else
    some g
set_option maxRecDepth 100000 in
set_option maxHeartbeats 4000000 in
theorem m6_add (E : EV) (l : Launch) (a1 : Int32) (a2 : Int32) (a3 : Int32) (g : G) : ∀ u, k6_add a1 a2 a3 g = some u → MV E l yX6_add cX6_add 4 none 0 0 0 [.ref (E.ad 3), .int a1, .int a2, .int a3] g u := by
  intro u h
  refine MG.of (by decide +kernel) (Nat.le_of_ble_eq_true rfl) ?_
  intro p e s m args below meth c C hr hnm ls hl hG
  have C : Cx p s m args meth c cX6_add 4 RX6 E := C
  have hx := C.1
  have hb := C.2.1
  have hl : lv_has ls 4 [(0, .ref (E.ad 3)), (1, .int a1), (2, .int a2), (3, .int a3)] := hl
  unfold k6_add at h
  refine lv_aload_n hx hb dX6_add_0 rfl (lv_at hl 0 rfl) ?_
  refine r_getI C hG FX6_28 rfl rfl dX6_add_1 ?_
  refine lv_sipush (v := 400) hx hb dX6_add_4 (by decide) ?_
  refine lv_icmp_le (tgt := 11) hx hb dX6_add_7 (by decide) (fun c1 => ?_) (fun c1 => ?_)
  · have h := (if_inv h).1 c1
    refine lv_aload_n hx hb dX6_add_11 rfl (lv_at hl 0 rfl) ?_
    refine r_getA (j := 4) C hG FX6_9 rfl rfl dX6_add_12 ?_
    refine lv_aload_n hx hb dX6_add_15 rfl (lv_at hl 0 rfl) ?_
    refine r_getI C hG FX6_28 rfl rfl dX6_add_16 ?_
    refine lv_iload_n hx hb dX6_add_19 rfl (lv_at hl 1 rfl) ?_
    refine r_ist C hG (N := 401) rfl (by decide) dX6_add_20 h (fun H locs g2 hG h => ?_)
    refine lv_aload_n hx hb dX6_add_21 rfl (lv_at hl 0 rfl) ?_
    refine r_getA (j := 5) C hG FX6_15 rfl rfl dX6_add_22 ?_
    refine lv_aload_n hx hb dX6_add_25 rfl (lv_at hl 0 rfl) ?_
    refine r_getI C hG FX6_28 rfl rfl dX6_add_26 ?_
    refine lv_iload_n hx hb dX6_add_29 rfl (lv_at hl 2 rfl) ?_
    refine r_ist C hG (N := 401) rfl (by decide) dX6_add_30 h (fun H locs g3 hG h => ?_)
    refine lv_aload_n hx hb dX6_add_31 rfl (lv_at hl 0 rfl) ?_
    refine r_getA (j := 6) C hG FX6_18 rfl rfl dX6_add_32 ?_
    refine lv_aload_n hx hb dX6_add_35 rfl (lv_at hl 0 rfl) ?_
    refine r_getI C hG FX6_28 rfl rfl dX6_add_36 ?_
    refine lv_iload_n hx hb dX6_add_39 rfl (lv_at hl 3 rfl) ?_
    refine lv_iload_n hx hb dX6_add_40 rfl (lv_at hl 2 rfl) ?_
    refine lv_isub hx hb dX6_add_41 ?_
    refine r_ist C hG (N := 401) rfl (by decide) dX6_add_42 h (fun H locs g4 hG h => ?_)
    refine lv_aload_n hx hb dX6_add_43 rfl (lv_at hl 0 rfl) ?_
    refine r_getA (j := 7) C hG FX6_21 rfl rfl dX6_add_44 ?_
    refine lv_aload_n hx hb dX6_add_47 rfl (lv_at hl 0 rfl) ?_
    refine r_getI C hG FX6_28 rfl rfl dX6_add_48 ?_
    refine lv_iconst (v := 0) hx hb dX6_add_51 (by decide) ?_
    refine r_ist C hG (N := 401) rfl (by decide) dX6_add_52 h (fun H locs g5 hG h => ?_)
    refine lv_aload_n hx hb dX6_add_53 rfl (lv_at hl 0 rfl) ?_
    refine lv_dup hx hb dX6_add_54 rfl ?_
    refine r_getI C hG FX6_28 rfl rfl dX6_add_55 ?_
    refine lv_iconst (v := 1) hx hb dX6_add_58 (by decide) ?_
    refine lv_iadd hx hb dX6_add_59 ?_
    refine r_putI C hG FX6_28 rfl rfl dX6_add_60 h (fun H locs g6 hG h => ?_)
    exact r_vret C hG hr dX6_add_63 h
  · have h := (if_inv h).2 c1
    exact r_vret C hG hr dX6_add_10 h
def k6_readWord_67  (v1 : Int32) (v2 : Int32) (v3 : Int32) (g : G) : Option (Int32 × G) :=
      (k6_add v3 v1 v2 g).bind fun g1 =>
      some (v2, g1)
def k6_readWord_26  : Nat → Int32 → Int32 → Int32 → Int32 → G → Option (Int32 × G)
  | 0, _, _, _, _, _ => none
  | f + 1, v1, v2, v3, v4, g =>
        if 153 < v4 then
          k6_readWord_67 v1 v2 v3 g
        else
          if v3 = 2 then
            (k6_keyword v4 g).bind fun u4 =>
            (k5_holdsText u4 v1 (v2 - v1) g).bind fun u5 =>
            if u5 = 0 then
              bd (v4 + 1) fun x7 =>
              k6_readWord_26 f v1 v2 v3 x7 g
            else
              bd (v4 + 1) fun x8 =>
              k6_readWord_26 f v1 v2 v4 x8 g
          else
            k6_readWord_67 v1 v2 v3 g
def k6_readWord  (a1 : Int32) (g : G) : Option (Int32 × G) :=
  (k5_skipLettersAndDigits a1 g).bind fun u9 =>
  if (u9 - a1) ≤ 10 then
    k6_readWord_26 FU a1 u9 2 128 g
  else
    some ((-1), g)
set_option maxRecDepth 100000 in
set_option maxHeartbeats 4000000 in
theorem m6_readWord (E : EV) (l : Launch) (a1 : Int32) (g : G) : ∀ u, k6_readWord a1 g = some u → MI E l yX6_readWord cX6_readWord 5 (some .int) 6 0 0 [.ref (E.ad 3), .int a1] g u := by
  intro u h
  refine MG.of (by decide +kernel) (Nat.le_of_ble_eq_true rfl) ?_
  intro p e s m args below meth c C hr hnm ls hl hG
  have C : Cx p s m args meth c cX6_readWord 5 RX6 E := C
  have hx := C.1
  have hb := C.2.1
  have hl : lv_has ls 5 [(0, .ref (E.ad 3)), (1, .int a1)] := hl
  unfold k6_readWord at h
  have j67 : ∀ (v1 : Int32) (v2 : Int32) (v3 : Int32) (g : G) (H : Heap) (locs : List Loc) (ls : Array Slot), Gd E s H locs g [] → lv_has ls 5 [(0, .ref (E.ad 3)), (1, .int v1), (2, .int v2), (3, .int v3)] → k6_readWord_67 v1 v2 v3 g = some u → W p l e (rmD 6 0 0) s m args below meth c H locs 0 0 (MQ below (QI E s.heap.size u.1 u.2) args s 0 0 (AA E s.heap.size)) (F0 m 67 ls []) := by
    intro v1 v2 v3 g H locs ls hG hl h
    unfold k6_readWord_67 at h
    refine lv_aload_n hx hb dX6_readWord_67 rfl (lv_at hl 0 rfl) ?_
    refine lv_iload_n hx hb dX6_readWord_68 rfl (lv_at hl 3 rfl) ?_
    refine lv_iload_n hx hb dX6_readWord_69 rfl (lv_at hl 1 rfl) ?_
    refine lv_iload_n hx hb dX6_readWord_70 rfl (lv_at hl 2 rfl) ?_
    refine r_callVV C hl.1 hG [.int v3, .int v1, .int v2] [] (m6_add E l v3 v1 v2 g) LX6_48 rfl KC6 rfl (rm_ok (by decide) (by decide)) (Nat.le_of_ble_eq_true rfl) ⟨Nat.le_refl _, Nat.le_refl _⟩ rfl dX6_readWord_71 h (fun g1 H locs hG h => ?_)
    refine lv_iload_n hx hb dX6_readWord_74 rfl (lv_at hl 2 rfl) ?_
    exact r_iret C hG hr rfl dX6_readWord_75 h
  have j26 : ∀ f : Nat, ∀ (v1 : Int32) (v2 : Int32) (v3 : Int32) (v4 : Int32) (g : G) (H : Heap) (locs : List Loc) (ls : Array Slot), Gd E s H locs g [] → lv_has ls 5 [(0, .ref (E.ad 3)), (1, .int v1), (2, .int v2), (3, .int v3), (4, .int v4)] → k6_readWord_26 f v1 v2 v3 v4 g = some u → W p l e (rmD 6 0 0) s m args below meth c H locs 0 0 (MQ below (QI E s.heap.size u.1 u.2) args s 0 0 (AA E s.heap.size)) (F0 m 26 ls []) := by
    intro f
    induction f with
    | zero =>
      intro v1 v2 v3 v4 g H locs ls hG hl h
      unfold k6_readWord_26 at h
      cases h
    | succ f ih =>
      intro v1 v2 v3 v4 g H locs ls hG hl h
      unfold k6_readWord_26 at h
      refine lv_iload hx hb dX6_readWord_26 (lv_at hl 4 rfl) ?_
      refine lv_sipush (v := 153) hx hb dX6_readWord_28 (by decide) ?_
      refine lv_icmp_gt (tgt := 67) hx hb dX6_readWord_31 (by decide) (fun c2 => ?_) (fun c2 => ?_)
      · have h := (if_inv h).1 c2
        exact j67 v1 v2 v3 g _ _ _ hG (lv_sub hl [0, 1, 2, 3] rfl) h
      · have h := (if_inv h).2 c2
        refine lv_iload_n hx hb dX6_readWord_34 rfl (lv_at hl 3 rfl) ?_
        refine lv_iconst (v := 2) hx hb dX6_readWord_35 (by decide) ?_
        refine lv_icmp_ne (tgt := 67) hx hb dX6_readWord_36 (by decide) (fun c3 => ?_) (fun c3 => ?_)
        · have h := (if_inv h).2 c3
          exact j67 v1 v2 v3 g _ _ _ hG (lv_sub hl [0, 1, 2, 3] rfl) h
        · have h := (if_inv h).1 c3
          refine lv_aload_n hx hb dX6_readWord_39 rfl (lv_at hl 0 rfl) ?_
          refine r_getA (j := 1) C hG FX6_24 rfl rfl dX6_readWord_40 ?_
          refine lv_iload hx hb dX6_readWord_43 (lv_at hl 4 rfl) ?_
          refine r_callSAP C hl.1 hG [.int v4] [.ref (E.ad 1)] (m6_keyword E l v4 g) LX6_75 rfl (rm_ok (by decide) (by decide)) (Nat.le_of_ble_eq_true rfl) ⟨Nat.le_refl _, Nat.le_refl _⟩ rfl dX6_readWord_45 h (fun u4 H locs hG h => ?_)
          refine lv_iload_n hx hb dX6_readWord_48 rfl (lv_at hl 1 rfl) ?_
          refine lv_iload_n hx hb dX6_readWord_49 rfl (lv_at hl 2 rfl) ?_
          refine lv_iload_n hx hb dX6_readWord_50 rfl (lv_at hl 1 rfl) ?_
          refine lv_isub hx hb dX6_readWord_51 ?_
          refine r_callVIP C hl.1 hG [.ref (E.aK u4), .int v1, .int (v2 - v1)] [] (m5_holdsText E l u4 v1 (v2 - v1) g) LX6_79 rfl KC5 rfl (rm_ok (by decide) (by decide)) (Nat.le_of_ble_eq_true rfl) ⟨Nat.le_refl _, Nat.le_refl _⟩ rfl dX6_readWord_52 h (fun u5 H locs hG h => ?_)
          refine lv_if_eq (tgt := 61) hx hb dX6_readWord_55 (by decide) (fun c6 => ?_) (fun c6 => ?_)
          · have h := (if_inv h).1 c6
            refine r_iinc (w := 1) (lv' := fun x7 => [(4, .int x7), (0, .ref (E.ad 3)), (1, .int v1), (2, .int v2), (3, .int v3)]) C dX6_readWord_61 hl (k := 4) rfl (by decide) (by decide) (fun _ => rfl) h (fun x7 ls hl h => ?_)
            refine lv_goto (tgt := 26) hx hb dX6_readWord_64 (by decide) ?_
            exact ih v1 v2 v3 x7 g _ _ _ hG (lv_sub hl [1, 2, 3, 4, 0] rfl) h
          · have h := (if_inv h).2 c6
            refine lv_iload hx hb dX6_readWord_58 (lv_at hl 4 rfl) ?_
            refine lv_istore_n (lv' := [(3, .int v4), (0, .ref (E.ad 3)), (1, .int v1), (2, .int v2), (4, .int v4)]) hx hb dX6_readWord_60 rfl hl (by decide) rfl (fun ls hl => ?_)
            refine r_iinc (w := 1) (lv' := fun x8 => [(4, .int x8), (3, .int v4), (0, .ref (E.ad 3)), (1, .int v1), (2, .int v2)]) C dX6_readWord_61 hl (k := 4) rfl (by decide) (by decide) (fun _ => rfl) h (fun x8 ls hl h => ?_)
            refine lv_goto (tgt := 26) hx hb dX6_readWord_64 (by decide) ?_
            exact ih v1 v2 v4 x8 g _ _ _ hG (lv_sub hl [2, 3, 4, 1, 0] rfl) h
  refine lv_aload_n hx hb dX6_readWord_0 rfl (lv_at hl 0 rfl) ?_
  refine r_getA (j := 1) C hG FX6_24 rfl rfl dX6_readWord_1 ?_
  refine lv_iload_n hx hb dX6_readWord_4 rfl (lv_at hl 1 rfl) ?_
  refine r_callVIP C hl.1 hG [.int a1] [] (m5_skipLettersAndDigits E l a1 g) LX6_72 rfl KC5 rfl (rm_ok (by decide) (by decide)) (Nat.le_of_ble_eq_true rfl) ⟨Nat.le_refl _, Nat.le_refl _⟩ rfl dX6_readWord_5 h (fun u9 H locs hG h => ?_)
  refine lv_istore_n (lv' := [(2, .int u9), (0, .ref (E.ad 3)), (1, .int a1)]) hx hb dX6_readWord_8 rfl hl (by decide) rfl (fun ls hl => ?_)
  refine lv_iload_n hx hb dX6_readWord_9 rfl (lv_at hl 0 rfl) ?_
  refine lv_iload_n hx hb dX6_readWord_10 rfl (lv_at hl 2 rfl) ?_
  refine lv_isub hx hb dX6_readWord_11 ?_
  refine lv_bipush (v := 10) hx hb dX6_readWord_12 (by decide) ?_
  refine lv_icmp_le (tgt := 19) hx hb dX6_readWord_14 (by decide) (fun c10 => ?_) (fun c10 => ?_)
  · have h := (if_inv h).1 c10
    refine lv_iconst (v := 2) hx hb dX6_readWord_19 (by decide) ?_
    refine lv_istore_n (lv' := [(3, .int 2), (2, .int u9), (0, .ref (E.ad 3)), (1, .int a1)]) hx hb dX6_readWord_20 rfl hl (by decide) rfl (fun ls hl => ?_)
    refine lv_sipush (v := 128) hx hb dX6_readWord_21 (by decide) ?_
    refine lv_istore (lv' := [(4, .int 128), (3, .int 2), (2, .int u9), (0, .ref (E.ad 3)), (1, .int a1)]) hx hb dX6_readWord_24 hl (by decide) rfl (fun ls hl => ?_)
    exact j26 FU a1 u9 2 128 g _ _ _ hG (lv_sub hl [3, 4, 2, 1, 0] rfl) h
  · have h := (if_inv h).2 c10
    refine lv_iconst (v := (-1)) hx hb dX6_readWord_17 (by decide) ?_
    exact r_iret C hG hr rfl dX6_readWord_18 h
def k6_readNumber_24  : Nat → Int32 → Int32 → Int32 → Int32 → G → Option (Int32 × G)
  | 0, _, _, _, _, _ => none
  | f + 1, v1, v2, v3, v4, g =>
        if v2 ≤ v4 then
          (k6_add 3 v1 v2 g).bind fun g2 =>
          (k6_setValue ((g2 3 5) - 1) v3 g2).bind fun g3 =>
          some (v2, g3)
        else
          (k5_byteAt v4 g).bind fun u4 =>
          bd ((v3 * 10) + (u4 - 48)) fun x5 =>
          bd (v4 + 1) fun x6 =>
          k6_readNumber_24 f v1 v2 x5 x6 g
def k6_readNumber  (a1 : Int32) (g : G) : Option (Int32 × G) :=
  (k5_skipDigits a1 g).bind fun u7 =>
  if (u7 - a1) ≤ 6 then
    k6_readNumber_24 FU a1 u7 0 a1 g
  else
    some ((-1), g)
set_option maxRecDepth 100000 in
set_option maxHeartbeats 4000000 in
theorem m6_readNumber (E : EV) (l : Launch) (a1 : Int32) (g : G) : ∀ u, k6_readNumber a1 g = some u → MI E l yX6_readNumber cX6_readNumber 5 (some .int) 2 0 0 [.ref (E.ad 3), .int a1] g u := by
  intro u h
  refine MG.of (by decide +kernel) (Nat.le_of_ble_eq_true rfl) ?_
  intro p e s m args below meth c C hr hnm ls hl hG
  have C : Cx p s m args meth c cX6_readNumber 5 RX6 E := C
  have hx := C.1
  have hb := C.2.1
  have hl : lv_has ls 5 [(0, .ref (E.ad 3)), (1, .int a1)] := hl
  unfold k6_readNumber at h
  have j24 : ∀ f : Nat, ∀ (v1 : Int32) (v2 : Int32) (v3 : Int32) (v4 : Int32) (g : G) (H : Heap) (locs : List Loc) (ls : Array Slot), Gd E s H locs g [] → lv_has ls 5 [(0, .ref (E.ad 3)), (1, .int v1), (2, .int v2), (3, .int v3), (4, .int v4)] → k6_readNumber_24 f v1 v2 v3 v4 g = some u → W p l e (rmD 2 0 0) s m args below meth c H locs 0 0 (MQ below (QI E s.heap.size u.1 u.2) args s 0 0 (AA E s.heap.size)) (F0 m 24 ls []) := by
    intro f
    induction f with
    | zero =>
      intro v1 v2 v3 v4 g H locs ls hG hl h
      unfold k6_readNumber_24 at h
      cases h
    | succ f ih =>
      intro v1 v2 v3 v4 g H locs ls hG hl h
      unfold k6_readNumber_24 at h
      refine lv_iload hx hb dX6_readNumber_24 (lv_at hl 4 rfl) ?_
      refine lv_iload_n hx hb dX6_readNumber_26 rfl (lv_at hl 2 rfl) ?_
      refine lv_icmp_ge (tgt := 54) hx hb dX6_readNumber_27 (by decide) (fun c1 => ?_) (fun c1 => ?_)
      · have h := (if_inv h).1 c1
        refine lv_aload_n hx hb dX6_readNumber_54 rfl (lv_at hl 0 rfl) ?_
        refine lv_iconst (v := 3) hx hb dX6_readNumber_55 (by decide) ?_
        refine lv_iload_n hx hb dX6_readNumber_56 rfl (lv_at hl 1 rfl) ?_
        refine lv_iload_n hx hb dX6_readNumber_57 rfl (lv_at hl 2 rfl) ?_
        refine r_callVV C hl.1 hG [.int 3, .int v1, .int v2] [] (m6_add E l 3 v1 v2 g) LX6_48 rfl KC6 rfl (rm_ok (by decide) (by decide)) (Nat.le_of_ble_eq_true rfl) ⟨Nat.le_refl _, Nat.le_refl _⟩ rfl dX6_readNumber_58 h (fun g2 H locs hG h => ?_)
        refine lv_aload_n hx hb dX6_readNumber_61 rfl (lv_at hl 0 rfl) ?_
        refine lv_aload_n hx hb dX6_readNumber_62 rfl (lv_at hl 0 rfl) ?_
        refine r_getI C hG FX6_28 rfl rfl dX6_readNumber_63 ?_
        refine lv_iconst (v := 1) hx hb dX6_readNumber_66 (by decide) ?_
        refine lv_isub hx hb dX6_readNumber_67 ?_
        refine lv_iload_n hx hb dX6_readNumber_68 rfl (lv_at hl 3 rfl) ?_
        refine r_callVV C hl.1 hG [.int ((g2 3 5) - 1), .int v3] [] (m6_setValue E l ((g2 3 5) - 1) v3 g2) LX6_86 rfl KC6 rfl (rm_ok (by decide) (by decide)) (Nat.le_of_ble_eq_true rfl) ⟨Nat.le_refl _, Nat.le_refl _⟩ rfl dX6_readNumber_69 h (fun g3 H locs hG h => ?_)
        refine lv_iload_n hx hb dX6_readNumber_72 rfl (lv_at hl 2 rfl) ?_
        exact r_iret C hG hr rfl dX6_readNumber_73 h
      · have h := (if_inv h).2 c1
        refine lv_iload_n hx hb dX6_readNumber_30 rfl (lv_at hl 3 rfl) ?_
        refine lv_bipush (v := 10) hx hb dX6_readNumber_31 (by decide) ?_
        refine lv_imul hx hb dX6_readNumber_33 ?_
        refine lv_aload_n hx hb dX6_readNumber_34 rfl (lv_at hl 0 rfl) ?_
        refine r_getA (j := 1) C hG FX6_24 rfl rfl dX6_readNumber_35 ?_
        refine lv_iload hx hb dX6_readNumber_38 (lv_at hl 4 rfl) ?_
        refine r_callVIP C hl.1 hG [.int v4] [.int (v3 * 10)] (m5_byteAt E l v4 g) LX6_52 rfl KC5 rfl (rm_ok (by decide) (by decide)) (Nat.le_of_ble_eq_true rfl) ⟨Nat.le_refl _, Nat.le_refl _⟩ rfl dX6_readNumber_40 h (fun u4 H locs hG h => ?_)
        refine lv_bipush (v := 48) hx hb dX6_readNumber_43 (by decide) ?_
        refine lv_isub hx hb dX6_readNumber_45 ?_
        refine lv_iadd hx hb dX6_readNumber_46 ?_
        refine r_nm h (fun x5 h => ?_)
        refine lv_istore_n (lv' := [(3, .int x5), (0, .ref (E.ad 3)), (1, .int v1), (2, .int v2), (4, .int v4)]) hx hb dX6_readNumber_47 rfl hl (by decide) rfl (fun ls hl => ?_)
        refine r_iinc (w := 1) (lv' := fun x6 => [(4, .int x6), (3, .int x5), (0, .ref (E.ad 3)), (1, .int v1), (2, .int v2)]) C dX6_readNumber_48 hl (k := 4) rfl (by decide) (by decide) (fun _ => rfl) h (fun x6 ls hl h => ?_)
        refine lv_goto (tgt := 24) hx hb dX6_readNumber_51 (by decide) ?_
        exact ih v1 v2 x5 x6 g _ _ _ hG (lv_sub hl [2, 3, 4, 1, 0] rfl) h
  refine lv_aload_n hx hb dX6_readNumber_0 rfl (lv_at hl 0 rfl) ?_
  refine r_getA (j := 1) C hG FX6_24 rfl rfl dX6_readNumber_1 ?_
  refine lv_iload_n hx hb dX6_readNumber_4 rfl (lv_at hl 1 rfl) ?_
  refine r_callVIP C hl.1 hG [.int a1] [] (m5_skipDigits E l a1 g) LX6_83 rfl KC5 rfl (rm_ok (by decide) (by decide)) (Nat.le_of_ble_eq_true rfl) ⟨Nat.le_refl _, Nat.le_refl _⟩ rfl dX6_readNumber_5 h (fun u7 H locs hG h => ?_)
  refine lv_istore_n (lv' := [(2, .int u7), (0, .ref (E.ad 3)), (1, .int a1)]) hx hb dX6_readNumber_8 rfl hl (by decide) rfl (fun ls hl => ?_)
  refine lv_iload_n hx hb dX6_readNumber_9 rfl (lv_at hl 0 rfl) ?_
  refine lv_iload_n hx hb dX6_readNumber_10 rfl (lv_at hl 2 rfl) ?_
  refine lv_isub hx hb dX6_readNumber_11 ?_
  refine lv_bipush (v := 6) hx hb dX6_readNumber_12 (by decide) ?_
  refine lv_icmp_le (tgt := 19) hx hb dX6_readNumber_14 (by decide) (fun c8 => ?_) (fun c8 => ?_)
  · have h := (if_inv h).1 c8
    refine lv_iconst (v := 0) hx hb dX6_readNumber_19 (by decide) ?_
    refine lv_istore_n (lv' := [(3, .int 0), (2, .int u7), (0, .ref (E.ad 3)), (1, .int a1)]) hx hb dX6_readNumber_20 rfl hl (by decide) rfl (fun ls hl => ?_)
    refine lv_iload_n hx hb dX6_readNumber_21 rfl (lv_at hl 3 rfl) ?_
    refine lv_istore (lv' := [(4, .int a1), (3, .int 0), (2, .int u7), (0, .ref (E.ad 3)), (1, .int a1)]) hx hb dX6_readNumber_22 hl (by decide) rfl (fun ls hl => ?_)
    exact j24 FU a1 u7 0 a1 g _ _ _ hG (lv_sub hl [3, 4, 2, 1, 0] rfl) h
  · have h := (if_inv h).2 c8
    refine lv_iconst (v := (-1)) hx hb dX6_readNumber_17 (by decide) ?_
    exact r_iret C hG hr rfl dX6_readNumber_18 h
def k6_readSymbol_49  (v1 : Int32) (t0 : Int32) (g : G) : Option (Int32 × G) :=
      (k6_add t0 v1 (v1 + 2) g).bind fun g1 =>
      some ((v1 + 2), g1)
def k6_readSymbol_37  (v1 : Int32) (v2 : Int32) (g : G) : Option (Int32 × G) :=
      if v2 = 60 then
        k6_readSymbol_49 v1 4 g
      else
        k6_readSymbol_49 v1 5 g
def k6_readSymbol_60  (v1 : Int32) (v2 : Int32) (g : G) : Option (Int32 × G) :=
      ckS 27 <| (kJ0_indexOf_0f7a4 27 ((v2.toUInt32 % 65536).toInt32) g).bind fun u3 =>
      if 0 ≤ u3 then
        (k6_add v2 v1 (v1 + 1) g).bind fun g5 =>
        some ((v1 + 1), g5)
      else
        some ((-1), g)
def k6_readSymbol_20  (v1 : Int32) (v2 : Int32) (t0 : Int32) (g : G) : Option (Int32 × G) :=
      if t0 = 0 then
        k6_readSymbol_60 v1 v2 g
      else
        if v2 = 60 then
          k6_readSymbol_37 v1 v2 g
        else
          if v2 = 62 then
            k6_readSymbol_37 v1 v2 g
          else
            k6_readSymbol_60 v1 v2 g
def k6_readSymbol  (a1 : Int32) (a2 : Int32) (g : G) : Option (Int32 × G) :=
  (k5_byteAt (a1 + 1) g).bind fun u9 =>
  if u9 = 61 then
    k6_readSymbol_20 a1 a2 1 g
  else
    k6_readSymbol_20 a1 a2 0 g
set_option maxRecDepth 100000 in
set_option maxHeartbeats 4000000 in
theorem m6_readSymbol (E : EV) (l : Launch) (a1 : Int32) (a2 : Int32) (g : G) : ∀ u, k6_readSymbol a1 a2 g = some u → MI E l yX6_readSymbol cX6_readSymbol 4 (some .int) 6 0 0 [.ref (E.ad 3), .int a1, .int a2] g u := by
  intro u h
  refine MG.of (by decide +kernel) (Nat.le_of_ble_eq_true rfl) ?_
  intro p e s m args below meth c C hr hnm ls hl hG
  have C : Cx p s m args meth c cX6_readSymbol 4 RX6 E := C
  have hx := C.1
  have hb := C.2.1
  have hl : lv_has ls 4 [(0, .ref (E.ad 3)), (1, .int a1), (2, .int a2)] := hl
  unfold k6_readSymbol at h
  have j49 : ∀ (v1 : Int32) (t0 : Int32) (g : G) (H : Heap) (locs : List Loc) (ls : Array Slot), Gd E s H locs g [] → lv_has ls 4 [(1, .int v1)] → k6_readSymbol_49 v1 t0 g = some u → W p l e (rmD 6 0 0) s m args below meth c H locs 0 0 (MQ below (QI E s.heap.size u.1 u.2) args s 0 0 (AA E s.heap.size)) (F0 m 49 ls [.int t0, .ref (E.ad 3)]) := by
    intro v1 t0 g H locs ls hG hl h
    unfold k6_readSymbol_49 at h
    refine lv_iload_n hx hb dX6_readSymbol_49 rfl (lv_at hl 0 rfl) ?_
    refine lv_iload_n hx hb dX6_readSymbol_50 rfl (lv_at hl 0 rfl) ?_
    refine lv_iconst (v := 2) hx hb dX6_readSymbol_51 (by decide) ?_
    refine lv_iadd hx hb dX6_readSymbol_52 ?_
    refine r_callVV C hl.1 hG [.int t0, .int v1, .int (v1 + 2)] [] (m6_add E l t0 v1 (v1 + 2) g) LX6_48 rfl KC6 rfl (rm_ok (by decide) (by decide)) (Nat.le_of_ble_eq_true rfl) ⟨Nat.le_refl _, Nat.le_refl _⟩ rfl dX6_readSymbol_53 h (fun g1 H locs hG h => ?_)
    refine lv_iload_n hx hb dX6_readSymbol_56 rfl (lv_at hl 0 rfl) ?_
    refine lv_iconst (v := 2) hx hb dX6_readSymbol_57 (by decide) ?_
    refine lv_iadd hx hb dX6_readSymbol_58 ?_
    exact r_iret C hG hr rfl dX6_readSymbol_59 h
  have j37 : ∀ (v1 : Int32) (v2 : Int32) (g : G) (H : Heap) (locs : List Loc) (ls : Array Slot), Gd E s H locs g [] → lv_has ls 4 [(0, .ref (E.ad 3)), (1, .int v1), (2, .int v2)] → k6_readSymbol_37 v1 v2 g = some u → W p l e (rmD 6 0 0) s m args below meth c H locs 0 0 (MQ below (QI E s.heap.size u.1 u.2) args s 0 0 (AA E s.heap.size)) (F0 m 37 ls []) := by
    intro v1 v2 g H locs ls hG hl h
    unfold k6_readSymbol_37 at h
    refine lv_aload_n hx hb dX6_readSymbol_37 rfl (lv_at hl 0 rfl) ?_
    refine lv_iload_n hx hb dX6_readSymbol_38 rfl (lv_at hl 2 rfl) ?_
    refine lv_bipush (v := 60) hx hb dX6_readSymbol_39 (by decide) ?_
    refine lv_icmp_ne (tgt := 48) hx hb dX6_readSymbol_41 (by decide) (fun c2 => ?_) (fun c2 => ?_)
    · have h := (if_inv h).2 c2
      refine lv_iconst (v := 5) hx hb dX6_readSymbol_48 (by decide) ?_
      exact j49 v1 5 g _ _ _ hG (lv_sub hl [1] rfl) h
    · have h := (if_inv h).1 c2
      refine lv_iconst (v := 4) hx hb dX6_readSymbol_44 (by decide) ?_
      refine lv_goto (tgt := 49) hx hb dX6_readSymbol_45 (by decide) ?_
      exact j49 v1 4 g _ _ _ hG (lv_sub hl [1] rfl) h
  have j60 : ∀ (v1 : Int32) (v2 : Int32) (g : G) (H : Heap) (locs : List Loc) (ls : Array Slot), Gd E s H locs g [] → lv_has ls 4 [(0, .ref (E.ad 3)), (1, .int v1), (2, .int v2)] → k6_readSymbol_60 v1 v2 g = some u → W p l e (rmD 6 0 0) s m args below meth c H locs 0 0 (MQ below (QI E s.heap.size u.1 u.2) args s 0 0 (AA E s.heap.size)) (F0 m 60 ls []) := by
    intro v1 v2 g H locs ls hG hl h
    unfold k6_readSymbol_60 at h
    refine r_ldcS C 27 (by decide) ⟨rfl, rfl⟩ dX6_readSymbol_60 ?_
    refine lv_iload_n hx hb dX6_readSymbol_62 rfl (lv_at hl 2 rfl) ?_
    refine lv_i2c hx hb dX6_readSymbol_63 rfl ?_
    refine r_callVIS C hl.1 hG [.int ((v2.toUInt32 % 65536).toInt32)] [] (mJ0_indexOf_0f7a4 E l 27 ((v2.toUInt32 % 65536).toInt32) g) LX6_92 rfl rfl (rm_ok (by decide) (by decide)) (Nat.le_of_ble_eq_true rfl) ⟨Nat.le_refl _, Nat.le_refl _⟩ rfl dX6_readSymbol_64 h (fun u3 H locs hG h => ?_)
    refine lv_if_ge (tgt := 72) hx hb dX6_readSymbol_67 (by decide) (fun c4 => ?_) (fun c4 => ?_)
    · have h := (if_inv h).1 c4
      refine lv_aload_n hx hb dX6_readSymbol_72 rfl (lv_at hl 0 rfl) ?_
      refine lv_iload_n hx hb dX6_readSymbol_73 rfl (lv_at hl 2 rfl) ?_
      refine lv_iload_n hx hb dX6_readSymbol_74 rfl (lv_at hl 1 rfl) ?_
      refine lv_iload_n hx hb dX6_readSymbol_75 rfl (lv_at hl 1 rfl) ?_
      refine lv_iconst (v := 1) hx hb dX6_readSymbol_76 (by decide) ?_
      refine lv_iadd hx hb dX6_readSymbol_77 ?_
      refine r_callVV C hl.1 hG [.int v2, .int v1, .int (v1 + 1)] [] (m6_add E l v2 v1 (v1 + 1) g) LX6_48 rfl KC6 rfl (rm_ok (by decide) (by decide)) (Nat.le_of_ble_eq_true rfl) ⟨Nat.le_refl _, Nat.le_refl _⟩ rfl dX6_readSymbol_78 h (fun g5 H locs hG h => ?_)
      refine lv_iload_n hx hb dX6_readSymbol_81 rfl (lv_at hl 1 rfl) ?_
      refine lv_iconst (v := 1) hx hb dX6_readSymbol_82 (by decide) ?_
      refine lv_iadd hx hb dX6_readSymbol_83 ?_
      exact r_iret C hG hr rfl dX6_readSymbol_84 h
    · have h := (if_inv h).2 c4
      refine lv_iconst (v := (-1)) hx hb dX6_readSymbol_70 (by decide) ?_
      exact r_iret C hG hr rfl dX6_readSymbol_71 h
  have j20 : ∀ (v1 : Int32) (v2 : Int32) (t0 : Int32) (g : G) (H : Heap) (locs : List Loc) (ls : Array Slot), Gd E s H locs g [] → lv_has ls 4 [(0, .ref (E.ad 3)), (1, .int v1), (2, .int v2)] → k6_readSymbol_20 v1 v2 t0 g = some u → W p l e (rmD 6 0 0) s m args below meth c H locs 0 0 (MQ below (QI E s.heap.size u.1 u.2) args s 0 0 (AA E s.heap.size)) (F0 m 20 ls [.int t0]) := by
    intro v1 v2 t0 g H locs ls hG hl h
    unfold k6_readSymbol_20 at h
    refine lv_istore_n (lv' := [(3, .int t0), (0, .ref (E.ad 3)), (1, .int v1), (2, .int v2)]) hx hb dX6_readSymbol_20 rfl hl (by decide) rfl (fun ls hl => ?_)
    refine lv_iload_n hx hb dX6_readSymbol_21 rfl (lv_at hl 0 rfl) ?_
    refine lv_if_eq (tgt := 60) hx hb dX6_readSymbol_22 (by decide) (fun c6 => ?_) (fun c6 => ?_)
    · have h := (if_inv h).1 c6
      exact j60 v1 v2 g _ _ _ hG (lv_sub hl [1, 2, 3] rfl) h
    · have h := (if_inv h).2 c6
      refine lv_iload_n hx hb dX6_readSymbol_25 rfl (lv_at hl 3 rfl) ?_
      refine lv_bipush (v := 60) hx hb dX6_readSymbol_26 (by decide) ?_
      refine lv_icmp_eq (tgt := 37) hx hb dX6_readSymbol_28 (by decide) (fun c7 => ?_) (fun c7 => ?_)
      · have h := (if_inv h).1 c7
        exact j37 v1 v2 g _ _ _ hG (lv_sub hl [1, 2, 3] rfl) h
      · have h := (if_inv h).2 c7
        refine lv_iload_n hx hb dX6_readSymbol_31 rfl (lv_at hl 3 rfl) ?_
        refine lv_bipush (v := 62) hx hb dX6_readSymbol_32 (by decide) ?_
        refine lv_icmp_ne (tgt := 60) hx hb dX6_readSymbol_34 (by decide) (fun c8 => ?_) (fun c8 => ?_)
        · have h := (if_inv h).2 c8
          exact j60 v1 v2 g _ _ _ hG (lv_sub hl [1, 2, 3] rfl) h
        · have h := (if_inv h).1 c8
          exact j37 v1 v2 g _ _ _ hG (lv_sub hl [1, 2, 3] rfl) h
  refine lv_aload_n hx hb dX6_readSymbol_0 rfl (lv_at hl 0 rfl) ?_
  refine r_getA (j := 1) C hG FX6_24 rfl rfl dX6_readSymbol_1 ?_
  refine lv_iload_n hx hb dX6_readSymbol_4 rfl (lv_at hl 1 rfl) ?_
  refine lv_iconst (v := 1) hx hb dX6_readSymbol_5 (by decide) ?_
  refine lv_iadd hx hb dX6_readSymbol_6 ?_
  refine r_callVIP C hl.1 hG [.int (a1 + 1)] [] (m5_byteAt E l (a1 + 1) g) LX6_52 rfl KC5 rfl (rm_ok (by decide) (by decide)) (Nat.le_of_ble_eq_true rfl) ⟨Nat.le_refl _, Nat.le_refl _⟩ rfl dX6_readSymbol_7 h (fun u9 H locs hG h => ?_)
  refine lv_bipush (v := 61) hx hb dX6_readSymbol_10 (by decide) ?_
  refine lv_icmp_ne (tgt := 19) hx hb dX6_readSymbol_12 (by decide) (fun c10 => ?_) (fun c10 => ?_)
  · have h := (if_inv h).2 c10
    refine lv_iconst (v := 0) hx hb dX6_readSymbol_19 (by decide) ?_
    exact j20 a1 a2 0 g _ _ _ hG (lv_sub hl [0, 1, 2] rfl) h
  · have h := (if_inv h).1 c10
    refine lv_iconst (v := 1) hx hb dX6_readSymbol_15 (by decide) ?_
    refine lv_goto (tgt := 20) hx hb dX6_readSymbol_16 (by decide) ?_
    exact j20 a1 a2 1 g _ _ _ hG (lv_sub hl [0, 1, 2] rfl) h
def k6_readToken  (a1 : Int32) (g : G) : Option (Int32 × G) :=
  (k5_byteAt a1 g).bind fun u1 =>
  (k5_isLetter u1 g).bind fun u2 =>
  if u2 = 0 then
    (k5_isDigit u1 g).bind fun u4 =>
    if u4 = 0 then
      (k6_readSymbol a1 u1 g).bind fun u6 =>
      some (u6.1, u6.2)
    else
      (k6_readNumber a1 g).bind fun u7 =>
      some (u7.1, u7.2)
  else
    (k6_readWord a1 g).bind fun u8 =>
    some (u8.1, u8.2)
set_option maxRecDepth 100000 in
set_option maxHeartbeats 4000000 in
theorem m6_readToken (E : EV) (l : Launch) (a1 : Int32) (g : G) : ∀ u, k6_readToken a1 g = some u → MI E l yX6_readToken cX6_readToken 3 (some .int) 7 0 0 [.ref (E.ad 3), .int a1] g u := by
  intro u h
  refine MG.of (by decide +kernel) (Nat.le_of_ble_eq_true rfl) ?_
  intro p e s m args below meth c C hr hnm ls hl hG
  have C : Cx p s m args meth c cX6_readToken 3 RX6 E := C
  have hx := C.1
  have hb := C.2.1
  have hl : lv_has ls 3 [(0, .ref (E.ad 3)), (1, .int a1)] := hl
  unfold k6_readToken at h
  refine lv_aload_n hx hb dX6_readToken_0 rfl (lv_at hl 0 rfl) ?_
  refine r_getA (j := 1) C hG FX6_24 rfl rfl dX6_readToken_1 ?_
  refine lv_iload_n hx hb dX6_readToken_4 rfl (lv_at hl 1 rfl) ?_
  refine r_callVIP C hl.1 hG [.int a1] [] (m5_byteAt E l a1 g) LX6_52 rfl KC5 rfl (rm_ok (by decide) (by decide)) (Nat.le_of_ble_eq_true rfl) ⟨Nat.le_refl _, Nat.le_refl _⟩ rfl dX6_readToken_5 h (fun u1 H locs hG h => ?_)
  refine lv_istore_n (lv' := [(2, .int u1), (0, .ref (E.ad 3)), (1, .int a1)]) hx hb dX6_readToken_8 rfl hl (by decide) rfl (fun ls hl => ?_)
  refine lv_iload_n hx hb dX6_readToken_9 rfl (lv_at hl 0 rfl) ?_
  refine r_callSIP C hl.1 hG [.int u1] [] (m5_isLetter E l u1 g) LX6_55 rfl (rm_ok (by decide) (by decide)) (Nat.le_of_ble_eq_true rfl) ⟨Nat.le_refl _, Nat.le_refl _⟩ rfl dX6_readToken_10 h (fun u2 H locs hG h => ?_)
  refine lv_if_eq (tgt := 22) hx hb dX6_readToken_13 (by decide) (fun c3 => ?_) (fun c3 => ?_)
  · have h := (if_inv h).1 c3
    refine lv_iload_n hx hb dX6_readToken_22 rfl (lv_at hl 0 rfl) ?_
    refine r_callSIP C hl.1 hG [.int u1] [] (m5_isDigit E l u1 g) LX6_62 rfl (rm_ok (by decide) (by decide)) (Nat.le_of_ble_eq_true rfl) ⟨Nat.le_refl _, Nat.le_refl _⟩ rfl dX6_readToken_23 h (fun u4 H locs hG h => ?_)
    refine lv_if_eq (tgt := 35) hx hb dX6_readToken_26 (by decide) (fun c5 => ?_) (fun c5 => ?_)
    · have h := (if_inv h).1 c5
      refine lv_aload_n hx hb dX6_readToken_35 rfl (lv_at hl 1 rfl) ?_
      refine lv_iload_n hx hb dX6_readToken_36 rfl (lv_at hl 2 rfl) ?_
      refine lv_iload_n hx hb dX6_readToken_37 rfl (lv_at hl 0 rfl) ?_
      refine r_callVI C hl.1 hG [.int a1, .int u1] [] (m6_readSymbol E l a1 u1 g) LX6_68 rfl KC6 rfl (rm_ok (by decide) (by decide)) (Nat.le_of_ble_eq_true rfl) ⟨Nat.le_refl _, Nat.le_refl _⟩ rfl dX6_readToken_38 h (fun u6 H locs hG h => ?_)
      exact r_iret C hG hr rfl dX6_readToken_41 h
    · have h := (if_inv h).2 c5
      refine lv_aload_n hx hb dX6_readToken_29 rfl (lv_at hl 1 rfl) ?_
      refine lv_iload_n hx hb dX6_readToken_30 rfl (lv_at hl 2 rfl) ?_
      refine r_callVI C hl.1 hG [.int a1] [] (m6_readNumber E l a1 g) LX6_65 rfl KC6 rfl (rm_ok (by decide) (by decide)) (Nat.le_of_ble_eq_true rfl) ⟨Nat.le_refl _, Nat.le_refl _⟩ rfl dX6_readToken_31 h (fun u7 H locs hG h => ?_)
      exact r_iret C hG hr rfl dX6_readToken_34 h
  · have h := (if_inv h).2 c3
    refine lv_aload_n hx hb dX6_readToken_16 rfl (lv_at hl 1 rfl) ?_
    refine lv_iload_n hx hb dX6_readToken_17 rfl (lv_at hl 2 rfl) ?_
    refine r_callVI C hl.1 hG [.int a1] [] (m6_readWord E l a1 g) LX6_59 rfl KC6 rfl (rm_ok (by decide) (by decide)) (Nat.le_of_ble_eq_true rfl) ⟨Nat.le_refl _, Nat.le_refl _⟩ rfl dX6_readToken_18 h (fun u8 H locs hG h => ?_)
    exact r_iret C hG hr rfl dX6_readToken_21 h
def k6_readTape_85  (v1 : Int32) (t0 : Int32) (g : G) : Option (G) :=
      (k6_add t0 v1 v1 g).bind fun g1 =>
      some g1
def k6_readTape_68  (v1 : Int32) (g : G) : Option (G) :=
      if (g 1 1) ≤ v1 then
        k6_readTape_85 v1 0 g
      else
        k6_readTape_85 v1 1 g
def k6_readTape_16  : Nat → Int32 → Int32 → G → Option (G)
  | 0, _, _, _ => none
  | f + 1, v1, v2, g =>
        if 400 ≤ v2 then
          k6_readTape_68 v1 g
        else
          if (g 1 1) ≤ v1 then
            k6_readTape_68 v1 g
          else
            (k6_readToken v1 g).bind fun u5 =>
            bd u5.1 fun x6 =>
            if v1 < x6 then
              (k5_skipBlanks x6 u5.2).bind fun u8 =>
              bd (v2 + 1) fun x9 =>
              k6_readTape_16 f u8 x9 u5.2
            else
              (k6_add 1 v1 v1 u5.2).bind fun g10 =>
              some g10
def k6_readTape  (g : G) : Option (G) :=
  bd (up g 3 5 0) fun g11 =>
  (k5_skipBlanks 0 g11).bind fun u12 =>
  k6_readTape_16 FU u12 0 g11
set_option maxRecDepth 100000 in
set_option maxHeartbeats 4000000 in
theorem m6_readTape (E : EV) (l : Launch) (g : G) : ∀ u, k6_readTape g = some u → MV E l yX6_readTape cX6_readTape 4 none 8 0 0 [.ref (E.ad 3)] g u := by
  intro u h
  refine MG.of (by decide +kernel) (Nat.le_of_ble_eq_true rfl) ?_
  intro p e s m args below meth c C hr hnm ls hl hG
  have C : Cx p s m args meth c cX6_readTape 4 RX6 E := C
  have hx := C.1
  have hb := C.2.1
  have hl : lv_has ls 4 [(0, .ref (E.ad 3))] := hl
  unfold k6_readTape at h
  have j85 : ∀ (v1 : Int32) (t0 : Int32) (g : G) (H : Heap) (locs : List Loc) (ls : Array Slot), Gd E s H locs g [] → lv_has ls 4 [(1, .int v1)] → k6_readTape_85 v1 t0 g = some u → W p l e (rmD 8 0 0) s m args below meth c H locs 0 0 (MQ below (QV E s.heap.size u) args s 0 0 (AA E s.heap.size)) (F0 m 85 ls [.int t0, .ref (E.ad 3)]) := by
    intro v1 t0 g H locs ls hG hl h
    unfold k6_readTape_85 at h
    refine lv_iload_n hx hb dX6_readTape_85 rfl (lv_at hl 0 rfl) ?_
    refine lv_iload_n hx hb dX6_readTape_86 rfl (lv_at hl 0 rfl) ?_
    refine r_callVV C hl.1 hG [.int t0, .int v1, .int v1] [] (m6_add E l t0 v1 v1 g) LX6_48 rfl KC6 rfl (rm_ok (by decide) (by decide)) (Nat.le_of_ble_eq_true rfl) ⟨Nat.le_refl _, Nat.le_refl _⟩ rfl dX6_readTape_87 h (fun g1 H locs hG h => ?_)
    exact r_vret C hG hr dX6_readTape_90 h
  have j68 : ∀ (v1 : Int32) (g : G) (H : Heap) (locs : List Loc) (ls : Array Slot), Gd E s H locs g [] → lv_has ls 4 [(0, .ref (E.ad 3)), (1, .int v1)] → k6_readTape_68 v1 g = some u → W p l e (rmD 8 0 0) s m args below meth c H locs 0 0 (MQ below (QV E s.heap.size u) args s 0 0 (AA E s.heap.size)) (F0 m 68 ls []) := by
    intro v1 g H locs ls hG hl h
    unfold k6_readTape_68 at h
    refine lv_aload_n hx hb dX6_readTape_68 rfl (lv_at hl 0 rfl) ?_
    refine lv_iload_n hx hb dX6_readTape_69 rfl (lv_at hl 1 rfl) ?_
    refine lv_aload_n hx hb dX6_readTape_70 rfl (lv_at hl 0 rfl) ?_
    refine r_getA (j := 1) C hG FX6_24 rfl rfl dX6_readTape_71 ?_
    refine r_getI C hG FX6_32 rfl rfl dX6_readTape_74 ?_
    refine lv_icmp_ge (tgt := 84) hx hb dX6_readTape_77 (by decide) (fun c2 => ?_) (fun c2 => ?_)
    · have h := (if_inv h).1 c2
      refine lv_iconst (v := 0) hx hb dX6_readTape_84 (by decide) ?_
      exact j85 v1 0 g _ _ _ hG (lv_sub hl [1] rfl) h
    · have h := (if_inv h).2 c2
      refine lv_iconst (v := 1) hx hb dX6_readTape_80 (by decide) ?_
      refine lv_goto (tgt := 85) hx hb dX6_readTape_81 (by decide) ?_
      exact j85 v1 1 g _ _ _ hG (lv_sub hl [1] rfl) h
  have j16 : ∀ f : Nat, ∀ (v1 : Int32) (v2 : Int32) (g : G) (H : Heap) (locs : List Loc) (ls : Array Slot), Gd E s H locs g [] → lv_has ls 4 [(0, .ref (E.ad 3)), (1, .int v1), (2, .int v2)] → k6_readTape_16 f v1 v2 g = some u → W p l e (rmD 8 0 0) s m args below meth c H locs 0 0 (MQ below (QV E s.heap.size u) args s 0 0 (AA E s.heap.size)) (F0 m 16 ls []) := by
    intro f
    induction f with
    | zero =>
      intro v1 v2 g H locs ls hG hl h
      unfold k6_readTape_16 at h
      cases h
    | succ f ih =>
      intro v1 v2 g H locs ls hG hl h
      unfold k6_readTape_16 at h
      refine lv_iload_n hx hb dX6_readTape_16 rfl (lv_at hl 2 rfl) ?_
      refine lv_sipush (v := 400) hx hb dX6_readTape_17 (by decide) ?_
      refine lv_icmp_ge (tgt := 68) hx hb dX6_readTape_20 (by decide) (fun c3 => ?_) (fun c3 => ?_)
      · have h := (if_inv h).1 c3
        exact j68 v1 g _ _ _ hG (lv_sub hl [0, 1] rfl) h
      · have h := (if_inv h).2 c3
        refine lv_iload_n hx hb dX6_readTape_23 rfl (lv_at hl 1 rfl) ?_
        refine lv_aload_n hx hb dX6_readTape_24 rfl (lv_at hl 0 rfl) ?_
        refine r_getA (j := 1) C hG FX6_24 rfl rfl dX6_readTape_25 ?_
        refine r_getI C hG FX6_32 rfl rfl dX6_readTape_28 ?_
        refine lv_icmp_ge (tgt := 68) hx hb dX6_readTape_31 (by decide) (fun c4 => ?_) (fun c4 => ?_)
        · have h := (if_inv h).1 c4
          exact j68 v1 g _ _ _ hG (lv_sub hl [0, 1] rfl) h
        · have h := (if_inv h).2 c4
          refine lv_aload_n hx hb dX6_readTape_34 rfl (lv_at hl 0 rfl) ?_
          refine lv_iload_n hx hb dX6_readTape_35 rfl (lv_at hl 1 rfl) ?_
          refine r_callVI C hl.1 hG [.int v1] [] (m6_readToken E l v1 g) LX6_45 rfl KC6 rfl (rm_ok (by decide) (by decide)) (Nat.le_of_ble_eq_true rfl) ⟨Nat.le_refl _, Nat.le_refl _⟩ rfl dX6_readTape_36 h (fun u5 H locs hG h => ?_)
          refine r_nm h (fun x6 h => ?_)
          refine lv_istore_n (lv' := [(3, .int x6), (0, .ref (E.ad 3)), (1, .int v1), (2, .int v2)]) hx hb dX6_readTape_39 rfl hl (by decide) rfl (fun ls hl => ?_)
          refine lv_iload_n hx hb dX6_readTape_40 rfl (lv_at hl 0 rfl) ?_
          refine lv_iload_n hx hb dX6_readTape_41 rfl (lv_at hl 2 rfl) ?_
          refine lv_icmp_gt (tgt := 53) hx hb dX6_readTape_42 (by decide) (fun c7 => ?_) (fun c7 => ?_)
          · have h := (if_inv h).1 c7
            refine lv_aload_n hx hb dX6_readTape_53 rfl (lv_at hl 1 rfl) ?_
            refine r_getA (j := 1) C hG FX6_24 rfl rfl dX6_readTape_54 ?_
            refine lv_iload_n hx hb dX6_readTape_57 rfl (lv_at hl 0 rfl) ?_
            refine r_callVIP C hl.1 hG [.int x6] [] (m5_skipBlanks E l x6 u5.2) LX6_41 rfl KC5 rfl (rm_ok (by decide) (by decide)) (Nat.le_of_ble_eq_true rfl) ⟨Nat.le_refl _, Nat.le_refl _⟩ rfl dX6_readTape_58 h (fun u8 H locs hG h => ?_)
            refine lv_istore_n (lv' := [(1, .int u8), (3, .int x6), (0, .ref (E.ad 3)), (2, .int v2)]) hx hb dX6_readTape_61 rfl hl (by decide) rfl (fun ls hl => ?_)
            refine r_iinc (w := 1) (lv' := fun x9 => [(2, .int x9), (1, .int u8), (3, .int x6), (0, .ref (E.ad 3))]) C dX6_readTape_62 hl (k := 3) rfl (by decide) (by decide) (fun _ => rfl) h (fun x9 ls hl h => ?_)
            refine lv_goto (tgt := 16) hx hb dX6_readTape_65 (by decide) ?_
            exact ih u8 x9 u5.2 _ _ _ hG (lv_sub hl [3, 1, 0] rfl) h
          · have h := (if_inv h).2 c7
            refine lv_aload_n hx hb dX6_readTape_45 rfl (lv_at hl 1 rfl) ?_
            refine lv_iconst (v := 1) hx hb dX6_readTape_46 (by decide) ?_
            refine lv_iload_n hx hb dX6_readTape_47 rfl (lv_at hl 2 rfl) ?_
            refine lv_iload_n hx hb dX6_readTape_48 rfl (lv_at hl 2 rfl) ?_
            refine r_callVV C hl.1 hG [.int 1, .int v1, .int v1] [] (m6_add E l 1 v1 v1 u5.2) LX6_48 rfl KC6 rfl (rm_ok (by decide) (by decide)) (Nat.le_of_ble_eq_true rfl) ⟨Nat.le_refl _, Nat.le_refl _⟩ rfl dX6_readTape_49 h (fun g10 H locs hG h => ?_)
            exact r_vret C hG hr dX6_readTape_52 h
  refine lv_aload_n hx hb dX6_readTape_0 rfl (lv_at hl 0 rfl) ?_
  refine lv_iconst (v := 0) hx hb dX6_readTape_1 (by decide) ?_
  refine r_putI C hG FX6_28 rfl rfl dX6_readTape_2 h (fun H locs g11 hG h => ?_)
  refine lv_aload_n hx hb dX6_readTape_5 rfl (lv_at hl 0 rfl) ?_
  refine r_getA (j := 1) C hG FX6_24 rfl rfl dX6_readTape_6 ?_
  refine lv_iconst (v := 0) hx hb dX6_readTape_9 (by decide) ?_
  refine r_callVIP C hl.1 hG [.int 0] [] (m5_skipBlanks E l 0 g11) LX6_41 rfl KC5 rfl (rm_ok (by decide) (by decide)) (Nat.le_of_ble_eq_true rfl) ⟨Nat.le_refl _, Nat.le_refl _⟩ rfl dX6_readTape_10 h (fun u12 H locs hG h => ?_)
  refine lv_istore_n (lv' := [(1, .int u12), (0, .ref (E.ad 3))]) hx hb dX6_readTape_13 rfl hl (by decide) rfl (fun ls hl => ?_)
  refine lv_iconst (v := 0) hx hb dX6_readTape_14 (by decide) ?_
  refine lv_istore_n (lv' := [(2, .int 0), (1, .int u12), (0, .ref (E.ad 3))]) hx hb dX6_readTape_15 rfl hl (by decide) rfl (fun ls hl => ?_)
  exact j16 FU u12 0 g11 _ _ _ hG (lv_sub hl [2, 1, 0] rfl) h
