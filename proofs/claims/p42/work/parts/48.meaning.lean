def k1_mirrorNamed_2  (g : G) : Nat → Int32 → Int32 → Option (Int32)
  | 0, _, _ => none
  | f + 1, v1, v2 =>
        if (g 8 4) ≤ v2 then
          some (-1)
        else
          if 10 ≤ v2 then
            some (-1)
          else
            ld g 15 10 v2 fun x3 =>
            (k6_areSameNames x3 v1 g).bind fun u4 =>
            if u4 = 0 then
              bd (v2 + 1) fun x6 =>
              k1_mirrorNamed_2 g f v1 x6
            else
              some v2
def k1_mirrorNamed  (a1 : Int32) (g : G) : Option (Int32) :=
  k1_mirrorNamed_2 g FU a1 0
set_option maxRecDepth 100000 in
set_option maxHeartbeats 4000000 in
theorem m1_mirrorNamed (E : EV) (l : Launch) (a1 : Int32) (g : G) : ∀ u, k1_mirrorNamed a1 g = some u → MI E l yX1_mirrorNamed cX1_mirrorNamed 3 (some .int) 2 0 0 [.ref (E.ad 14), .int a1] g (u, g) := by
  intro u h
  refine MG.of (by decide +kernel) (Nat.le_of_ble_eq_true rfl) ?_
  intro p e s m args below meth c C hr hnm ls hl hG
  have C : Cx p s m args meth c cX1_mirrorNamed 3 RX1 E := C
  have hx := C.1
  have hb := C.2.1
  have hl : lv_has ls 3 [(0, .ref (E.ad 14)), (1, .int a1)] := hl
  unfold k1_mirrorNamed at h
  have j2 : ∀ f : Nat, ∀ (v1 : Int32) (v2 : Int32) (H : Heap) (locs : List Loc) (ls : Array Slot), Gd E s H locs g [] → lv_has ls 3 [(0, .ref (E.ad 14)), (1, .int v1), (2, .int v2)] → k1_mirrorNamed_2 g f v1 v2 = some u → W p l e (rmD 2 0 0) s m args below meth c H locs 0 0 (MQ below (QI E s.heap.size u g) args s 0 0 (AA E s.heap.size)) (F0 m 2 ls []) := by
    intro f
    induction f with
    | zero =>
      intro v1 v2 H locs ls hG hl h
      unfold k1_mirrorNamed_2 at h
      cases h
    | succ f ih =>
      intro v1 v2 H locs ls hG hl h
      unfold k1_mirrorNamed_2 at h
      refine lv_iload_n hx hb dX1_mirrorNamed_2 rfl (lv_at hl 2 rfl) ?_
      refine lv_aload_n hx hb dX1_mirrorNamed_3 rfl (lv_at hl 0 rfl) ?_
      refine r_getA (j := 8) C hG FX1_23 rfl rfl dX1_mirrorNamed_4 ?_
      refine r_getI C hG FX1_63 rfl rfl dX1_mirrorNamed_7 ?_
      refine lv_icmp_ge (tgt := 44) hx hb dX1_mirrorNamed_10 (by decide) (fun c1 => ?_) (fun c1 => ?_)
      · have h := (if_inv h).1 c1
        refine lv_iconst (v := (-1)) hx hb dX1_mirrorNamed_44 (by decide) ?_
        exact r_iretP C hG hr rfl dX1_mirrorNamed_45 h
      · have h := (if_inv h).2 c1
        refine lv_iload_n hx hb dX1_mirrorNamed_13 rfl (lv_at hl 2 rfl) ?_
        refine lv_bipush (v := 10) hx hb dX1_mirrorNamed_14 (by decide) ?_
        refine lv_icmp_ge (tgt := 44) hx hb dX1_mirrorNamed_16 (by decide) (fun c2 => ?_) (fun c2 => ?_)
        · have h := (if_inv h).1 c2
          refine lv_iconst (v := (-1)) hx hb dX1_mirrorNamed_44 (by decide) ?_
          exact r_iretP C hG hr rfl dX1_mirrorNamed_45 h
        · have h := (if_inv h).2 c2
          refine lv_aload_n hx hb dX1_mirrorNamed_19 rfl (lv_at hl 0 rfl) ?_
          refine r_getA (j := 3) C hG FX1_19 rfl rfl dX1_mirrorNamed_20 ?_
          refine lv_aload_n hx hb dX1_mirrorNamed_23 rfl (lv_at hl 0 rfl) ?_
          refine r_getA (j := 15) C hG FX1_9 rfl rfl dX1_mirrorNamed_24 ?_
          refine lv_iload_n hx hb dX1_mirrorNamed_27 rfl (lv_at hl 2 rfl) ?_
          refine r_ild C hG (N := 10) rfl (by decide) dX1_mirrorNamed_28 h (fun x3 h => ?_)
          refine lv_iload_n hx hb dX1_mirrorNamed_29 rfl (lv_at hl 1 rfl) ?_
          refine r_callVIP C hl.1 hG [.int x3, .int v1] [] (m6_areSameNames E l x3 v1 g) LX1_72 rfl KC6 rfl (rm_ok (by decide) (by decide)) (Nat.le_of_ble_eq_true rfl) ⟨Nat.le_refl _, Nat.le_refl _⟩ rfl dX1_mirrorNamed_30 h (fun u4 H locs hG h => ?_)
          refine lv_if_eq (tgt := 38) hx hb dX1_mirrorNamed_33 (by decide) (fun c5 => ?_) (fun c5 => ?_)
          · have h := (if_inv h).1 c5
            refine r_iinc (w := 1) (lv' := fun x6 => [(2, .int x6), (0, .ref (E.ad 14)), (1, .int v1)]) C dX1_mirrorNamed_38 hl (k := 2) rfl (by decide) (by decide) (fun _ => rfl) h (fun x6 ls hl h => ?_)
            refine lv_goto (tgt := 2) hx hb dX1_mirrorNamed_41 (by decide) ?_
            exact ih v1 x6 _ _ _ hG (lv_sub hl [1, 2, 0] rfl) h
          · have h := (if_inv h).2 c5
            refine lv_iload_n hx hb dX1_mirrorNamed_36 rfl (lv_at hl 2 rfl) ?_
            exact r_iretP C hG hr rfl dX1_mirrorNamed_37 h
  refine lv_iconst (v := 0) hx hb dX1_mirrorNamed_0 (by decide) ?_
  refine lv_istore_n (lv' := [(2, .int 0), (0, .ref (E.ad 14)), (1, .int a1)]) hx hb dX1_mirrorNamed_1 rfl hl (by decide) rfl (fun ls hl => ?_)
  exact j2 FU a1 0 _ _ _ hG (lv_sub hl [1, 2, 0] rfl) h
def k1_errorOfNewName  (a1 : Int32) (g : G) : Option (Int32 × G) :=
  (k1_mirrorNamed a1 g).bind fun u1 =>
  if u1 = (-1) then
    if (g 8 4) < 10 then
      sto g 15 10 (g 8 4) a1 fun g4 =>
      bd (up g4 8 4 ((g4 8 4) + 1)) fun g5 =>
      some (0, g5)
    else
      some (4, g)
  else
    some (2, g)
set_option maxRecDepth 100000 in
set_option maxHeartbeats 4000000 in
theorem m1_errorOfNewName (E : EV) (l : Launch) (a1 : Int32) (g : G) : ∀ u, k1_errorOfNewName a1 g = some u → MI E l yX1_errorOfNewName cX1_errorOfNewName 2 (some .int) 3 0 0 [.ref (E.ad 14), .int a1] g u := by
  intro u h
  refine MG.of (by decide +kernel) (Nat.le_of_ble_eq_true rfl) ?_
  intro p e s m args below meth c C hr hnm ls hl hG
  have C : Cx p s m args meth c cX1_errorOfNewName 2 RX1 E := C
  have hx := C.1
  have hb := C.2.1
  have hl : lv_has ls 2 [(0, .ref (E.ad 14)), (1, .int a1)] := hl
  unfold k1_errorOfNewName at h
  refine lv_aload_n hx hb dX1_errorOfNewName_0 rfl (lv_at hl 0 rfl) ?_
  refine lv_iload_n hx hb dX1_errorOfNewName_1 rfl (lv_at hl 1 rfl) ?_
  refine r_callVIP C hl.1 hG [.int a1] [] (m1_mirrorNamed E l a1 g) LX1_60 rfl KC1 rfl (rm_ok (by decide) (by decide)) (Nat.le_of_ble_eq_true rfl) ⟨Nat.le_refl _, Nat.le_refl _⟩ rfl dX1_errorOfNewName_2 h (fun u1 H locs hG h => ?_)
  refine lv_iconst (v := (-1)) hx hb dX1_errorOfNewName_5 (by decide) ?_
  refine lv_icmp_eq (tgt := 11) hx hb dX1_errorOfNewName_6 (by decide) (fun c2 => ?_) (fun c2 => ?_)
  · have h := (if_inv h).1 c2
    refine lv_aload_n hx hb dX1_errorOfNewName_11 rfl (lv_at hl 0 rfl) ?_
    refine r_getA (j := 8) C hG FX1_23 rfl rfl dX1_errorOfNewName_12 ?_
    refine r_getI C hG FX1_63 rfl rfl dX1_errorOfNewName_15 ?_
    refine lv_bipush (v := 10) hx hb dX1_errorOfNewName_18 (by decide) ?_
    refine lv_icmp_lt (tgt := 25) hx hb dX1_errorOfNewName_20 (by decide) (fun c3 => ?_) (fun c3 => ?_)
    · have h := (if_inv h).1 c3
      refine lv_aload_n hx hb dX1_errorOfNewName_25 rfl (lv_at hl 0 rfl) ?_
      refine r_getA (j := 15) C hG FX1_9 rfl rfl dX1_errorOfNewName_26 ?_
      refine lv_aload_n hx hb dX1_errorOfNewName_29 rfl (lv_at hl 0 rfl) ?_
      refine r_getA (j := 8) C hG FX1_23 rfl rfl dX1_errorOfNewName_30 ?_
      refine r_getI C hG FX1_63 rfl rfl dX1_errorOfNewName_33 ?_
      refine lv_iload_n hx hb dX1_errorOfNewName_36 rfl (lv_at hl 1 rfl) ?_
      refine r_ist C hG (N := 10) rfl (by decide) dX1_errorOfNewName_37 h (fun H locs g4 hG h => ?_)
      refine lv_aload_n hx hb dX1_errorOfNewName_38 rfl (lv_at hl 0 rfl) ?_
      refine r_getA (j := 8) C hG FX1_23 rfl rfl dX1_errorOfNewName_39 ?_
      refine lv_dup hx hb dX1_errorOfNewName_42 rfl ?_
      refine r_getI C hG FX1_63 rfl rfl dX1_errorOfNewName_43 ?_
      refine lv_iconst (v := 1) hx hb dX1_errorOfNewName_46 (by decide) ?_
      refine lv_iadd hx hb dX1_errorOfNewName_47 ?_
      refine r_putI C hG FX1_63 rfl rfl dX1_errorOfNewName_48 h (fun H locs g5 hG h => ?_)
      refine lv_iconst (v := 0) hx hb dX1_errorOfNewName_51 (by decide) ?_
      exact r_iret C hG hr rfl dX1_errorOfNewName_52 h
    · have h := (if_inv h).2 c3
      refine lv_iconst (v := 4) hx hb dX1_errorOfNewName_23 (by decide) ?_
      exact r_iret C hG hr rfl dX1_errorOfNewName_24 h
  · have h := (if_inv h).2 c2
    refine lv_iconst (v := 2) hx hb dX1_errorOfNewName_9 (by decide) ?_
    exact r_iret C hG hr rfl dX1_errorOfNewName_10 h
def k1_errorOfName  (a1 : Int32) (g : G) : Option (Int32 × G) :=
  (k1_mirrorNamed a1 g).bind fun u1 =>
  (k6_setValue a1 u1 g).bind fun g2 =>
  if u1 = (-1) then
    some (3, g2)
  else
    some (0, g2)
set_option maxRecDepth 100000 in
set_option maxHeartbeats 4000000 in
theorem m1_errorOfName (E : EV) (l : Launch) (a1 : Int32) (g : G) : ∀ u, k1_errorOfName a1 g = some u → MI E l yX1_errorOfName cX1_errorOfName 3 (some .int) 3 0 0 [.ref (E.ad 14), .int a1] g u := by
  intro u h
  refine MG.of (by decide +kernel) (Nat.le_of_ble_eq_true rfl) ?_
  intro p e s m args below meth c C hr hnm ls hl hG
  have C : Cx p s m args meth c cX1_errorOfName 3 RX1 E := C
  have hx := C.1
  have hb := C.2.1
  have hl : lv_has ls 3 [(0, .ref (E.ad 14)), (1, .int a1)] := hl
  unfold k1_errorOfName at h
  refine lv_aload_n hx hb dX1_errorOfName_0 rfl (lv_at hl 0 rfl) ?_
  refine lv_iload_n hx hb dX1_errorOfName_1 rfl (lv_at hl 1 rfl) ?_
  refine r_callVIP C hl.1 hG [.int a1] [] (m1_mirrorNamed E l a1 g) LX1_60 rfl KC1 rfl (rm_ok (by decide) (by decide)) (Nat.le_of_ble_eq_true rfl) ⟨Nat.le_refl _, Nat.le_refl _⟩ rfl dX1_errorOfName_2 h (fun u1 H locs hG h => ?_)
  refine lv_istore_n (lv' := [(2, .int u1), (0, .ref (E.ad 14)), (1, .int a1)]) hx hb dX1_errorOfName_5 rfl hl (by decide) rfl (fun ls hl => ?_)
  refine lv_aload_n hx hb dX1_errorOfName_6 rfl (lv_at hl 1 rfl) ?_
  refine r_getA (j := 3) C hG FX1_19 rfl rfl dX1_errorOfName_7 ?_
  refine lv_iload_n hx hb dX1_errorOfName_10 rfl (lv_at hl 2 rfl) ?_
  refine lv_iload_n hx hb dX1_errorOfName_11 rfl (lv_at hl 0 rfl) ?_
  refine r_callVV C hl.1 hG [.int a1, .int u1] [] (m6_setValue E l a1 u1 g) LX1_68 rfl KC6 rfl (rm_ok (by decide) (by decide)) (Nat.le_of_ble_eq_true rfl) ⟨Nat.le_refl _, Nat.le_refl _⟩ rfl dX1_errorOfName_12 h (fun g2 H locs hG h => ?_)
  refine lv_iload_n hx hb dX1_errorOfName_15 rfl (lv_at hl 0 rfl) ?_
  refine lv_iconst (v := (-1)) hx hb dX1_errorOfName_16 (by decide) ?_
  refine lv_icmp_ne (tgt := 24) hx hb dX1_errorOfName_17 (by decide) (fun c3 => ?_) (fun c3 => ?_)
  · have h := (if_inv h).2 c3
    refine lv_iconst (v := 0) hx hb dX1_errorOfName_24 (by decide) ?_
    exact r_iret C hG hr rfl dX1_errorOfName_25 h
  · have h := (if_inv h).1 c3
    refine lv_iconst (v := 3) hx hb dX1_errorOfName_20 (by decide) ?_
    refine lv_goto (tgt := 25) hx hb dX1_errorOfName_21 (by decide) ?_
    exact r_iret C hG hr rfl dX1_errorOfName_25 h
def k1_errorOfNumber_127  (v2 : Int32) (t0 : Int32) (g : G) : Option (Int32 × G) :=
      (k2_tellOffset 8 t0 g).bind fun g1 =>
      if v2 ≤ 90 then
        some (0, g1)
      else
        some (5, g1)
def k1_errorOfNumber_61  (v2 : Int32) (v4 : Int32) (t0 : Int32) (g : G) : Option (Int32 × G) :=
      if t0 = 129 then
        (k2_tellClarity 8 v2 g).bind fun g4 =>
        if v2 ≤ 100 then
          some (0, g4)
        else
          some (5, g4)
      else
      if t0 = 130 then
        if v4 = 0 then
          k1_errorOfNumber_127 v2 v2 g
        else
          k1_errorOfNumber_127 v2 (-v2) g
      else
      if t0 = 131 then
        bd (up g 8 6 v2) fun g9 =>
        if v2 ≤ 180 then
          some (0, g9)
        else
          some (5, g9)
      else
      if t0 = 132 then
        bd (up g 8 7 v2) fun g12 =>
        if v2 ≤ 10000 then
          some (0, g12)
        else
          some (5, g12)
      else
      some (0, g)
def k1_errorOfNumber_47  (v2 : Int32) (v3 : Int32) (t0 : Int32) (g : G) : Option (Int32 × G) :=
      if t0 = 0 then
        k1_errorOfNumber_61 v2 t0 v3 g
      else
        k1_errorOfNumber_61 v2 t0 130 g
def k1_errorOfNumber_46  (v2 : Int32) (v3 : Int32) (g : G) : Option (Int32 × G) :=
      k1_errorOfNumber_47 v2 v3 0 g
def k1_errorOfNumber  (a1 : Int32) (g : G) : Option (Int32 × G) :=
  (k6_valueAt a1 g).bind fun u15 =>
  (k6_kindAt (a1 - 1) g).bind fun u16 =>
  if u16 = 45 then
    (k6_kindAt (a1 - 2) g).bind fun u18 =>
    if u18 = 130 then
      k1_errorOfNumber_47 u15 u16 1 g
    else
      k1_errorOfNumber_46 u15 u16 g
  else
    k1_errorOfNumber_46 u15 u16 g
set_option maxRecDepth 100000 in
set_option maxHeartbeats 4000000 in
theorem m1_errorOfNumber (E : EV) (l : Launch) (a1 : Int32) (g : G) : ∀ u, k1_errorOfNumber a1 g = some u → MI E l yX1_errorOfNumber cX1_errorOfNumber 5 (some .int) 1 0 0 [.ref (E.ad 14), .int a1] g u := by
  intro u h
  refine MG.of (by decide +kernel) (Nat.le_of_ble_eq_true rfl) ?_
  intro p e s m args below meth c C hr hnm ls hl hG
  have C : Cx p s m args meth c cX1_errorOfNumber 5 RX1 E := C
  have hx := C.1
  have hb := C.2.1
  have hl : lv_has ls 5 [(0, .ref (E.ad 14)), (1, .int a1)] := hl
  unfold k1_errorOfNumber at h
  have j127 : ∀ (v2 : Int32) (t0 : Int32) (g : G) (H : Heap) (locs : List Loc) (ls : Array Slot), Gd E s H locs g [] → lv_has ls 5 [(2, .int v2)] → k1_errorOfNumber_127 v2 t0 g = some u → W p l e (rmD 1 0 0) s m args below meth c H locs 0 0 (MQ below (QI E s.heap.size u.1 u.2) args s 0 0 (AA E s.heap.size)) (F0 m 127 ls [.int t0, .ref (E.ad 8)]) := by
    intro v2 t0 g H locs ls hG hl h
    unfold k1_errorOfNumber_127 at h
    refine r_callVV C hl.1 hG [.int t0] [] (m2_tellOffset E l 8 rfl t0 g) LX1_86 rfl KC2 rfl (rm_ok (by decide) (by decide)) (Nat.le_of_ble_eq_true rfl) ⟨Nat.le_refl _, Nat.le_refl _⟩ rfl dX1_errorOfNumber_127 h (fun g1 H locs hG h => ?_)
    refine lv_iload_n hx hb dX1_errorOfNumber_130 rfl (lv_at hl 0 rfl) ?_
    refine lv_bipush (v := 90) hx hb dX1_errorOfNumber_131 (by decide) ?_
    refine lv_icmp_le (tgt := 140) hx hb dX1_errorOfNumber_133 (by decide) (fun c2 => ?_) (fun c2 => ?_)
    · have h := (if_inv h).1 c2
      refine lv_iconst (v := 0) hx hb dX1_errorOfNumber_140 (by decide) ?_
      exact r_iret C hG hr rfl dX1_errorOfNumber_141 h
    · have h := (if_inv h).2 c2
      refine lv_iconst (v := 5) hx hb dX1_errorOfNumber_136 (by decide) ?_
      refine lv_goto (tgt := 141) hx hb dX1_errorOfNumber_137 (by decide) ?_
      exact r_iret C hG hr rfl dX1_errorOfNumber_141 h
  have j61 : ∀ (v2 : Int32) (v4 : Int32) (t0 : Int32) (g : G) (H : Heap) (locs : List Loc) (ls : Array Slot), Gd E s H locs g [] → lv_has ls 5 [(0, .ref (E.ad 14)), (2, .int v2), (4, .int v4)] → k1_errorOfNumber_61 v2 v4 t0 g = some u → W p l e (rmD 1 0 0) s m args below meth c H locs 0 0 (MQ below (QI E s.heap.size u.1 u.2) args s 0 0 (AA E s.heap.size)) (F0 m 61 ls [.int t0]) := by
    intro v2 v4 t0 g H locs ls hG hl h
    unfold k1_errorOfNumber_61 at h
    by_cases c3 : t0 = 129
    · have h := (if_inv h).1 c3
      refine lv_tableIn (off := 31) (tgt := 92) hx hb dX1_errorOfNumber_61 (by rw [c3]; decide +kernel) (by rw [c3]; decide +kernel) (by rw [c3]; decide +kernel) (by decide) ?_
      refine lv_aload_n hx hb dX1_errorOfNumber_92 rfl (lv_at hl 0 rfl) ?_
      refine r_getA (j := 8) C hG FX1_23 rfl rfl dX1_errorOfNumber_93 ?_
      refine lv_iload_n hx hb dX1_errorOfNumber_96 rfl (lv_at hl 1 rfl) ?_
      refine r_callVV C hl.1 hG [.int v2] [] (m2_tellClarity E l 8 rfl v2 g) LX1_82 rfl KC2 rfl (rm_ok (by decide) (by decide)) (Nat.le_of_ble_eq_true rfl) ⟨Nat.le_refl _, Nat.le_refl _⟩ rfl dX1_errorOfNumber_97 h (fun g4 H locs hG h => ?_)
      refine lv_iload_n hx hb dX1_errorOfNumber_100 rfl (lv_at hl 1 rfl) ?_
      refine lv_bipush (v := 100) hx hb dX1_errorOfNumber_101 (by decide) ?_
      refine lv_icmp_le (tgt := 110) hx hb dX1_errorOfNumber_103 (by decide) (fun c5 => ?_) (fun c5 => ?_)
      · have h := (if_inv h).1 c5
        refine lv_iconst (v := 0) hx hb dX1_errorOfNumber_110 (by decide) ?_
        exact r_iret C hG hr rfl dX1_errorOfNumber_111 h
      · have h := (if_inv h).2 c5
        refine lv_iconst (v := 5) hx hb dX1_errorOfNumber_106 (by decide) ?_
        refine lv_goto (tgt := 111) hx hb dX1_errorOfNumber_107 (by decide) ?_
        exact r_iret C hG hr rfl dX1_errorOfNumber_111 h
    have h := (if_inv h).2 c3
    by_cases c6 : t0 = 130
    · have h := (if_inv h).1 c6
      refine lv_tableIn (off := 51) (tgt := 112) hx hb dX1_errorOfNumber_61 (by rw [c6]; decide +kernel) (by rw [c6]; decide +kernel) (by rw [c6]; decide +kernel) (by decide) ?_
      refine lv_aload_n hx hb dX1_errorOfNumber_112 rfl (lv_at hl 0 rfl) ?_
      refine r_getA (j := 8) C hG FX1_23 rfl rfl dX1_errorOfNumber_113 ?_
      refine lv_iload hx hb dX1_errorOfNumber_116 (lv_at hl 2 rfl) ?_
      refine lv_if_eq (tgt := 126) hx hb dX1_errorOfNumber_118 (by decide) (fun c7 => ?_) (fun c7 => ?_)
      · have h := (if_inv h).1 c7
        refine lv_iload_n hx hb dX1_errorOfNumber_126 rfl (lv_at hl 1 rfl) ?_
        exact j127 v2 v2 g _ _ _ hG (lv_sub hl [1] rfl) h
      · have h := (if_inv h).2 c7
        refine lv_iload_n hx hb dX1_errorOfNumber_121 rfl (lv_at hl 1 rfl) ?_
        refine lv_ineg hx hb dX1_errorOfNumber_122 ?_
        refine lv_goto (tgt := 127) hx hb dX1_errorOfNumber_123 (by decide) ?_
        exact j127 v2 (-v2) g _ _ _ hG (lv_sub hl [1] rfl) h
    have h := (if_inv h).2 c6
    by_cases c8 : t0 = 131
    · have h := (if_inv h).1 c8
      refine lv_tableIn (off := 81) (tgt := 142) hx hb dX1_errorOfNumber_61 (by rw [c8]; decide +kernel) (by rw [c8]; decide +kernel) (by rw [c8]; decide +kernel) (by decide) ?_
      refine lv_aload_n hx hb dX1_errorOfNumber_142 rfl (lv_at hl 0 rfl) ?_
      refine r_getA (j := 8) C hG FX1_23 rfl rfl dX1_errorOfNumber_143 ?_
      refine lv_iload_n hx hb dX1_errorOfNumber_146 rfl (lv_at hl 1 rfl) ?_
      refine r_putI C hG FX1_89 rfl rfl dX1_errorOfNumber_147 h (fun H locs g9 hG h => ?_)
      refine lv_iload_n hx hb dX1_errorOfNumber_150 rfl (lv_at hl 1 rfl) ?_
      refine lv_sipush (v := 180) hx hb dX1_errorOfNumber_151 (by decide) ?_
      refine lv_icmp_le (tgt := 161) hx hb dX1_errorOfNumber_154 (by decide) (fun c10 => ?_) (fun c10 => ?_)
      · have h := (if_inv h).1 c10
        refine lv_iconst (v := 0) hx hb dX1_errorOfNumber_161 (by decide) ?_
        exact r_iret C hG hr rfl dX1_errorOfNumber_162 h
      · have h := (if_inv h).2 c10
        refine lv_iconst (v := 5) hx hb dX1_errorOfNumber_157 (by decide) ?_
        refine lv_goto (tgt := 162) hx hb dX1_errorOfNumber_158 (by decide) ?_
        exact r_iret C hG hr rfl dX1_errorOfNumber_162 h
    have h := (if_inv h).2 c8
    by_cases c11 : t0 = 132
    · have h := (if_inv h).1 c11
      refine lv_tableIn (off := 102) (tgt := 163) hx hb dX1_errorOfNumber_61 (by rw [c11]; decide +kernel) (by rw [c11]; decide +kernel) (by rw [c11]; decide +kernel) (by decide) ?_
      refine lv_aload_n hx hb dX1_errorOfNumber_163 rfl (lv_at hl 0 rfl) ?_
      refine r_getA (j := 8) C hG FX1_23 rfl rfl dX1_errorOfNumber_164 ?_
      refine lv_iload_n hx hb dX1_errorOfNumber_167 rfl (lv_at hl 1 rfl) ?_
      refine r_putI C hG FX1_92 rfl rfl dX1_errorOfNumber_168 h (fun H locs g12 hG h => ?_)
      refine lv_iload_n hx hb dX1_errorOfNumber_171 rfl (lv_at hl 1 rfl) ?_
      refine lv_sipush (v := 10000) hx hb dX1_errorOfNumber_172 (by decide) ?_
      refine lv_icmp_le (tgt := 182) hx hb dX1_errorOfNumber_175 (by decide) (fun c13 => ?_) (fun c13 => ?_)
      · have h := (if_inv h).1 c13
        refine lv_iconst (v := 0) hx hb dX1_errorOfNumber_182 (by decide) ?_
        exact r_iret C hG hr rfl dX1_errorOfNumber_183 h
      · have h := (if_inv h).2 c13
        refine lv_iconst (v := 5) hx hb dX1_errorOfNumber_178 (by decide) ?_
        refine lv_goto (tgt := 183) hx hb dX1_errorOfNumber_179 (by decide) ?_
        exact r_iret C hG hr rfl dX1_errorOfNumber_183 h
    have h := (if_inv h).2 c11
    refine lv_tableOut (tgt := 184) hx hb dX1_errorOfNumber_61 (tab_out 4 (by decide) (lt_s (lt_s (lt_s (lt_s lt_0 (nei c3 (by decide))) (nei c6 (by decide))) (nei c8 (by decide))) (nei c11 (by decide)))) (by decide) ?_
    refine lv_iconst (v := 0) hx hb dX1_errorOfNumber_184 (by decide) ?_
    exact r_iret C hG hr rfl dX1_errorOfNumber_185 h
  have j47 : ∀ (v2 : Int32) (v3 : Int32) (t0 : Int32) (g : G) (H : Heap) (locs : List Loc) (ls : Array Slot), Gd E s H locs g [] → lv_has ls 5 [(0, .ref (E.ad 14)), (2, .int v2), (3, .int v3)] → k1_errorOfNumber_47 v2 v3 t0 g = some u → W p l e (rmD 1 0 0) s m args below meth c H locs 0 0 (MQ below (QI E s.heap.size u.1 u.2) args s 0 0 (AA E s.heap.size)) (F0 m 47 ls [.int t0]) := by
    intro v2 v3 t0 g H locs ls hG hl h
    unfold k1_errorOfNumber_47 at h
    refine lv_istore (lv' := [(4, .int t0), (0, .ref (E.ad 14)), (2, .int v2), (3, .int v3)]) hx hb dX1_errorOfNumber_47 hl (by decide) rfl (fun ls hl => ?_)
    refine lv_iload hx hb dX1_errorOfNumber_49 (lv_at hl 0 rfl) ?_
    refine lv_if_eq (tgt := 60) hx hb dX1_errorOfNumber_51 (by decide) (fun c14 => ?_) (fun c14 => ?_)
    · have h := (if_inv h).1 c14
      refine lv_iload_n hx hb dX1_errorOfNumber_60 rfl (lv_at hl 3 rfl) ?_
      exact j61 v2 t0 v3 g _ _ _ hG (lv_sub hl [1, 2, 0] rfl) h
    · have h := (if_inv h).2 c14
      refine lv_sipush (v := 130) hx hb dX1_errorOfNumber_54 (by decide) ?_
      refine lv_goto (tgt := 61) hx hb dX1_errorOfNumber_57 (by decide) ?_
      exact j61 v2 t0 130 g _ _ _ hG (lv_sub hl [1, 2, 0] rfl) h
  have j46 : ∀ (v2 : Int32) (v3 : Int32) (g : G) (H : Heap) (locs : List Loc) (ls : Array Slot), Gd E s H locs g [] → lv_has ls 5 [(0, .ref (E.ad 14)), (2, .int v2), (3, .int v3)] → k1_errorOfNumber_46 v2 v3 g = some u → W p l e (rmD 1 0 0) s m args below meth c H locs 0 0 (MQ below (QI E s.heap.size u.1 u.2) args s 0 0 (AA E s.heap.size)) (F0 m 46 ls []) := by
    intro v2 v3 g H locs ls hG hl h
    unfold k1_errorOfNumber_46 at h
    refine lv_iconst (v := 0) hx hb dX1_errorOfNumber_46 (by decide) ?_
    exact j47 v2 v3 0 g _ _ _ hG (lv_sub hl [0, 1, 2] rfl) h
  refine lv_aload_n hx hb dX1_errorOfNumber_0 rfl (lv_at hl 0 rfl) ?_
  refine r_getA (j := 3) C hG FX1_19 rfl rfl dX1_errorOfNumber_1 ?_
  refine lv_iload_n hx hb dX1_errorOfNumber_4 rfl (lv_at hl 1 rfl) ?_
  refine r_callVIP C hl.1 hG [.int a1] [] (m6_valueAt E l a1 g) LX1_79 rfl KC6 rfl (rm_ok (by decide) (by decide)) (Nat.le_of_ble_eq_true rfl) ⟨Nat.le_refl _, Nat.le_refl _⟩ rfl dX1_errorOfNumber_5 h (fun u15 H locs hG h => ?_)
  refine lv_istore_n (lv' := [(2, .int u15), (0, .ref (E.ad 14)), (1, .int a1)]) hx hb dX1_errorOfNumber_8 rfl hl (by decide) rfl (fun ls hl => ?_)
  refine lv_aload_n hx hb dX1_errorOfNumber_9 rfl (lv_at hl 1 rfl) ?_
  refine r_getA (j := 3) C hG FX1_19 rfl rfl dX1_errorOfNumber_10 ?_
  refine lv_iload_n hx hb dX1_errorOfNumber_13 rfl (lv_at hl 2 rfl) ?_
  refine lv_iconst (v := 1) hx hb dX1_errorOfNumber_14 (by decide) ?_
  refine lv_isub hx hb dX1_errorOfNumber_15 ?_
  refine r_callVIP C hl.1 hG [.int (a1 - 1)] [] (m6_kindAt E l (a1 - 1) g) LX1_40 rfl KC6 rfl (rm_ok (by decide) (by decide)) (Nat.le_of_ble_eq_true rfl) ⟨Nat.le_refl _, Nat.le_refl _⟩ rfl dX1_errorOfNumber_16 h (fun u16 H locs hG h => ?_)
  refine lv_istore_n (lv' := [(3, .int u16), (2, .int u15), (0, .ref (E.ad 14)), (1, .int a1)]) hx hb dX1_errorOfNumber_19 rfl hl (by decide) rfl (fun ls hl => ?_)
  refine lv_iload_n hx hb dX1_errorOfNumber_20 rfl (lv_at hl 0 rfl) ?_
  refine lv_bipush (v := 45) hx hb dX1_errorOfNumber_21 (by decide) ?_
  refine lv_icmp_ne (tgt := 46) hx hb dX1_errorOfNumber_23 (by decide) (fun c17 => ?_) (fun c17 => ?_)
  · have h := (if_inv h).2 c17
    exact j46 u15 u16 g _ _ _ hG (lv_sub hl [2, 1, 0] rfl) h
  · have h := (if_inv h).1 c17
    refine lv_aload_n hx hb dX1_errorOfNumber_26 rfl (lv_at hl 2 rfl) ?_
    refine r_getA (j := 3) C hG FX1_19 rfl rfl dX1_errorOfNumber_27 ?_
    refine lv_iload_n hx hb dX1_errorOfNumber_30 rfl (lv_at hl 3 rfl) ?_
    refine lv_iconst (v := 2) hx hb dX1_errorOfNumber_31 (by decide) ?_
    refine lv_isub hx hb dX1_errorOfNumber_32 ?_
    refine r_callVIP C hl.1 hG [.int (a1 - 2)] [] (m6_kindAt E l (a1 - 2) g) LX1_40 rfl KC6 rfl (rm_ok (by decide) (by decide)) (Nat.le_of_ble_eq_true rfl) ⟨Nat.le_refl _, Nat.le_refl _⟩ rfl dX1_errorOfNumber_33 h (fun u18 H locs hG h => ?_)
    refine lv_sipush (v := 130) hx hb dX1_errorOfNumber_36 (by decide) ?_
    refine lv_icmp_ne (tgt := 46) hx hb dX1_errorOfNumber_39 (by decide) (fun c19 => ?_) (fun c19 => ?_)
    · have h := (if_inv h).2 c19
      exact j46 u15 u16 g _ _ _ hG (lv_sub hl [2, 1, 0] rfl) h
    · have h := (if_inv h).1 c19
      refine lv_iconst (v := 1) hx hb dX1_errorOfNumber_42 (by decide) ?_
      refine lv_goto (tgt := 47) hx hb dX1_errorOfNumber_43 (by decide) ?_
      exact j47 u15 u16 1 g _ _ _ hG (lv_sub hl [2, 1, 0] rfl) h
def k1_errorOfOrder  (g : G) : Option (Int32 × G) :=
  bd (up g 8 5 ((g 8 5) + 1)) fun g1 =>
  if (g1 8 5) ≤ 16 then
    some (0, g1)
  else
    some (4, g1)
set_option maxRecDepth 100000 in
set_option maxHeartbeats 4000000 in
theorem m1_errorOfOrder (E : EV) (l : Launch) (g : G) : ∀ u, k1_errorOfOrder g = some u → MI E l yX1_errorOfOrder cX1_errorOfOrder 1 (some .int) 0 0 0 [.ref (E.ad 14)] g u := by
  intro u h
  refine MG.of (by decide +kernel) (Nat.le_of_ble_eq_true rfl) ?_
  intro p e s m args below meth c C hr hnm ls hl hG
  have C : Cx p s m args meth c cX1_errorOfOrder 1 RX1 E := C
  have hx := C.1
  have hb := C.2.1
  have hl : lv_has ls 1 [(0, .ref (E.ad 14))] := hl
  unfold k1_errorOfOrder at h
  refine lv_aload_n hx hb dX1_errorOfOrder_0 rfl (lv_at hl 0 rfl) ?_
  refine r_getA (j := 8) C hG FX1_23 rfl rfl dX1_errorOfOrder_1 ?_
  refine lv_dup hx hb dX1_errorOfOrder_4 rfl ?_
  refine r_getI C hG FX1_76 rfl rfl dX1_errorOfOrder_5 ?_
  refine lv_iconst (v := 1) hx hb dX1_errorOfOrder_8 (by decide) ?_
  refine lv_iadd hx hb dX1_errorOfOrder_9 ?_
  refine r_putI C hG FX1_76 rfl rfl dX1_errorOfOrder_10 h (fun H locs g1 hG h => ?_)
  refine lv_aload_n hx hb dX1_errorOfOrder_13 rfl (lv_at hl 0 rfl) ?_
  refine r_getA (j := 8) C hG FX1_23 rfl rfl dX1_errorOfOrder_14 ?_
  refine r_getI C hG FX1_76 rfl rfl dX1_errorOfOrder_17 ?_
  refine lv_bipush (v := 16) hx hb dX1_errorOfOrder_20 (by decide) ?_
  refine lv_icmp_le (tgt := 29) hx hb dX1_errorOfOrder_22 (by decide) (fun c2 => ?_) (fun c2 => ?_)
  · have h := (if_inv h).1 c2
    refine lv_iconst (v := 0) hx hb dX1_errorOfOrder_29 (by decide) ?_
    exact r_iret C hG hr rfl dX1_errorOfOrder_30 h
  · have h := (if_inv h).2 c2
    refine lv_iconst (v := 4) hx hb dX1_errorOfOrder_25 (by decide) ?_
    refine lv_goto (tgt := 30) hx hb dX1_errorOfOrder_26 (by decide) ?_
    exact r_iret C hG hr rfl dX1_errorOfOrder_30 h
def k1_errorOf_35  (v1 : Int32) (t0 : Int32) (g : G) : Option (Int32 × G) :=
      if t0 = 0 then
        (k1_errorOfName v1 g).bind fun u2 =>
        some (u2.1, u2.2)
      else
        (k1_errorOfNewName v1 g).bind fun u3 =>
        some (u3.1, u3.2)
def k1_errorOf  (a1 : Int32) (g : G) : Option (Int32 × G) :=
  (k6_kindAt a1 g).bind fun u4 =>
  if u4 = 2 then
    (k6_kindAt (a1 - 1) g).bind fun u11 =>
    if u11 = 128 then
      k1_errorOf_35 a1 1 g
    else
      k1_errorOf_35 a1 0 g
  else
    if u4 = 3 then
      (k1_errorOfNumber a1 g).bind fun u10 =>
      some (u10.1, u10.2)
    else
      (k8_isOrder u4 g).bind fun u7 =>
      if u7 = 0 then
        some (0, g)
      else
        (k1_errorOfOrder g).bind fun u9 =>
        some (u9.1, u9.2)
set_option maxRecDepth 100000 in
set_option maxHeartbeats 4000000 in
theorem m1_errorOf (E : EV) (l : Launch) (a1 : Int32) (g : G) : ∀ u, k1_errorOf a1 g = some u → MI E l yX1_errorOf cX1_errorOf 4 (some .int) 4 0 0 [.ref (E.ad 14), .int a1] g u := by
  intro u h
  refine MG.of (by decide +kernel) (Nat.le_of_ble_eq_true rfl) ?_
  intro p e s m args below meth c C hr hnm ls hl hG
  have C : Cx p s m args meth c cX1_errorOf 4 RX1 E := C
  have hx := C.1
  have hb := C.2.1
  have hl : lv_has ls 4 [(0, .ref (E.ad 14)), (1, .int a1)] := hl
  unfold k1_errorOf at h
  have j35 : ∀ (v1 : Int32) (t0 : Int32) (g : G) (H : Heap) (locs : List Loc) (ls : Array Slot), Gd E s H locs g [] → lv_has ls 4 [(0, .ref (E.ad 14)), (1, .int v1)] → k1_errorOf_35 v1 t0 g = some u → W p l e (rmD 4 0 0) s m args below meth c H locs 0 0 (MQ below (QI E s.heap.size u.1 u.2) args s 0 0 (AA E s.heap.size)) (F0 m 35 ls [.int t0]) := by
    intro v1 t0 g H locs ls hG hl h
    unfold k1_errorOf_35 at h
    refine lv_istore_n (lv' := [(3, .int t0), (0, .ref (E.ad 14)), (1, .int v1)]) hx hb dX1_errorOf_35 rfl hl (by decide) rfl (fun ls hl => ?_)
    refine lv_iload_n hx hb dX1_errorOf_36 rfl (lv_at hl 0 rfl) ?_
    refine lv_if_eq (tgt := 48) hx hb dX1_errorOf_37 (by decide) (fun c1 => ?_) (fun c1 => ?_)
    · have h := (if_inv h).1 c1
      refine lv_aload_n hx hb dX1_errorOf_48 rfl (lv_at hl 1 rfl) ?_
      refine lv_iload_n hx hb dX1_errorOf_49 rfl (lv_at hl 2 rfl) ?_
      refine r_callVI C hl.1 hG [.int v1] [] (m1_errorOfName E l v1 g) LX1_46 rfl KC1 rfl (rm_ok (by decide) (by decide)) (Nat.le_of_ble_eq_true rfl) ⟨Nat.le_refl _, Nat.le_refl _⟩ rfl dX1_errorOf_50 h (fun u2 H locs hG h => ?_)
      exact r_iret C hG hr rfl dX1_errorOf_53 h
    · have h := (if_inv h).2 c1
      refine lv_aload_n hx hb dX1_errorOf_40 rfl (lv_at hl 1 rfl) ?_
      refine lv_iload_n hx hb dX1_errorOf_41 rfl (lv_at hl 2 rfl) ?_
      refine r_callVI C hl.1 hG [.int v1] [] (m1_errorOfNewName E l v1 g) LX1_43 rfl KC1 rfl (rm_ok (by decide) (by decide)) (Nat.le_of_ble_eq_true rfl) ⟨Nat.le_refl _, Nat.le_refl _⟩ rfl dX1_errorOf_42 h (fun u3 H locs hG h => ?_)
      refine lv_goto (tgt := 53) hx hb dX1_errorOf_45 (by decide) ?_
      exact r_iret C hG hr rfl dX1_errorOf_53 h
  refine lv_aload_n hx hb dX1_errorOf_0 rfl (lv_at hl 0 rfl) ?_
  refine r_getA (j := 3) C hG FX1_19 rfl rfl dX1_errorOf_1 ?_
  refine lv_iload_n hx hb dX1_errorOf_4 rfl (lv_at hl 1 rfl) ?_
  refine r_callVIP C hl.1 hG [.int a1] [] (m6_kindAt E l a1 g) LX1_40 rfl KC6 rfl (rm_ok (by decide) (by decide)) (Nat.le_of_ble_eq_true rfl) ⟨Nat.le_refl _, Nat.le_refl _⟩ rfl dX1_errorOf_5 h (fun u4 H locs hG h => ?_)
  refine lv_istore_n (lv' := [(2, .int u4), (0, .ref (E.ad 14)), (1, .int a1)]) hx hb dX1_errorOf_8 rfl hl (by decide) rfl (fun ls hl => ?_)
  refine lv_iload_n hx hb dX1_errorOf_9 rfl (lv_at hl 0 rfl) ?_
  refine lv_iconst (v := 2) hx hb dX1_errorOf_10 (by decide) ?_
  refine lv_icmp_ne (tgt := 54) hx hb dX1_errorOf_11 (by decide) (fun c5 => ?_) (fun c5 => ?_)
  · have h := (if_inv h).2 c5
    refine lv_iload_n hx hb dX1_errorOf_54 rfl (lv_at hl 0 rfl) ?_
    refine lv_iconst (v := 3) hx hb dX1_errorOf_55 (by decide) ?_
    refine lv_icmp_ne (tgt := 65) hx hb dX1_errorOf_56 (by decide) (fun c6 => ?_) (fun c6 => ?_)
    · have h := (if_inv h).2 c6
      refine lv_iload_n hx hb dX1_errorOf_65 rfl (lv_at hl 0 rfl) ?_
      refine r_callSIP C hl.1 hG [.int u4] [] (m8_isOrder E l u4 g) LX1_52 rfl (rm_ok (by decide) (by decide)) (Nat.le_of_ble_eq_true rfl) ⟨Nat.le_refl _, Nat.le_refl _⟩ rfl dX1_errorOf_66 h (fun u7 H locs hG h => ?_)
      refine lv_if_eq (tgt := 79) hx hb dX1_errorOf_69 (by decide) (fun c8 => ?_) (fun c8 => ?_)
      · have h := (if_inv h).1 c8
        refine lv_iconst (v := 0) hx hb dX1_errorOf_79 (by decide) ?_
        exact r_iret C hG hr rfl dX1_errorOf_80 h
      · have h := (if_inv h).2 c8
        refine lv_aload_n hx hb dX1_errorOf_72 rfl (lv_at hl 1 rfl) ?_
        refine r_callVI C hl.1 hG [] [] (m1_errorOfOrder E l g) LX1_56 rfl KC1 rfl (rm_ok (by decide) (by decide)) (Nat.le_of_ble_eq_true rfl) ⟨Nat.le_refl _, Nat.le_refl _⟩ rfl dX1_errorOf_73 h (fun u9 H locs hG h => ?_)
        refine lv_goto (tgt := 80) hx hb dX1_errorOf_76 (by decide) ?_
        exact r_iret C hG hr rfl dX1_errorOf_80 h
    · have h := (if_inv h).1 c6
      refine lv_aload_n hx hb dX1_errorOf_59 rfl (lv_at hl 1 rfl) ?_
      refine lv_iload_n hx hb dX1_errorOf_60 rfl (lv_at hl 2 rfl) ?_
      refine r_callVI C hl.1 hG [.int a1] [] (m1_errorOfNumber E l a1 g) LX1_49 rfl KC1 rfl (rm_ok (by decide) (by decide)) (Nat.le_of_ble_eq_true rfl) ⟨Nat.le_refl _, Nat.le_refl _⟩ rfl dX1_errorOf_61 h (fun u10 H locs hG h => ?_)
      exact r_iret C hG hr rfl dX1_errorOf_64 h
  · have h := (if_inv h).1 c5
    refine lv_aload_n hx hb dX1_errorOf_14 rfl (lv_at hl 1 rfl) ?_
    refine r_getA (j := 3) C hG FX1_19 rfl rfl dX1_errorOf_15 ?_
    refine lv_iload_n hx hb dX1_errorOf_18 rfl (lv_at hl 2 rfl) ?_
    refine lv_iconst (v := 1) hx hb dX1_errorOf_19 (by decide) ?_
    refine lv_isub hx hb dX1_errorOf_20 ?_
    refine r_callVIP C hl.1 hG [.int (a1 - 1)] [] (m6_kindAt E l (a1 - 1) g) LX1_40 rfl KC6 rfl (rm_ok (by decide) (by decide)) (Nat.le_of_ble_eq_true rfl) ⟨Nat.le_refl _, Nat.le_refl _⟩ rfl dX1_errorOf_21 h (fun u11 H locs hG h => ?_)
    refine lv_sipush (v := 128) hx hb dX1_errorOf_24 (by decide) ?_
    refine lv_icmp_ne (tgt := 34) hx hb dX1_errorOf_27 (by decide) (fun c12 => ?_) (fun c12 => ?_)
    · have h := (if_inv h).2 c12
      refine lv_iconst (v := 0) hx hb dX1_errorOf_34 (by decide) ?_
      exact j35 a1 0 g _ _ _ hG (lv_sub hl [1, 2] rfl) h
    · have h := (if_inv h).1 c12
      refine lv_iconst (v := 1) hx hb dX1_errorOf_30 (by decide) ?_
      refine lv_goto (tgt := 35) hx hb dX1_errorOf_31 (by decide) ?_
      exact j35 a1 1 g _ _ _ hG (lv_sub hl [1, 2] rfl) h
def k1_firstMistake_2  : Nat → Int32 → G → Option (Int32 × G)
  | 0, _, _ => none
  | f + 1, v1, g =>
        if (g 3 5) ≤ v1 then
          some ((-1), g)
        else
          (k1_errorOf v1 g).bind fun u2 =>
          bd (up u2.2 14 4 u2.1) fun g3 =>
          if (g3 14 4) = 0 then
            bd (v1 + 1) fun x5 =>
            k1_firstMistake_2 f x5 g3
          else
            some (v1, g3)
def k1_firstMistake  (g : G) : Option (Int32 × G) :=
  k1_firstMistake_2 FU 0 g
set_option maxRecDepth 100000 in
set_option maxHeartbeats 4000000 in
theorem m1_firstMistake (E : EV) (l : Launch) (g : G) : ∀ u, k1_firstMistake g = some u → MI E l yX1_firstMistake cX1_firstMistake 2 (some .int) 5 0 0 [.ref (E.ad 14)] g u := by
  intro u h
  refine MG.of (by decide +kernel) (Nat.le_of_ble_eq_true rfl) ?_
  intro p e s m args below meth c C hr hnm ls hl hG
  have C : Cx p s m args meth c cX1_firstMistake 2 RX1 E := C
  have hx := C.1
  have hb := C.2.1
  have hl : lv_has ls 2 [(0, .ref (E.ad 14))] := hl
  unfold k1_firstMistake at h
  have j2 : ∀ f : Nat, ∀ (v1 : Int32) (g : G) (H : Heap) (locs : List Loc) (ls : Array Slot), Gd E s H locs g [] → lv_has ls 2 [(0, .ref (E.ad 14)), (1, .int v1)] → k1_firstMistake_2 f v1 g = some u → W p l e (rmD 5 0 0) s m args below meth c H locs 0 0 (MQ below (QI E s.heap.size u.1 u.2) args s 0 0 (AA E s.heap.size)) (F0 m 2 ls []) := by
    intro f
    induction f with
    | zero =>
      intro v1 g H locs ls hG hl h
      unfold k1_firstMistake_2 at h
      cases h
    | succ f ih =>
      intro v1 g H locs ls hG hl h
      unfold k1_firstMistake_2 at h
      refine lv_iload_n hx hb dX1_firstMistake_2 rfl (lv_at hl 1 rfl) ?_
      refine lv_aload_n hx hb dX1_firstMistake_3 rfl (lv_at hl 0 rfl) ?_
      refine r_getA (j := 3) C hG FX1_19 rfl rfl dX1_firstMistake_4 ?_
      refine r_getI C hG FX1_27 rfl rfl dX1_firstMistake_7 ?_
      refine lv_icmp_ge (tgt := 37) hx hb dX1_firstMistake_10 (by decide) (fun c1 => ?_) (fun c1 => ?_)
      · have h := (if_inv h).1 c1
        refine lv_iconst (v := (-1)) hx hb dX1_firstMistake_37 (by decide) ?_
        exact r_iret C hG hr rfl dX1_firstMistake_38 h
      · have h := (if_inv h).2 c1
        refine lv_aload_n hx hb dX1_firstMistake_13 rfl (lv_at hl 0 rfl) ?_
        refine lv_aload_n hx hb dX1_firstMistake_14 rfl (lv_at hl 0 rfl) ?_
        refine lv_iload_n hx hb dX1_firstMistake_15 rfl (lv_at hl 1 rfl) ?_
        refine r_callVI C hl.1 hG [.int v1] [.ref (E.ad 14)] (m1_errorOf E l v1 g) LX1_33 rfl KC1 rfl (rm_ok (by decide) (by decide)) (Nat.le_of_ble_eq_true rfl) ⟨Nat.le_refl _, Nat.le_refl _⟩ rfl dX1_firstMistake_16 h (fun u2 H locs hG h => ?_)
        refine r_putI C hG FX1_37 rfl rfl dX1_firstMistake_19 h (fun H locs g3 hG h => ?_)
        refine lv_aload_n hx hb dX1_firstMistake_22 rfl (lv_at hl 0 rfl) ?_
        refine r_getI C hG FX1_37 rfl rfl dX1_firstMistake_23 ?_
        refine lv_if_eq (tgt := 31) hx hb dX1_firstMistake_26 (by decide) (fun c4 => ?_) (fun c4 => ?_)
        · have h := (if_inv h).1 c4
          refine r_iinc (w := 1) (lv' := fun x5 => [(1, .int x5), (0, .ref (E.ad 14))]) C dX1_firstMistake_31 hl (k := 1) rfl (by decide) (by decide) (fun _ => rfl) h (fun x5 ls hl h => ?_)
          refine lv_goto (tgt := 2) hx hb dX1_firstMistake_34 (by decide) ?_
          exact ih x5 g3 _ _ _ hG (lv_sub hl [1, 0] rfl) h
        · have h := (if_inv h).2 c4
          refine lv_iload_n hx hb dX1_firstMistake_29 rfl (lv_at hl 1 rfl) ?_
          exact r_iret C hG hr rfl dX1_firstMistake_30 h
  refine lv_iconst (v := 0) hx hb dX1_firstMistake_0 (by decide) ?_
  refine lv_istore_n (lv' := [(1, .int 0), (0, .ref (E.ad 14))]) hx hb dX1_firstMistake_1 rfl hl (by decide) rfl (fun ls hl => ?_)
  exact j2 FU 0 g _ _ _ hG (lv_sub hl [1, 0] rfl) h
