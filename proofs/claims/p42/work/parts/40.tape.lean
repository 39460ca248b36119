def k5_append_3  : Nat → Int32 → Int32 → G → Option (G)
  | 0, _, _, _ => none
  | f + 1, v1, v2, g =>
        if v2 < 0 then
          some g
        else
          if 2000 ≤ (g 1 1) then
            some g
          else
            sto g 2 2000 (g 1 1) ((v1 >>> (v2 &&& 31)).toInt8.toInt32).toInt8.toInt32 fun g3 =>
            bd (up g3 1 1 ((g3 1 1) + 1)) fun g4 =>
            bd (v2 + (-8)) fun x5 =>
            k5_append_3 f v1 x5 g4
def k5_append  (a1 : Int32) (g : G) : Option (G) :=
  k5_append_3 FU a1 24 g
set_option maxRecDepth 100000 in
set_option maxHeartbeats 4000000 in
theorem m5_append (E : EV) (l : Launch) (a1 : Int32) (g : G) : ∀ u, k5_append a1 g = some u → MV E l yX5_append cX5_append 3 none 0 0 0 [.ref (E.ad 1), .int a1] g u := by
  intro u h
  refine MG.of (by decide +kernel) (Nat.le_of_ble_eq_true rfl) ?_
  intro p e s m args below meth c C hr hnm ls hl hG
  have C : Cx p s m args meth c cX5_append 3 RX5 E := C
  have hx := C.1
  have hb := C.2.1
  have hl : lv_has ls 3 [(0, .ref (E.ad 1)), (1, .int a1)] := hl
  unfold k5_append at h
  have j3 : ∀ f : Nat, ∀ (v1 : Int32) (v2 : Int32) (g : G) (H : Heap) (locs : List Loc) (ls : Array Slot), Gd E s H locs g [] → lv_has ls 3 [(0, .ref (E.ad 1)), (1, .int v1), (2, .int v2)] → k5_append_3 f v1 v2 g = some u → W p l e (rmD 0 0 0) s m args below meth c H locs 0 0 (MQ below (QV E s.heap.size u) args s 0 0 (AA E s.heap.size)) (F0 m 3 ls []) := by
    intro f
    induction f with
    | zero =>
      intro v1 v2 g H locs ls hG hl h
      unfold k5_append_3 at h
      cases h
    | succ f ih =>
      intro v1 v2 g H locs ls hG hl h
      unfold k5_append_3 at h
      refine lv_iload_n hx hb dX5_append_3 rfl (lv_at hl 2 rfl) ?_
      refine lv_if_lt (tgt := 46) hx hb dX5_append_4 (by decide) (fun c1 => ?_) (fun c1 => ?_)
      · have h := (if_inv h).1 c1
        exact r_vret C hG hr dX5_append_46 h
      · have h := (if_inv h).2 c1
        refine lv_aload_n hx hb dX5_append_7 rfl (lv_at hl 0 rfl) ?_
        refine r_getI C hG FX5_15 rfl rfl dX5_append_8 ?_
        refine lv_sipush (v := 2000) hx hb dX5_append_11 (by decide) ?_
        refine lv_icmp_ge (tgt := 46) hx hb dX5_append_14 (by decide) (fun c2 => ?_) (fun c2 => ?_)
        · have h := (if_inv h).1 c2
          exact r_vret C hG hr dX5_append_46 h
        · have h := (if_inv h).2 c2
          refine lv_aload_n hx hb dX5_append_17 rfl (lv_at hl 0 rfl) ?_
          refine r_getA (j := 2) C hG FX5_9 rfl rfl dX5_append_18 ?_
          refine lv_aload_n hx hb dX5_append_21 rfl (lv_at hl 0 rfl) ?_
          refine r_getI C hG FX5_15 rfl rfl dX5_append_22 ?_
          refine lv_iload_n hx hb dX5_append_25 rfl (lv_at hl 1 rfl) ?_
          refine lv_iload_n hx hb dX5_append_26 rfl (lv_at hl 2 rfl) ?_
          refine lv_ishr hx hb dX5_append_27 ?_
          refine lv_i2b hx hb dX5_append_28 rfl ?_
          refine r_bst C hG (N := 2000) rfl (by decide) dX5_append_29 h (fun H locs g3 hG h => ?_)
          refine lv_aload_n hx hb dX5_append_30 rfl (lv_at hl 0 rfl) ?_
          refine lv_dup hx hb dX5_append_31 rfl ?_
          refine r_getI C hG FX5_15 rfl rfl dX5_append_32 ?_
          refine lv_iconst (v := 1) hx hb dX5_append_35 (by decide) ?_
          refine lv_iadd hx hb dX5_append_36 ?_
          refine r_putI C hG FX5_15 rfl rfl dX5_append_37 h (fun H locs g4 hG h => ?_)
          refine r_iinc (w := (-8)) (lv' := fun x5 => [(2, .int x5), (0, .ref (E.ad 1)), (1, .int v1)]) C dX5_append_40 hl (k := 2) rfl (by decide) (by decide) (fun _ => rfl) h (fun x5 ls hl h => ?_)
          refine lv_goto (tgt := 3) hx hb dX5_append_43 (by decide) ?_
          exact ih v1 x5 g4 _ _ _ hG (lv_sub hl [1, 2, 0] rfl) h
  refine lv_bipush (v := 24) hx hb dX5_append_0 (by decide) ?_
  refine lv_istore_n (lv' := [(2, .int 24), (0, .ref (E.ad 1)), (1, .int a1)]) hx hb dX5_append_2 rfl hl (by decide) rfl (fun ls hl => ?_)
  exact j3 FU a1 24 g _ _ _ hG (lv_sub hl [1, 2, 0] rfl) h
def k5_byteAt  (a1 : Int32) (g : G) : Option (Int32) :=
  if a1 < 0 then
    some (-1)
  else
    if (g 1 1) ≤ a1 then
      some (-1)
    else
      ld g 2 2000 a1 fun x3 =>
      some (x3 &&& 255)
set_option maxRecDepth 100000 in
set_option maxHeartbeats 4000000 in
theorem m5_byteAt (E : EV) (l : Launch) (a1 : Int32) (g : G) : ∀ u, k5_byteAt a1 g = some u → MI E l yX5_byteAt cX5_byteAt 2 (some .int) 0 0 0 [.ref (E.ad 1), .int a1] g (u, g) := by
  intro u h
  refine MG.of (by decide +kernel) (Nat.le_of_ble_eq_true rfl) ?_
  intro p e s m args below meth c C hr hnm ls hl hG
  have C : Cx p s m args meth c cX5_byteAt 2 RX5 E := C
  have hx := C.1
  have hb := C.2.1
  have hl : lv_has ls 2 [(0, .ref (E.ad 1)), (1, .int a1)] := hl
  unfold k5_byteAt at h
  refine lv_iload_n hx hb dX5_byteAt_0 rfl (lv_at hl 1 rfl) ?_
  refine lv_if_lt (tgt := 25) hx hb dX5_byteAt_1 (by decide) (fun c1 => ?_) (fun c1 => ?_)
  · have h := (if_inv h).1 c1
    refine lv_iconst (v := (-1)) hx hb dX5_byteAt_25 (by decide) ?_
    exact r_iretP C hG hr rfl dX5_byteAt_26 h
  · have h := (if_inv h).2 c1
    refine lv_iload_n hx hb dX5_byteAt_4 rfl (lv_at hl 1 rfl) ?_
    refine lv_aload_n hx hb dX5_byteAt_5 rfl (lv_at hl 0 rfl) ?_
    refine r_getI C hG FX5_15 rfl rfl dX5_byteAt_6 ?_
    refine lv_icmp_ge (tgt := 25) hx hb dX5_byteAt_9 (by decide) (fun c2 => ?_) (fun c2 => ?_)
    · have h := (if_inv h).1 c2
      refine lv_iconst (v := (-1)) hx hb dX5_byteAt_25 (by decide) ?_
      exact r_iretP C hG hr rfl dX5_byteAt_26 h
    · have h := (if_inv h).2 c2
      refine lv_aload_n hx hb dX5_byteAt_12 rfl (lv_at hl 0 rfl) ?_
      refine r_getA (j := 2) C hG FX5_9 rfl rfl dX5_byteAt_13 ?_
      refine lv_iload_n hx hb dX5_byteAt_16 rfl (lv_at hl 1 rfl) ?_
      refine r_bld C hG (N := 2000) rfl (by decide) dX5_byteAt_17 h (fun x3 h => ?_)
      refine lv_sipush (v := 255) hx hb dX5_byteAt_18 (by decide) ?_
      refine lv_iand hx hb dX5_byteAt_21 ?_
      refine lv_goto (tgt := 26) hx hb dX5_byteAt_22 (by decide) ?_
      exact r_iretP C hG hr rfl dX5_byteAt_26 h
def k5_isBlank  (a0 : Int32) (g : G) : Option (Int32) :=
  if a0 = 32 then
    some 1
  else
    if a0 = 10 then
      some 1
    else
      some 0
set_option maxRecDepth 100000 in
set_option maxHeartbeats 4000000 in
theorem m5_isBlank (E : EV) (l : Launch) (a0 : Int32) (g : G) : ∀ u, k5_isBlank a0 g = some u → MI E l yX5_isBlank cX5_isBlank 1 (some .boolean) 0 0 0 [.int a0] g (u, g) := by
  intro u h
  refine MG.of (by decide +kernel) (Nat.le_of_ble_eq_true rfl) ?_
  intro p e s m args below meth c C hr hnm ls hl hG
  have C : Cx p s m args meth c cX5_isBlank 1 RX5 E := C
  have hx := C.1
  have hb := C.2.1
  have hl : lv_has ls 1 [(0, .int a0)] := hl
  unfold k5_isBlank at h
  refine lv_iload_n hx hb dX5_isBlank_0 rfl (lv_at hl 0 rfl) ?_
  refine lv_bipush (v := 32) hx hb dX5_isBlank_1 (by decide) ?_
  refine lv_icmp_eq (tgt := 12) hx hb dX5_isBlank_3 (by decide) (fun c1 => ?_) (fun c1 => ?_)
  · have h := (if_inv h).1 c1
    refine lv_iconst (v := 1) hx hb dX5_isBlank_12 (by decide) ?_
    refine lv_goto (tgt := 17) hx hb dX5_isBlank_13 (by decide) ?_
    exact r_iretP C hG hr rfl dX5_isBlank_17 h
  · have h := (if_inv h).2 c1
    refine lv_iload_n hx hb dX5_isBlank_6 rfl (lv_at hl 0 rfl) ?_
    refine lv_bipush (v := 10) hx hb dX5_isBlank_7 (by decide) ?_
    refine lv_icmp_ne (tgt := 16) hx hb dX5_isBlank_9 (by decide) (fun c2 => ?_) (fun c2 => ?_)
    · have h := (if_inv h).2 c2
      refine lv_iconst (v := 0) hx hb dX5_isBlank_16 (by decide) ?_
      exact r_iretP C hG hr rfl dX5_isBlank_17 h
    · have h := (if_inv h).1 c2
      refine lv_iconst (v := 1) hx hb dX5_isBlank_12 (by decide) ?_
      refine lv_goto (tgt := 17) hx hb dX5_isBlank_13 (by decide) ?_
      exact r_iretP C hG hr rfl dX5_isBlank_17 h
def k5_skipBlanks_2  (g : G) : Nat → Int32 → Option (Int32)
  | 0, _ => none
  | f + 1, v2 =>
        if (g 1 1) ≤ v2 then
          some v2
        else
          (k5_byteAt v2 g).bind fun u2 =>
          (k5_isBlank u2 g).bind fun u3 =>
          if u3 = 0 then
            some v2
          else
            bd (v2 + 1) fun x5 =>
            k5_skipBlanks_2 g f x5
def k5_skipBlanks  (a1 : Int32) (g : G) : Option (Int32) :=
  k5_skipBlanks_2 g FU a1
set_option maxRecDepth 100000 in
set_option maxHeartbeats 4000000 in
theorem m5_skipBlanks (E : EV) (l : Launch) (a1 : Int32) (g : G) : ∀ u, k5_skipBlanks a1 g = some u → MI E l yX5_skipBlanks cX5_skipBlanks 3 (some .int) 1 0 0 [.ref (E.ad 1), .int a1] g (u, g) := by
  intro u h
  refine MG.of (by decide +kernel) (Nat.le_of_ble_eq_true rfl) ?_
  intro p e s m args below meth c C hr hnm ls hl hG
  have C : Cx p s m args meth c cX5_skipBlanks 3 RX5 E := C
  have hx := C.1
  have hb := C.2.1
  have hl : lv_has ls 3 [(0, .ref (E.ad 1)), (1, .int a1)] := hl
  unfold k5_skipBlanks at h
  have j2 : ∀ f : Nat, ∀ (v2 : Int32) (H : Heap) (locs : List Loc) (ls : Array Slot), Gd E s H locs g [] → lv_has ls 3 [(0, .ref (E.ad 1)), (2, .int v2)] → k5_skipBlanks_2 g f v2 = some u → W p l e (rmD 1 0 0) s m args below meth c H locs 0 0 (MQ below (QI E s.heap.size u g) args s 0 0 (AA E s.heap.size)) (F0 m 2 ls []) := by
    intro f
    induction f with
    | zero =>
      intro v2 H locs ls hG hl h
      unfold k5_skipBlanks_2 at h
      cases h
    | succ f ih =>
      intro v2 H locs ls hG hl h
      unfold k5_skipBlanks_2 at h
      refine lv_iload_n hx hb dX5_skipBlanks_2 rfl (lv_at hl 1 rfl) ?_
      refine lv_aload_n hx hb dX5_skipBlanks_3 rfl (lv_at hl 0 rfl) ?_
      refine r_getI C hG FX5_15 rfl rfl dX5_skipBlanks_4 ?_
      refine lv_icmp_ge (tgt := 27) hx hb dX5_skipBlanks_7 (by decide) (fun c1 => ?_) (fun c1 => ?_)
      · have h := (if_inv h).1 c1
        refine lv_iload_n hx hb dX5_skipBlanks_27 rfl (lv_at hl 1 rfl) ?_
        exact r_iretP C hG hr rfl dX5_skipBlanks_28 h
      · have h := (if_inv h).2 c1
        refine lv_aload_n hx hb dX5_skipBlanks_10 rfl (lv_at hl 0 rfl) ?_
        refine lv_iload_n hx hb dX5_skipBlanks_11 rfl (lv_at hl 1 rfl) ?_
        refine r_callVIP C hl.1 hG [.int v2] [] (m5_byteAt E l v2 g) LX5_19 rfl KC5 rfl (rm_ok (by decide) (by decide)) (Nat.le_of_ble_eq_true rfl) ⟨Nat.le_refl _, Nat.le_refl _⟩ rfl dX5_skipBlanks_12 h (fun u2 H locs hG h => ?_)
        refine r_callSIP C hl.1 hG [.int u2] [] (m5_isBlank E l u2 g) LX5_23 rfl (rm_ok (by decide) (by decide)) (Nat.le_of_ble_eq_true rfl) ⟨Nat.le_refl _, Nat.le_refl _⟩ rfl dX5_skipBlanks_15 h (fun u3 H locs hG h => ?_)
        refine lv_if_eq (tgt := 27) hx hb dX5_skipBlanks_18 (by decide) (fun c4 => ?_) (fun c4 => ?_)
        · have h := (if_inv h).1 c4
          refine lv_iload_n hx hb dX5_skipBlanks_27 rfl (lv_at hl 1 rfl) ?_
          exact r_iretP C hG hr rfl dX5_skipBlanks_28 h
        · have h := (if_inv h).2 c4
          refine r_iinc (w := 1) (lv' := fun x5 => [(2, .int x5), (0, .ref (E.ad 1))]) C dX5_skipBlanks_21 hl (k := 1) rfl (by decide) (by decide) (fun _ => rfl) h (fun x5 ls hl h => ?_)
          refine lv_goto (tgt := 2) hx hb dX5_skipBlanks_24 (by decide) ?_
          exact ih x5 _ _ _ hG (lv_sub hl [1, 0] rfl) h
  refine lv_iload_n hx hb dX5_skipBlanks_0 rfl (lv_at hl 1 rfl) ?_
  refine lv_istore_n (lv' := [(2, .int a1), (0, .ref (E.ad 1)), (1, .int a1)]) hx hb dX5_skipBlanks_1 rfl hl (by decide) rfl (fun ls hl => ?_)
  exact j2 FU a1 _ _ _ hG (lv_sub hl [1, 0] rfl) h
def k5_isDigit  (a0 : Int32) (g : G) : Option (Int32) :=
  if a0 < 48 then
    some 0
  else
    if 57 < a0 then
      some 0
    else
      some 1
set_option maxRecDepth 100000 in
set_option maxHeartbeats 4000000 in
theorem m5_isDigit (E : EV) (l : Launch) (a0 : Int32) (g : G) : ∀ u, k5_isDigit a0 g = some u → MI E l yX5_isDigit cX5_isDigit 1 (some .boolean) 0 0 0 [.int a0] g (u, g) := by
  intro u h
  refine MG.of (by decide +kernel) (Nat.le_of_ble_eq_true rfl) ?_
  intro p e s m args below meth c C hr hnm ls hl hG
  have C : Cx p s m args meth c cX5_isDigit 1 RX5 E := C
  have hx := C.1
  have hb := C.2.1
  have hl : lv_has ls 1 [(0, .int a0)] := hl
  unfold k5_isDigit at h
  refine lv_iload_n hx hb dX5_isDigit_0 rfl (lv_at hl 0 rfl) ?_
  refine lv_bipush (v := 48) hx hb dX5_isDigit_1 (by decide) ?_
  refine lv_icmp_lt (tgt := 16) hx hb dX5_isDigit_3 (by decide) (fun c1 => ?_) (fun c1 => ?_)
  · have h := (if_inv h).1 c1
    refine lv_iconst (v := 0) hx hb dX5_isDigit_16 (by decide) ?_
    exact r_iretP C hG hr rfl dX5_isDigit_17 h
  · have h := (if_inv h).2 c1
    refine lv_iload_n hx hb dX5_isDigit_6 rfl (lv_at hl 0 rfl) ?_
    refine lv_bipush (v := 57) hx hb dX5_isDigit_7 (by decide) ?_
    refine lv_icmp_gt (tgt := 16) hx hb dX5_isDigit_9 (by decide) (fun c2 => ?_) (fun c2 => ?_)
    · have h := (if_inv h).1 c2
      refine lv_iconst (v := 0) hx hb dX5_isDigit_16 (by decide) ?_
      exact r_iretP C hG hr rfl dX5_isDigit_17 h
    · have h := (if_inv h).2 c2
      refine lv_iconst (v := 1) hx hb dX5_isDigit_12 (by decide) ?_
      refine lv_goto (tgt := 17) hx hb dX5_isDigit_13 (by decide) ?_
      exact r_iretP C hG hr rfl dX5_isDigit_17 h
def k5_skipDigits_2  (g : G) : Nat → Int32 → Option (Int32)
  | 0, _ => none
  | f + 1, v2 =>
        if (g 1 1) ≤ v2 then
          some v2
        else
          (k5_byteAt v2 g).bind fun u2 =>
          (k5_isDigit u2 g).bind fun u3 =>
          if u3 = 0 then
            some v2
          else
            bd (v2 + 1) fun x5 =>
            k5_skipDigits_2 g f x5
def k5_skipDigits  (a1 : Int32) (g : G) : Option (Int32) :=
  k5_skipDigits_2 g FU a1
set_option maxRecDepth 100000 in
set_option maxHeartbeats 4000000 in
theorem m5_skipDigits (E : EV) (l : Launch) (a1 : Int32) (g : G) : ∀ u, k5_skipDigits a1 g = some u → MI E l yX5_skipDigits cX5_skipDigits 3 (some .int) 1 0 0 [.ref (E.ad 1), .int a1] g (u, g) := by
  intro u h
  refine MG.of (by decide +kernel) (Nat.le_of_ble_eq_true rfl) ?_
  intro p e s m args below meth c C hr hnm ls hl hG
  have C : Cx p s m args meth c cX5_skipDigits 3 RX5 E := C
  have hx := C.1
  have hb := C.2.1
  have hl : lv_has ls 3 [(0, .ref (E.ad 1)), (1, .int a1)] := hl
  unfold k5_skipDigits at h
  have j2 : ∀ f : Nat, ∀ (v2 : Int32) (H : Heap) (locs : List Loc) (ls : Array Slot), Gd E s H locs g [] → lv_has ls 3 [(0, .ref (E.ad 1)), (2, .int v2)] → k5_skipDigits_2 g f v2 = some u → W p l e (rmD 1 0 0) s m args below meth c H locs 0 0 (MQ below (QI E s.heap.size u g) args s 0 0 (AA E s.heap.size)) (F0 m 2 ls []) := by
    intro f
    induction f with
    | zero =>
      intro v2 H locs ls hG hl h
      unfold k5_skipDigits_2 at h
      cases h
    | succ f ih =>
      intro v2 H locs ls hG hl h
      unfold k5_skipDigits_2 at h
      refine lv_iload_n hx hb dX5_skipDigits_2 rfl (lv_at hl 1 rfl) ?_
      refine lv_aload_n hx hb dX5_skipDigits_3 rfl (lv_at hl 0 rfl) ?_
      refine r_getI C hG FX5_15 rfl rfl dX5_skipDigits_4 ?_
      refine lv_icmp_ge (tgt := 27) hx hb dX5_skipDigits_7 (by decide) (fun c1 => ?_) (fun c1 => ?_)
      · have h := (if_inv h).1 c1
        refine lv_iload_n hx hb dX5_skipDigits_27 rfl (lv_at hl 1 rfl) ?_
        exact r_iretP C hG hr rfl dX5_skipDigits_28 h
      · have h := (if_inv h).2 c1
        refine lv_aload_n hx hb dX5_skipDigits_10 rfl (lv_at hl 0 rfl) ?_
        refine lv_iload_n hx hb dX5_skipDigits_11 rfl (lv_at hl 1 rfl) ?_
        refine r_callVIP C hl.1 hG [.int v2] [] (m5_byteAt E l v2 g) LX5_19 rfl KC5 rfl (rm_ok (by decide) (by decide)) (Nat.le_of_ble_eq_true rfl) ⟨Nat.le_refl _, Nat.le_refl _⟩ rfl dX5_skipDigits_12 h (fun u2 H locs hG h => ?_)
        refine r_callSIP C hl.1 hG [.int u2] [] (m5_isDigit E l u2 g) LX5_27 rfl (rm_ok (by decide) (by decide)) (Nat.le_of_ble_eq_true rfl) ⟨Nat.le_refl _, Nat.le_refl _⟩ rfl dX5_skipDigits_15 h (fun u3 H locs hG h => ?_)
        refine lv_if_eq (tgt := 27) hx hb dX5_skipDigits_18 (by decide) (fun c4 => ?_) (fun c4 => ?_)
        · have h := (if_inv h).1 c4
          refine lv_iload_n hx hb dX5_skipDigits_27 rfl (lv_at hl 1 rfl) ?_
          exact r_iretP C hG hr rfl dX5_skipDigits_28 h
        · have h := (if_inv h).2 c4
          refine r_iinc (w := 1) (lv' := fun x5 => [(2, .int x5), (0, .ref (E.ad 1))]) C dX5_skipDigits_21 hl (k := 1) rfl (by decide) (by decide) (fun _ => rfl) h (fun x5 ls hl h => ?_)
          refine lv_goto (tgt := 2) hx hb dX5_skipDigits_24 (by decide) ?_
          exact ih x5 _ _ _ hG (lv_sub hl [1, 0] rfl) h
  refine lv_iload_n hx hb dX5_skipDigits_0 rfl (lv_at hl 1 rfl) ?_
  refine lv_istore_n (lv' := [(2, .int a1), (0, .ref (E.ad 1)), (1, .int a1)]) hx hb dX5_skipDigits_1 rfl hl (by decide) rfl (fun ls hl => ?_)
  exact j2 FU a1 _ _ _ hG (lv_sub hl [1, 0] rfl) h
def k5_isLetter  (a0 : Int32) (g : G) : Option (Int32) :=
  if a0 < 97 then
    some 0
  else
    if 122 < a0 then
      some 0
    else
      some 1
set_option maxRecDepth 100000 in
set_option maxHeartbeats 4000000 in
theorem m5_isLetter (E : EV) (l : Launch) (a0 : Int32) (g : G) : ∀ u, k5_isLetter a0 g = some u → MI E l yX5_isLetter cX5_isLetter 1 (some .boolean) 0 0 0 [.int a0] g (u, g) := by
  intro u h
  refine MG.of (by decide +kernel) (Nat.le_of_ble_eq_true rfl) ?_
  intro p e s m args below meth c C hr hnm ls hl hG
  have C : Cx p s m args meth c cX5_isLetter 1 RX5 E := C
  have hx := C.1
  have hb := C.2.1
  have hl : lv_has ls 1 [(0, .int a0)] := hl
  unfold k5_isLetter at h
  refine lv_iload_n hx hb dX5_isLetter_0 rfl (lv_at hl 0 rfl) ?_
  refine lv_bipush (v := 97) hx hb dX5_isLetter_1 (by decide) ?_
  refine lv_icmp_lt (tgt := 16) hx hb dX5_isLetter_3 (by decide) (fun c1 => ?_) (fun c1 => ?_)
  · have h := (if_inv h).1 c1
    refine lv_iconst (v := 0) hx hb dX5_isLetter_16 (by decide) ?_
    exact r_iretP C hG hr rfl dX5_isLetter_17 h
  · have h := (if_inv h).2 c1
    refine lv_iload_n hx hb dX5_isLetter_6 rfl (lv_at hl 0 rfl) ?_
    refine lv_bipush (v := 122) hx hb dX5_isLetter_7 (by decide) ?_
    refine lv_icmp_gt (tgt := 16) hx hb dX5_isLetter_9 (by decide) (fun c2 => ?_) (fun c2 => ?_)
    · have h := (if_inv h).1 c2
      refine lv_iconst (v := 0) hx hb dX5_isLetter_16 (by decide) ?_
      exact r_iretP C hG hr rfl dX5_isLetter_17 h
    · have h := (if_inv h).2 c2
      refine lv_iconst (v := 1) hx hb dX5_isLetter_12 (by decide) ?_
      refine lv_goto (tgt := 17) hx hb dX5_isLetter_13 (by decide) ?_
      exact r_iretP C hG hr rfl dX5_isLetter_17 h
def k5_skipLettersAndDigits_2  (g : G) : Nat → Int32 → Option (Int32)
  | 0, _ => none
  | f + 1, v2 =>
        if (g 1 1) ≤ v2 then
          some v2
        else
          (k5_byteAt v2 g).bind fun u2 =>
          (k5_isLetter u2 g).bind fun u3 =>
          if u3 = 0 then
            (k5_byteAt v2 g).bind fun u6 =>
            (k5_isDigit u6 g).bind fun u7 =>
            if u7 = 0 then
              some v2
            else
              bd (v2 + 1) fun x9 =>
              k5_skipLettersAndDigits_2 g f x9
          else
            bd (v2 + 1) fun x5 =>
            k5_skipLettersAndDigits_2 g f x5
def k5_skipLettersAndDigits  (a1 : Int32) (g : G) : Option (Int32) :=
  k5_skipLettersAndDigits_2 g FU a1
set_option maxRecDepth 100000 in
set_option maxHeartbeats 4000000 in
theorem m5_skipLettersAndDigits (E : EV) (l : Launch) (a1 : Int32) (g : G) : ∀ u, k5_skipLettersAndDigits a1 g = some u → MI E l yX5_skipLettersAndDigits cX5_skipLettersAndDigits 3 (some .int) 1 0 0 [.ref (E.ad 1), .int a1] g (u, g) := by
  intro u h
  refine MG.of (by decide +kernel) (Nat.le_of_ble_eq_true rfl) ?_
  intro p e s m args below meth c C hr hnm ls hl hG
  have C : Cx p s m args meth c cX5_skipLettersAndDigits 3 RX5 E := C
  have hx := C.1
  have hb := C.2.1
  have hl : lv_has ls 3 [(0, .ref (E.ad 1)), (1, .int a1)] := hl
  unfold k5_skipLettersAndDigits at h
  have j2 : ∀ f : Nat, ∀ (v2 : Int32) (H : Heap) (locs : List Loc) (ls : Array Slot), Gd E s H locs g [] → lv_has ls 3 [(0, .ref (E.ad 1)), (2, .int v2)] → k5_skipLettersAndDigits_2 g f v2 = some u → W p l e (rmD 1 0 0) s m args below meth c H locs 0 0 (MQ below (QI E s.heap.size u g) args s 0 0 (AA E s.heap.size)) (F0 m 2 ls []) := by
    intro f
    induction f with
    | zero =>
      intro v2 H locs ls hG hl h
      unfold k5_skipLettersAndDigits_2 at h
      cases h
    | succ f ih =>
      intro v2 H locs ls hG hl h
      unfold k5_skipLettersAndDigits_2 at h
      refine lv_iload_n hx hb dX5_skipLettersAndDigits_2 rfl (lv_at hl 1 rfl) ?_
      refine lv_aload_n hx hb dX5_skipLettersAndDigits_3 rfl (lv_at hl 0 rfl) ?_
      refine r_getI C hG FX5_15 rfl rfl dX5_skipLettersAndDigits_4 ?_
      refine lv_icmp_ge (tgt := 38) hx hb dX5_skipLettersAndDigits_7 (by decide) (fun c1 => ?_) (fun c1 => ?_)
      · have h := (if_inv h).1 c1
        refine lv_iload_n hx hb dX5_skipLettersAndDigits_38 rfl (lv_at hl 1 rfl) ?_
        exact r_iretP C hG hr rfl dX5_skipLettersAndDigits_39 h
      · have h := (if_inv h).2 c1
        refine lv_aload_n hx hb dX5_skipLettersAndDigits_10 rfl (lv_at hl 0 rfl) ?_
        refine lv_iload_n hx hb dX5_skipLettersAndDigits_11 rfl (lv_at hl 1 rfl) ?_
        refine r_callVIP C hl.1 hG [.int v2] [] (m5_byteAt E l v2 g) LX5_19 rfl KC5 rfl (rm_ok (by decide) (by decide)) (Nat.le_of_ble_eq_true rfl) ⟨Nat.le_refl _, Nat.le_refl _⟩ rfl dX5_skipLettersAndDigits_12 h (fun u2 H locs hG h => ?_)
        refine r_callSIP C hl.1 hG [.int u2] [] (m5_isLetter E l u2 g) LX5_30 rfl (rm_ok (by decide) (by decide)) (Nat.le_of_ble_eq_true rfl) ⟨Nat.le_refl _, Nat.le_refl _⟩ rfl dX5_skipLettersAndDigits_15 h (fun u3 H locs hG h => ?_)
        refine lv_if_ne (tgt := 32) hx hb dX5_skipLettersAndDigits_18 (by decide) (fun c4 => ?_) (fun c4 => ?_)
        · have h := (if_inv h).2 c4
          refine r_iinc (w := 1) (lv' := fun x5 => [(2, .int x5), (0, .ref (E.ad 1))]) C dX5_skipLettersAndDigits_32 hl (k := 1) rfl (by decide) (by decide) (fun _ => rfl) h (fun x5 ls hl h => ?_)
          refine lv_goto (tgt := 2) hx hb dX5_skipLettersAndDigits_35 (by decide) ?_
          exact ih x5 _ _ _ hG (lv_sub hl [1, 0] rfl) h
        · have h := (if_inv h).1 c4
          refine lv_aload_n hx hb dX5_skipLettersAndDigits_21 rfl (lv_at hl 0 rfl) ?_
          refine lv_iload_n hx hb dX5_skipLettersAndDigits_22 rfl (lv_at hl 1 rfl) ?_
          refine r_callVIP C hl.1 hG [.int v2] [] (m5_byteAt E l v2 g) LX5_19 rfl KC5 rfl (rm_ok (by decide) (by decide)) (Nat.le_of_ble_eq_true rfl) ⟨Nat.le_refl _, Nat.le_refl _⟩ rfl dX5_skipLettersAndDigits_23 h (fun u6 H locs hG h => ?_)
          refine r_callSIP C hl.1 hG [.int u6] [] (m5_isDigit E l u6 g) LX5_27 rfl (rm_ok (by decide) (by decide)) (Nat.le_of_ble_eq_true rfl) ⟨Nat.le_refl _, Nat.le_refl _⟩ rfl dX5_skipLettersAndDigits_26 h (fun u7 H locs hG h => ?_)
          refine lv_if_eq (tgt := 38) hx hb dX5_skipLettersAndDigits_29 (by decide) (fun c8 => ?_) (fun c8 => ?_)
          · have h := (if_inv h).1 c8
            refine lv_iload_n hx hb dX5_skipLettersAndDigits_38 rfl (lv_at hl 1 rfl) ?_
            exact r_iretP C hG hr rfl dX5_skipLettersAndDigits_39 h
          · have h := (if_inv h).2 c8
            refine r_iinc (w := 1) (lv' := fun x9 => [(2, .int x9), (0, .ref (E.ad 1))]) C dX5_skipLettersAndDigits_32 hl (k := 1) rfl (by decide) (by decide) (fun _ => rfl) h (fun x9 ls hl h => ?_)
            refine lv_goto (tgt := 2) hx hb dX5_skipLettersAndDigits_35 (by decide) ?_
            exact ih x9 _ _ _ hG (lv_sub hl [1, 0] rfl) h
  refine lv_iload_n hx hb dX5_skipLettersAndDigits_0 rfl (lv_at hl 1 rfl) ?_
  refine lv_istore_n (lv' := [(2, .int a1), (0, .ref (E.ad 1)), (1, .int a1)]) hx hb dX5_skipLettersAndDigits_1 rfl hl (by decide) rfl (fun ls hl => ?_)
  exact j2 FU a1 _ _ _ hG (lv_sub hl [1, 0] rfl) h
def k5_holdsText_13  (g : G) : Nat → Nat → Int32 → Int32 → Int32 → Option (Int32)
  | 0, _, _, _, _ => none
  | f + 1, v1, v2, v3, v4 =>
        if v3 ≤ v4 then
          some 1
        else
          (k5_byteAt (v2 + v4) g).bind fun u2 =>
          ckS v1 <| (kJ0_charAt_5068e v1 v4 g).bind fun u3 =>
          if u2 = u3 then
            bd (v4 + 1) fun x5 =>
            k5_holdsText_13 g f v1 v2 v3 x5
          else
            some 0
def k5_holdsText  (a1 : Nat) (a2 : Int32) (a3 : Int32) (g : G) : Option (Int32) :=
  ckS a1 <| (kJ0_length_8abf5 a1 g).bind fun u6 =>
  if u6 = a3 then
    k5_holdsText_13 g FU a1 a2 a3 0
  else
    some 0
set_option maxRecDepth 100000 in
set_option maxHeartbeats 4000000 in
theorem m5_holdsText (E : EV) (l : Launch) (a1 : Nat) (a2 : Int32) (a3 : Int32) (g : G) : ∀ u, k5_holdsText a1 a2 a3 g = some u → MI E l yX5_holdsText cX5_holdsText 5 (some .boolean) 5 0 0 [.ref (E.ad 1), .ref (E.aK a1), .int a2, .int a3] g (u, g) := by
  intro u h
  refine MG.of (by decide +kernel) (Nat.le_of_ble_eq_true rfl) ?_
  intro p e s m args below meth c C hr hnm ls hl hG
  have C : Cx p s m args meth c cX5_holdsText 5 RX5 E := C
  have hx := C.1
  have hb := C.2.1
  have hl : lv_has ls 5 [(0, .ref (E.ad 1)), (1, .ref (E.aK a1)), (2, .int a2), (3, .int a3)] := hl
  unfold k5_holdsText at h
  have j13 : ∀ f : Nat, ∀ (v1 : Nat) (v2 : Int32) (v3 : Int32) (v4 : Int32) (H : Heap) (locs : List Loc) (ls : Array Slot), Gd E s H locs g [] → lv_has ls 5 [(0, .ref (E.ad 1)), (1, .ref (E.aK v1)), (2, .int v2), (3, .int v3), (4, .int v4)] → k5_holdsText_13 g f v1 v2 v3 v4 = some u → W p l e (rmD 5 0 0) s m args below meth c H locs 0 0 (MQ below (QI E s.heap.size u g) args s 0 0 (AA E s.heap.size)) (F0 m 13 ls []) := by
    intro f
    induction f with
    | zero =>
      intro v1 v2 v3 v4 H locs ls hG hl h
      unfold k5_holdsText_13 at h
      cases h
    | succ f ih =>
      intro v1 v2 v3 v4 H locs ls hG hl h
      unfold k5_holdsText_13 at h
      refine lv_iload hx hb dX5_holdsText_13 (lv_at hl 4 rfl) ?_
      refine lv_iload_n hx hb dX5_holdsText_15 rfl (lv_at hl 3 rfl) ?_
      refine lv_icmp_ge (tgt := 44) hx hb dX5_holdsText_16 (by decide) (fun c1 => ?_) (fun c1 => ?_)
      · have h := (if_inv h).1 c1
        refine lv_iconst (v := 1) hx hb dX5_holdsText_44 (by decide) ?_
        exact r_iretP C hG hr rfl dX5_holdsText_45 h
      · have h := (if_inv h).2 c1
        refine lv_aload_n hx hb dX5_holdsText_19 rfl (lv_at hl 0 rfl) ?_
        refine lv_iload_n hx hb dX5_holdsText_20 rfl (lv_at hl 2 rfl) ?_
        refine lv_iload hx hb dX5_holdsText_21 (lv_at hl 4 rfl) ?_
        refine lv_iadd hx hb dX5_holdsText_23 ?_
        refine r_callVIP C hl.1 hG [.int (v2 + v4)] [] (m5_byteAt E l (v2 + v4) g) LX5_19 rfl KC5 rfl (rm_ok (by decide) (by decide)) (Nat.le_of_ble_eq_true rfl) ⟨Nat.le_refl _, Nat.le_refl _⟩ rfl dX5_holdsText_24 h (fun u2 H locs hG h => ?_)
        refine lv_aload_n hx hb dX5_holdsText_27 rfl (lv_at hl 1 rfl) ?_
        refine lv_iload hx hb dX5_holdsText_28 (lv_at hl 4 rfl) ?_
        refine r_callVIS C hl.1 hG [.int v4] [.int u2] (mJ0_charAt_5068e E l v1 v4 g) LX5_38 rfl rfl (rm_ok (by decide) (by decide)) (Nat.le_of_ble_eq_true rfl) ⟨Nat.le_refl _, Nat.le_refl _⟩ rfl dX5_holdsText_30 h (fun u3 H locs hG h => ?_)
        refine lv_icmp_eq (tgt := 38) hx hb dX5_holdsText_33 (by decide) (fun c4 => ?_) (fun c4 => ?_)
        · have h := (if_inv h).1 c4
          refine r_iinc (w := 1) (lv' := fun x5 => [(4, .int x5), (0, .ref (E.ad 1)), (1, .ref (E.aK v1)), (2, .int v2), (3, .int v3)]) C dX5_holdsText_38 hl (k := 4) rfl (by decide) (by decide) (fun _ => rfl) h (fun x5 ls hl h => ?_)
          refine lv_goto (tgt := 13) hx hb dX5_holdsText_41 (by decide) ?_
          exact ih v1 v2 v3 x5 _ _ _ hG (lv_sub hl [1, 2, 3, 4, 0] rfl) h
        · have h := (if_inv h).2 c4
          refine lv_iconst (v := 0) hx hb dX5_holdsText_36 (by decide) ?_
          exact r_iretP C hG hr rfl dX5_holdsText_37 h
  refine lv_aload_n hx hb dX5_holdsText_0 rfl (lv_at hl 1 rfl) ?_
  refine r_callVIS C hl.1 hG [] [] (mJ0_length_8abf5 E l a1 g) LX5_33 rfl rfl (rm_ok (by decide) (by decide)) (Nat.le_of_ble_eq_true rfl) ⟨Nat.le_refl _, Nat.le_refl _⟩ rfl dX5_holdsText_1 h (fun u6 H locs hG h => ?_)
  refine lv_iload_n hx hb dX5_holdsText_4 rfl (lv_at hl 3 rfl) ?_
  refine lv_icmp_eq (tgt := 10) hx hb dX5_holdsText_5 (by decide) (fun c7 => ?_) (fun c7 => ?_)
  · have h := (if_inv h).1 c7
    refine lv_iconst (v := 0) hx hb dX5_holdsText_10 (by decide) ?_
    refine lv_istore (lv' := [(4, .int 0), (0, .ref (E.ad 1)), (1, .ref (E.aK a1)), (2, .int a2), (3, .int a3)]) hx hb dX5_holdsText_11 hl (by decide) rfl (fun ls hl => ?_)
    exact j13 FU a1 a2 a3 0 _ _ _ hG (lv_sub hl [1, 2, 3, 4, 0] rfl) h
  · have h := (if_inv h).2 c7
    refine lv_iconst (v := 0) hx hb dX5_holdsText_8 (by decide) ?_
    exact r_iretP C hG hr rfl dX5_holdsText_9 h
def k5_holdsSame_33  (g : G) : Nat → Int32 → Int32 → Int32 → Int32 → Option (Int32)
  | 0, _, _, _, _ => none
  | f + 1, v1, v2, v3, v4 =>
        if v3 ≤ v4 then
          some 1
        else
          ld g 2 2000 (v1 + v4) fun x2 =>
          ld g 2 2000 (v2 + v4) fun x3 =>
          if x2 = x3 then
            bd (v4 + 1) fun x5 =>
            k5_holdsSame_33 g f v1 v2 v3 x5
          else
            some 0
def k5_holdsSame  (a1 : Int32) (a2 : Int32) (a3 : Int32) (g : G) : Option (Int32) :=
  if a1 < 0 then
    some 0
  else
    if ((g 1 1) - a3) < a1 then
      some 0
    else
      if a2 < 0 then
        some 0
      else
        if a2 ≤ ((g 1 1) - a3) then
          k5_holdsSame_33 g FU a1 a2 a3 0
        else
          some 0
set_option maxRecDepth 100000 in
set_option maxHeartbeats 4000000 in
theorem m5_holdsSame (E : EV) (l : Launch) (a1 : Int32) (a2 : Int32) (a3 : Int32) (g : G) : ∀ u, k5_holdsSame a1 a2 a3 g = some u → MI E l yX5_holdsSame cX5_holdsSame 5 (some .boolean) 0 0 0 [.ref (E.ad 1), .int a1, .int a2, .int a3] g (u, g) := by
  intro u h
  refine MG.of (by decide +kernel) (Nat.le_of_ble_eq_true rfl) ?_
  intro p e s m args below meth c C hr hnm ls hl hG
  have C : Cx p s m args meth c cX5_holdsSame 5 RX5 E := C
  have hx := C.1
  have hb := C.2.1
  have hl : lv_has ls 5 [(0, .ref (E.ad 1)), (1, .int a1), (2, .int a2), (3, .int a3)] := hl
  unfold k5_holdsSame at h
  have j33 : ∀ f : Nat, ∀ (v1 : Int32) (v2 : Int32) (v3 : Int32) (v4 : Int32) (H : Heap) (locs : List Loc) (ls : Array Slot), Gd E s H locs g [] → lv_has ls 5 [(0, .ref (E.ad 1)), (1, .int v1), (2, .int v2), (3, .int v3), (4, .int v4)] → k5_holdsSame_33 g f v1 v2 v3 v4 = some u → W p l e (rmD 0 0 0) s m args below meth c H locs 0 0 (MQ below (QI E s.heap.size u g) args s 0 0 (AA E s.heap.size)) (F0 m 33 ls []) := by
    intro f
    induction f with
    | zero =>
      intro v1 v2 v3 v4 H locs ls hG hl h
      unfold k5_holdsSame_33 at h
      cases h
    | succ f ih =>
      intro v1 v2 v3 v4 H locs ls hG hl h
      unfold k5_holdsSame_33 at h
      refine lv_iload hx hb dX5_holdsSame_33 (lv_at hl 4 rfl) ?_
      refine lv_iload_n hx hb dX5_holdsSame_35 rfl (lv_at hl 3 rfl) ?_
      refine lv_icmp_ge (tgt := 68) hx hb dX5_holdsSame_36 (by decide) (fun c1 => ?_) (fun c1 => ?_)
      · have h := (if_inv h).1 c1
        refine lv_iconst (v := 1) hx hb dX5_holdsSame_68 (by decide) ?_
        exact r_iretP C hG hr rfl dX5_holdsSame_69 h
      · have h := (if_inv h).2 c1
        refine lv_aload_n hx hb dX5_holdsSame_39 rfl (lv_at hl 0 rfl) ?_
        refine r_getA (j := 2) C hG FX5_9 rfl rfl dX5_holdsSame_40 ?_
        refine lv_iload_n hx hb dX5_holdsSame_43 rfl (lv_at hl 1 rfl) ?_
        refine lv_iload hx hb dX5_holdsSame_44 (lv_at hl 4 rfl) ?_
        refine lv_iadd hx hb dX5_holdsSame_46 ?_
        refine r_bld C hG (N := 2000) rfl (by decide) dX5_holdsSame_47 h (fun x2 h => ?_)
        refine lv_aload_n hx hb dX5_holdsSame_48 rfl (lv_at hl 0 rfl) ?_
        refine r_getA (j := 2) C hG FX5_9 rfl rfl dX5_holdsSame_49 ?_
        refine lv_iload_n hx hb dX5_holdsSame_52 rfl (lv_at hl 2 rfl) ?_
        refine lv_iload hx hb dX5_holdsSame_53 (lv_at hl 4 rfl) ?_
        refine lv_iadd hx hb dX5_holdsSame_55 ?_
        refine r_bld C hG (N := 2000) rfl (by decide) dX5_holdsSame_56 h (fun x3 h => ?_)
        refine lv_icmp_eq (tgt := 62) hx hb dX5_holdsSame_57 (by decide) (fun c4 => ?_) (fun c4 => ?_)
        · have h := (if_inv h).1 c4
          refine r_iinc (w := 1) (lv' := fun x5 => [(4, .int x5), (0, .ref (E.ad 1)), (1, .int v1), (2, .int v2), (3, .int v3)]) C dX5_holdsSame_62 hl (k := 4) rfl (by decide) (by decide) (fun _ => rfl) h (fun x5 ls hl h => ?_)
          refine lv_goto (tgt := 33) hx hb dX5_holdsSame_65 (by decide) ?_
          exact ih v1 v2 v3 x5 _ _ _ hG (lv_sub hl [1, 2, 3, 4, 0] rfl) h
        · have h := (if_inv h).2 c4
          refine lv_iconst (v := 0) hx hb dX5_holdsSame_60 (by decide) ?_
          exact r_iretP C hG hr rfl dX5_holdsSame_61 h
  refine lv_iload_n hx hb dX5_holdsSame_0 rfl (lv_at hl 1 rfl) ?_
  refine lv_if_lt (tgt := 28) hx hb dX5_holdsSame_1 (by decide) (fun c6 => ?_) (fun c6 => ?_)
  · have h := (if_inv h).1 c6
    refine lv_iconst (v := 0) hx hb dX5_holdsSame_28 (by decide) ?_
    exact r_iretP C hG hr rfl dX5_holdsSame_29 h
  · have h := (if_inv h).2 c6
    refine lv_iload_n hx hb dX5_holdsSame_4 rfl (lv_at hl 1 rfl) ?_
    refine lv_aload_n hx hb dX5_holdsSame_5 rfl (lv_at hl 0 rfl) ?_
    refine r_getI C hG FX5_15 rfl rfl dX5_holdsSame_6 ?_
    refine lv_iload_n hx hb dX5_holdsSame_9 rfl (lv_at hl 3 rfl) ?_
    refine lv_isub hx hb dX5_holdsSame_10 ?_
    refine lv_icmp_gt (tgt := 28) hx hb dX5_holdsSame_11 (by decide) (fun c7 => ?_) (fun c7 => ?_)
    · have h := (if_inv h).1 c7
      refine lv_iconst (v := 0) hx hb dX5_holdsSame_28 (by decide) ?_
      exact r_iretP C hG hr rfl dX5_holdsSame_29 h
    · have h := (if_inv h).2 c7
      refine lv_iload_n hx hb dX5_holdsSame_14 rfl (lv_at hl 2 rfl) ?_
      refine lv_if_lt (tgt := 28) hx hb dX5_holdsSame_15 (by decide) (fun c8 => ?_) (fun c8 => ?_)
      · have h := (if_inv h).1 c8
        refine lv_iconst (v := 0) hx hb dX5_holdsSame_28 (by decide) ?_
        exact r_iretP C hG hr rfl dX5_holdsSame_29 h
      · have h := (if_inv h).2 c8
        refine lv_iload_n hx hb dX5_holdsSame_18 rfl (lv_at hl 2 rfl) ?_
        refine lv_aload_n hx hb dX5_holdsSame_19 rfl (lv_at hl 0 rfl) ?_
        refine r_getI C hG FX5_15 rfl rfl dX5_holdsSame_20 ?_
        refine lv_iload_n hx hb dX5_holdsSame_23 rfl (lv_at hl 3 rfl) ?_
        refine lv_isub hx hb dX5_holdsSame_24 ?_
        refine lv_icmp_le (tgt := 30) hx hb dX5_holdsSame_25 (by decide) (fun c9 => ?_) (fun c9 => ?_)
        · have h := (if_inv h).1 c9
          refine lv_iconst (v := 0) hx hb dX5_holdsSame_30 (by decide) ?_
          refine lv_istore (lv' := [(4, .int 0), (0, .ref (E.ad 1)), (1, .int a1), (2, .int a2), (3, .int a3)]) hx hb dX5_holdsSame_31 hl (by decide) rfl (fun ls hl => ?_)
          exact j33 FU a1 a2 a3 0 _ _ _ hG (lv_sub hl [1, 2, 3, 4, 0] rfl) h
        · have h := (if_inv h).2 c9
          refine lv_iconst (v := 0) hx hb dX5_holdsSame_28 (by decide) ?_
          exact r_iretP C hG hr rfl dX5_holdsSame_29 h
